section DHA
/-! numbers and stores: rows of kit/rows -/
theorem pk_us {f : Nat → Int32} {k : Nat} {x : Int32} : upd f k x k = x := if_pos rfl
theorem pk_un {f : Nat → Int32} {k j : Nat} {x : Int32} (h : j ≠ k) : upd f k x j = f j := if_neg h
theorem pk_sub {a b : Nat} (h : b ≤ a) : nI a - nI b = nI (a - b) := by
  obtain ⟨c, rfl⟩ : ∃ c, a = c + b := ⟨a - b, by omega⟩
  rw [← nI_add, Int32.add_sub_cancel, Nat.add_sub_cancel]
theorem pk_m1 (n : Nat) : nI (n + 1) + (-1) = nI n := by
  rw [← nI_1, Int32.add_assoc, show (1 : Int32) + (-1) = 0 from rfl, Int32.add_zero]
theorem pk_mul (a b : Nat) : nI a * nI b = nI (a * b) := (Int32.ofNat_mul a b).symm
theorem pk_ix (x : Int32) {n : Nat} (hn : n < 2 ^ 31) : x < 0 ∨ nI n ≤ x ∨ ∃ j : Nat, j < n ∧ x = nI j := by
  by_cases h : x < 0
  · exact Or.inl h
  · obtain ⟨j, hj, rfl⟩ := nI_of h
    by_cases h2 : j < n
    · exact Or.inr (Or.inr ⟨j, h2, rfl⟩)
    · exact Or.inr (Or.inl (nI_le (by omega) hj))
theorem pk_le {x y : Int32} {A B : Prop} (a b : Nat) (f : a ≤ b → A) (g : b < a → B) (hx : x = nI a := by rfl) (hy : y = nI b := by rfl) (ha : a < 2 ^ 31 := by omega) (hb : b < 2 ^ 31 := by omega) : (x ≤ y → A) ∧ (¬ x ≤ y → B) := by
  subst hx hy
  rw [nI_leI ha hb]
  exact ⟨f, fun z => g (by omega)⟩
theorem pk_lt {x y : Int32} {A B : Prop} (a b : Nat) (f : a < b → A) (g : b ≤ a → B) (hx : x = nI a := by rfl) (hy : y = nI b := by rfl) (ha : a < 2 ^ 31 := by omega) (hb : b < 2 ^ 31 := by omega) : (x < y → A) ∧ (¬ x < y → B) := by
  subst hx hy
  rw [nI_ltI ha hb]
  exact ⟨f, fun z => g (by omega)⟩
theorem pk_eq {x y : Int32} {A B : Prop} (a b : Nat) (f : a = b → A) (g : a ≠ b → B) (hx : x = nI a := by rfl) (hy : y = nI b := by rfl) (ha : a < 2 ^ 31 := by omega) (hb : b < 2 ^ 31 := by omega) : (x = y → A) ∧ (¬ x = y → B) := by
  subst hx hy
  rw [nI_eq ha hb]
  exact ⟨f, g⟩
theorem pk_in {x : Int32} (n N : Nat) (h : n < N) (hx : x = nI n := by rfl) (hN : N < 2 ^ 31 := by omega) : vp_in x N := by
  subst hx
  exact vp_in_nI h hN
theorem pk_cl {x : Int32} (n : Nat) (hx : x = nI n := by rfl) (h : n < 2 ^ 31 := by omega) : x.toNatClampNeg = n := by
  subst hx
  exact nI_clamp h
theorem pk_tn {n : Nat} (h : n < 2 ^ 32) : (nI n).toBitVec.toNat = n := Nat.mod_eq_of_lt h
theorem pk_and (x : Int32) {m : Int32} (k : Nat) (hm : m.toBitVec.toNat = 2 ^ k - 1) : x &&& m = nI (x.toBitVec.toNat % 2 ^ k) := by
  apply Int32.toBitVec_inj.mp
  apply BitVec.eq_of_toNat_eq
  rw [Int32.toBitVec_and, BitVec.toNat_and, hm, Nat.and_two_pow_sub_one_eq_mod]
  show _ = (BitVec.ofNat 32 _).toNat
  rw [BitVec.toNat_ofNat]
  exact (Nat.mod_eq_of_lt (Nat.lt_of_le_of_lt (Nat.mod_le _ _) x.toBitVec.isLt)).symm
theorem pk_andN {n : Nat} (h : n < 2 ^ 32) {m : Int32} (k : Nat) (hm : m.toBitVec.toNat = 2 ^ k - 1) : nI n &&& m = nI (n % 2 ^ k) := by
  rw [pk_and _ k hm, pk_tn h]
theorem pk_andE (x : Int32) {m : Int32} (k : Nat) (hm : m.toBitVec.toNat = 2 ^ k - 1) : ∃ j : Nat, j < 2 ^ k ∧ x &&& m = nI j := ⟨_, Nat.mod_lt _ (Nat.two_pow_pos k), pk_and x k hm⟩
theorem pk_andIn (x : Int32) {m : Int32} (k : Nat) (hm : m.toBitVec.toNat = 2 ^ k - 1) (hk : k ≤ 30) : vp_in (x &&& m) (2 ^ k) := by
  obtain ⟨j, hj, e⟩ := pk_andE x k hm
  rw [e]
  exact vp_in_nI hj (Nat.lt_of_le_of_lt (Nat.pow_le_pow_right (by decide) hk) (by decide))
theorem pk_shr (a s : Int32) (k : Nat) (hs : (s.toBitVec.smod 32).toNat = k) : (a >>> s).toInt = a.toInt >>> k := by
  show (a.toBitVec.sshiftRight (s.toBitVec.smod 32).toNat).toInt = _
  rw [hs, BitVec.toInt_sshiftRight]
  rfl
theorem pk_shrN {n : Nat} (h : n < 2 ^ 31) (s : Int32) (k : Nat) (hs : (s.toBitVec.smod 32).toNat = k) : nI n >>> s = nI (n / 2 ^ k) := by
  apply Int32.toInt_inj.mp
  have h2 : n / 2 ^ k ≤ n := Nat.div_le_self _ _
  rw [pk_shr _ _ k hs, nI_toInt h, nI_toInt (by omega), Int.shiftRight_eq_div_pow]
  rfl

/-! sizes, kinds and the layout of the code -/
def dh_sz (x : Int32) : Nat := if x = 0 then 1 else if x = 7 then 1 else if x = 5 then 3 else 2
theorem dh_sz_pos (x : Int32) : 1 ≤ dh_sz x ∧ dh_sz x ≤ 3 := by
  unfold dh_sz
  split
  · omega
  · split
    · omega
    · split <;> omega
def dh_OK (x y : Int32) : Prop :=
  x = 0 ∨ x = 7 ∨ x = 4 ∨ x = 6 ∨ (x = 5 ∧ ∃ o : Nat, o < 4 ∧ y = nI o) ∨ ((x = 1 ∨ x = 2 ∨ x = 8) ∧ ∃ o : Nat, o < 4 ∧ y = nI o) ∨ (x = 3 ∧ ∃ o : Nat, o < 16 ∧ y = nI o)
theorem dh_OK_c {x y y' : Int32} (h : dh_OK x y) (e : 2 ≤ dh_sz x → y' = y) : dh_OK x y' := by
  rcases h with h | h | h | h | ⟨h, o, ho, hy⟩ | ⟨h, o, ho, hy⟩ | ⟨h, o, ho, hy⟩
  · exact Or.inl h
  · exact Or.inr (Or.inl h)
  · exact Or.inr (Or.inr (Or.inl h))
  · exact Or.inr (Or.inr (Or.inr (Or.inl h)))
  · exact Or.inr (Or.inr (Or.inr (Or.inr (Or.inl ⟨h, o, ho, (e (by rw [h]; decide)).trans hy⟩))))
  · exact Or.inr (Or.inr (Or.inr (Or.inr (Or.inr (Or.inl ⟨h, o, ho, (e (by rcases h with h | h | h <;> rw [h] <;> decide)).trans hy⟩)))))
  · exact Or.inr (Or.inr (Or.inr (Or.inr (Or.inr (Or.inr ⟨h, o, ho, (e (by rw [h]; decide)).trans hy⟩)))))
def dh_W1 (c b : Nat → Int32) (L a : Nat) : Prop :=
  a + dh_sz (c a) ≤ L ∧ (∀ j, a < j → j < a + dh_sz (c a) → b j = 0) ∧ (a + dh_sz (c a) < L → b (a + dh_sz (c a)) ≠ 0) ∧ dh_OK (c a) (c (a + 1))
def dh_WF (c b : Nat → Int32) (L : Nat) : Prop := L ≤ 64 ∧ ∀ a, a < L → b a ≠ 0 → dh_W1 c b L a
theorem dh_WF_c {c b c' b' : Nat → Int32} {L : Nat} (h : dh_WF c b L) (e : ∀ j, j < L → c' j = c j ∧ b' j = b j) : dh_WF c' b' L := by
  refine ⟨h.1, fun a ha hb => ?_⟩
  rw [(e a ha).2] at hb
  obtain ⟨h1, h2, h3, h4⟩ := h.2 a ha hb
  have ec := (e a ha).1
  unfold dh_W1
  rw [ec]
  refine ⟨h1, fun j hj hj2 => ?_, fun hl => ?_, dh_OK_c h4 fun h5 => (e (a + 1) (by omega)).1⟩
  · rw [(e j (by omega)).2]; exact h2 j hj hj2
  · rw [(e _ hl).2]; exact h3 hl
theorem dh_WF_a {c b c1 b1 : Nat → Int32} {L s : Nat} (h : dh_WF c b L) (hs : dh_sz (c1 L) = s) (hL : L + s ≤ 64)
    (e : ∀ j, j < L → c1 j = c j ∧ b1 j = b j) (hb : b1 L ≠ 0) (hz : ∀ j, L < j → j < L + s → b1 j = 0) (ho : dh_OK (c1 L) (c1 (L + 1))) : dh_WF c1 b1 (L + s) := by
  refine ⟨hL, fun a ha hba => ?_⟩
  rcases Nat.lt_trichotomy a L with hl | hl | hl
  · rw [(e a hl).2] at hba
    obtain ⟨h1, h2, h3, h4⟩ := h.2 a hl hba
    have ec := (e a hl).1
    unfold dh_W1
    rw [ec]
    refine ⟨by omega, fun j hj hj2 => ?_, fun hl2 => ?_, dh_OK_c h4 fun h5 => (e (a + 1) (by omega)).1⟩
    · rw [(e j (by omega)).2]; exact h2 j hj hj2
    · by_cases h6 : a + dh_sz (c a) < L
      · rw [(e _ h6).2]; exact h3 h6
      · have h7 : a + dh_sz (c a) = L := by omega
        rw [h7]; exact hb
  · subst hl
    unfold dh_W1
    rw [hs]
    exact ⟨Nat.le_refl _, hz, fun h6 => absurd h6 (Nat.lt_irrefl _), ho⟩
  · exact absurd (hz a hl ha) hba
/-! how many are hooked -/
def dh_cnt (H : Nat → Int32) : Nat → Nat
  | 0 => 0
  | n + 1 => dh_cnt H n + (if H n = 0 then 0 else 1)
theorem dh_cnt_s (H : Nat → Int32) (n : Nat) : dh_cnt H (n + 1) = dh_cnt H n + (if H n = 0 then 0 else 1) := rfl
theorem dh_cnt_le (H : Nat → Int32) : ∀ n, dh_cnt H n ≤ n := by
  intro n
  induction n with
  | zero => exact Nat.le_refl _
  | succ n ih =>
    rw [dh_cnt_s]
    split <;> omega
theorem dh_cnt_lo {H : Nat → Int32} {a : Nat} {x : Int32} : ∀ n, n ≤ a → dh_cnt (upd H a x) n = dh_cnt H n := by
  intro n
  induction n with
  | zero => intro _; rfl
  | succ n ih =>
    intro h
    rw [dh_cnt_s, dh_cnt_s, ih (by omega), pk_un (by omega)]
theorem dh_cnt_u {H : Nat → Int32} {a : Nat} {x : Int32} : ∀ n, a < n → dh_cnt (upd H a x) n + (if H a = 0 then 0 else 1) = dh_cnt H n + (if x = 0 then 0 else 1) := by
  intro n
  induction n with
  | zero => intro h; omega
  | succ n ih =>
    intro h
    rw [dh_cnt_s, dh_cnt_s]
    by_cases e : a = n
    · subst e
      rw [dh_cnt_lo a (Nat.le_refl _), pk_us]; omega
    · rw [pk_un (by omega)]
      have := ih (by omega)
      omega
theorem dh_cnt_on {H : Nat → Int32} {a : Nat} {x : Int32} (h : H a = 0) (hx : ¬ x = 0) (ha : a < 64) : dh_cnt (upd H a x) 64 = dh_cnt H 64 + 1 := by
  have := dh_cnt_u (H := H) (x := x) 64 ha
  rw [if_pos h, if_neg hx] at this
  omega
theorem dh_cnt_off {H : Nat → Int32} {a : Nat} (h : ¬ H a = 0) (ha : a < 64) : dh_cnt (upd H a 0) 64 + 1 = dh_cnt H 64 := by
  have := dh_cnt_u (H := H) (x := 0) 64 ha
  rw [if_neg h, if_pos rfl] at this
  omega
/-! numbers -/
theorem dh_and255 {o : Nat} (h : o < 256) : nI o &&& 255 = nI o := by
  rw [pk_andN (by omega) 8 (by decide), Nat.mod_eq_of_lt (by omega)]
theorem dh_and3 {o : Nat} (h : o < 4) : nI o &&& 3 = nI o := by
  rw [pk_andN (by omega) 2 (by decide), Nat.mod_eq_of_lt (by omega)]
theorem dh_and3' (o : Nat) (h : o < 2 ^ 31) : nI o &&& 3 = nI (o % 4) := pk_andN (by omega) 2 (by decide)
theorem dh_tgt (n r : Int32) : n + (r - 256) = n + r - 256 := by
  rw [Int32.sub_eq_add_neg, Int32.sub_eq_add_neg, Int32.add_assoc]
theorem dh_rel (r : Int32) : r < 128 ↔ r ≤ 127 := by
  rw [Int32.lt_iff_toInt_lt, Int32.le_iff_toInt_le, show (128 : Int32).toInt = 128 from by decide, show (127 : Int32).toInt = 127 from by decide]
  omega
end DHA
