/-! pure rows: small numbers, and what ties system and reference -/
theorem ix_nI {n N : Nat} (h : n < 2 ^ 31) : ix (nI n) N = decide (n < N) := by
  unfold ix
  rw [nI_clamp h, decide_eq_false (nI_pos h)]
  rfl
theorem ix_t {n N : Nat} (h : n < N) (hN : N < 2 ^ 31) : ix (nI n) N = true := by
  rw [ix_nI (by omega), decide_eq_true h]
theorem b2i_f {b : Bool} : b2i b = 0 ↔ b = false := by cases b <;> decide
theorem w_nI {a b : Nat} (ha : a < 2 ^ 31) (hb : b < 2 ^ 31) : f_X11_within (nI a) (nI b) = some (decide (a < b)) := by
  unfold f_X11_within
  rw [if_neg (nI_pos ha)]
  rcases Nat.lt_or_ge a b with h | h
  · rw [if_neg (nI_ge h hb), decide_eq_true h]
  · rw [if_pos (nI_le h ha), decide_eq_false (by omega)]
theorem w_any (i : Int32) {b : Nat} (hb : b < 2 ^ 31) : (∃ a : Nat, a < b ∧ i = nI a ∧ f_X11_within i (nI b) = some true) ∨ ((i < 0 ∨ nI b ≤ i) ∧ f_X11_within i (nI b) = some false) := by
  rcases pk_ix i hb with h | h | ⟨j, hj, rfl⟩
  · exact Or.inr ⟨Or.inl h, by unfold f_X11_within; rw [if_pos h]⟩
  · refine Or.inr ⟨Or.inr h, ?_⟩
    unfold f_X11_within
    by_cases h0 : i < 0
    · rw [if_pos h0]
    · rw [if_neg h0, if_pos h]
  · exact Or.inl ⟨j, hj, rfl, by rw [w_nI (by omega) hb, decide_eq_true hj]⟩
theorem upd_same {f : Nat → Int32} {k : Nat} {x : Int32} : upd f k x k = x := by simp [upd]
theorem upd_ne {f : Nat → Int32} {k j : Nat} {x : Int32} (h : j ≠ k) : upd f k x j = f j := by simp [upd, h]
theorem or_le (x : Int32) : x.toInt8.toInt32 &&& 255 = x &&& 255 := bp_b x
/-- the tape: the same bytes, unsigned here, signed there -/
def ITape (ts : Int32) (tb : Nat → Int32) (mt : Int32) (mb : Nat → Int32) : Prop := ∃ t : Nat, t ≤ 600 ∧ ts = nI t ∧ mt = nI t ∧ ∀ k, k < t → tb k = mb k &&& 255
theorem ab_step (y : Int32) (n : Nat) (x : Int32) (t : Nat) (tb : Nat → Int32) (K : Int32 → Int32 → (Nat → Int32) → Option (Int32 × (Nat → Int32))) (hx : ¬ x < 0) (ht : t < 600) :
    lp_X10_addBytesOf_3 y (n + 1) x (nI t) tb K = lp_X10_addBytesOf_3 y n (x + (-8)) (nI (t + 1)) (upd tb t ((jushr y x) &&& 255)) K := by
  rw [lp_X10_addBytesOf_3, if_neg hx, show (600 : Int32) = nI 600 from rfl, w_nI (by omega) (by omega), decide_eq_true ht, Option.bind_some, if_neg (by decide), if_pos (ix_t ht (by decide)), nI_clamp (by omega), nI_1]
theorem ty_step (y : Int32) (n : Nat) (x : Int32) (t : Nat) (tb : Nat → Int32) (K : Int32 → Int32 → (Nat → Int32) → Option (Int32 × (Nat → Int32))) (hx : ¬ x < 0) (ht : t < 600) :
    lp_X12_types_2 y (n + 1) x (nI t) tb K = lp_X12_types_2 y n (x + (-1)) (nI (t + 1)) (upd tb t (vp_nar .byte ((y >>> (((8 : Int32) * x) &&& 31)).toInt8.toInt32))) K := by
  rw [lp_X12_types_2, if_neg hx, if_pos (ix_t ht (by decide)), nI_clamp (by omega), nI_1]
def by4 (tb : Nat → Int32) (t : Nat) (y : Int32) : Nat → Int32 := upd (upd (upd (upd tb t (jushr y 24 &&& 255)) (t + 1) (jushr y 16 &&& 255)) (t + 2) (jushr y 8 &&& 255)) (t + 3) (jushr y 0 &&& 255)
def my4 (tb : Nat → Int32) (t : Nat) (y : Int32) : Nat → Int32 := upd (upd (upd (upd tb t (vp_nar .byte ((y >>> (((8 : Int32) * 3) &&& 31)).toInt8.toInt32))) (t + 1) (vp_nar .byte ((y >>> (((8 : Int32) * 2) &&& 31)).toInt8.toInt32))) (t + 2) (vp_nar .byte ((y >>> (((8 : Int32) * 1) &&& 31)).toInt8.toInt32))) (t + 3) (vp_nar .byte ((y >>> (((8 : Int32) * 0) &&& 31)).toInt8.toInt32))
theorem ab_all (t : Nat) (tb : Nat → Int32) (y : Int32) (ht : t + 4 ≤ 600) : f_X10_addBytesOf (nI t) tb y = some (nI (t + 4), by4 tb t y) := by
  unfold f_X10_addBytesOf
  rw [show (5000 : Nat) = 4995 + 1 + 1 + 1 + 1 + 1 from rfl, ab_step y _ 24 t tb _ (by decide) (by omega), show (24 : Int32) + (-8) = 16 by decide, ab_step y _ 16 _ _ _ (by decide) (by omega), show (16 : Int32) + (-8) = 8 by decide, ab_step y _ 8 _ _ _ (by decide) (by omega), show (8 : Int32) + (-8) = 0 by decide, ab_step y _ 0 _ _ _ (by decide) (by omega), show (0 : Int32) + (-8) = -8 by decide, lp_X10_addBytesOf_3, if_pos (by decide)]
  rfl
theorem ty_all (t : Nat) (tb : Nat → Int32) (y : Int32) (ht : t + 4 ≤ 600) : f_X12_types (nI t) tb y = some (nI (t + 4), my4 tb t y) := by
  unfold f_X12_types
  rw [show (5000 : Nat) = 4995 + 1 + 1 + 1 + 1 + 1 from rfl, ty_step y _ 3 t tb _ (by decide) (by omega), show (3 : Int32) + (-1) = 2 by decide, ty_step y _ 2 _ _ _ (by decide) (by omega), show (2 : Int32) + (-1) = 1 by decide, ty_step y _ 1 _ _ _ (by decide) (by omega), show (1 : Int32) + (-1) = 0 by decide, ty_step y _ 0 _ _ _ (by decide) (by omega), show (0 : Int32) + (-1) = -1 by decide, lp_X12_types_2, if_pos (by decide)]
  rfl
theorem sh_255 (y : Int32) (n : Nat) (hn : n ≤ 24) : jushr y (nI n) &&& 255 = (y >>> (nI n &&& 31)) &&& 255 := by
  apply b_ext
  intro i hi
  rw [b_and, b_and, b_255]
  by_cases h8 : i < 8
  · unfold jushr
    rw [b_ushr n (by omega), b_sshr n (by omega) _ hi, if_pos (by omega)]
  · simp [h8]
theorem nar_255 (x : Int32) : vp_nar .byte (x.toInt8.toInt32) &&& 255 = x &&& 255 := by
  rw [vp_nar_byte, or_le, or_le]
theorem four_ok {tb mb : Nat → Int32} {t : Nat} (y : Int32) (h : ∀ k, k < t → tb k = mb k &&& 255) : ∀ k, k < t + 4 → by4 tb t y k = my4 mb t y k &&& 255 := by
  intro k hk
  unfold by4 my4
  by_cases h3 : k = t + 3
  · subst h3; rw [upd_same, upd_same, nar_255]; exact sh_255 y 0 (by omega)
  rw [upd_ne h3, upd_ne h3]
  by_cases h2 : k = t + 2
  · subst h2; rw [upd_same, upd_same, nar_255]; exact sh_255 y 8 (by omega)
  rw [upd_ne h2, upd_ne h2]
  by_cases h1 : k = t + 1
  · subst h1; rw [upd_same, upd_same, nar_255]; exact sh_255 y 16 (by omega)
  rw [upd_ne h1, upd_ne h1]
  by_cases h0 : k = t
  · subst h0; rw [upd_same, upd_same, nar_255]; exact sh_255 y 24 (by omega)
  rw [upd_ne h0, upd_ne h0]
  exact h k (by omega)
theorem feed_ok {ts mt : Int32} {tb mb : Nat → Int32} (a b c d e : Int32) (h : ITape ts tb mt mb) : ∃ (r u1 : Int32) (u2 : Nat → Int32) (w1 : Int32) (w2 : Nat → Int32), f_X11_feed ts tb a b c d e = some (r, u1, u2) ∧ f_X12_feed mt mb a b c d e = some (r, w1, w2) ∧ ITape u1 u2 w1 w2 := by
  obtain ⟨t, ht, rfl, rfl, hk⟩ := h
  unfold f_X11_feed f_X12_feed
  rw [show (580 : Int32) = nI 580 from rfl, show (600 : Int32) = nI 600 from rfl, show nI t + (20 : Int32) = nI (t + 20) from nI_add t 20]
  by_cases h5 : t ≤ 580
  · rw [if_pos (nI_le h5 (by omega)), if_pos (nI_le (by omega) (by omega))]
    rw [ab_all t _ a (by omega), Option.bind_some, ty_all t _ a (by omega), Option.bind_some]
    dsimp only
    rw [ab_all (t + 4) _ b (by omega), Option.bind_some, ty_all (t + 4) _ b (by omega), Option.bind_some]
    dsimp only
    rw [ab_all (t + 4 + 4) _ c (by omega), Option.bind_some, ty_all (t + 4 + 4) _ c (by omega), Option.bind_some]
    dsimp only
    rw [ab_all (t + 4 + 4 + 4) _ d (by omega), Option.bind_some, ty_all (t + 4 + 4 + 4) _ d (by omega), Option.bind_some]
    dsimp only
    rw [ab_all (t + 4 + 4 + 4 + 4) _ e (by omega), Option.bind_some, ty_all (t + 4 + 4 + 4 + 4) _ e (by omega), Option.bind_some]
    exact ⟨_, _, _, _, _, rfl, rfl, t + 4 + 4 + 4 + 4 + 4, by omega, rfl, rfl, four_ok e (four_ok d (four_ok c (four_ok b (four_ok a hk))))⟩
  · rw [if_neg (nI_ge (by omega) (by omega)), if_neg (nI_ge (by omega) (by omega))]
    exact ⟨_, _, _, _, _, rfl, rfl, t, ht, rfl, rfl, hk⟩
