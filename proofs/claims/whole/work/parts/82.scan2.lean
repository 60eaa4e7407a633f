theorem sp_ne (st : Int32) (tb : Nat → Int32) {w m : Nat} (hm : m < 2 ^ 31) (hl : lenJS.getD w 0 < 2 ^ 31) (h : m ≠ lenJS.getD w 0) : f_X7_spells st tb w (nI m) = some false := by
  unfold f_X7_spells
  rw [if_neg (by rw [nI_eq hm hl]; exact h)]
theorem sp_step {y : Int32} {tb : Nat → Int32} {b w i L : Nat} {c : Int32} (hL : lenJS.getD w 0 = L) (hi : i < L) (hL2 : L ≤ 4) (hb : b + i < 600) (hc : (bytJS.getD w []).getD i 0 = c) (n : Nat) (K : Int32 → Option Bool) :
    lp_X7_spells_12 y (nI b) tb w (n + 1) (nI i) K = if tb (b + i) = c then lp_X7_spells_12 y (nI b) tb w n (nI (i + 1)) K else some false := by
  rw [lp_X7_spells_12, hL, if_neg (nI_ge hi (by omega)), nI_add, byte_x hb, Option.bind_some, if_pos (ix_t hi (by omega)), nI_clamp (by omega), hc, nI_1]
theorem sp_end {y : Int32} {tb : Nat → Int32} {b w L : Nat} (hL : lenJS.getD w 0 = L) (hL2 : L ≤ 4) (n : Nat) (K : Int32 → Option Bool) : lp_X7_spells_12 y (nI b) tb w (n + 1) (nI L) K = K (nI L) := by
  rw [lp_X7_spells_12, hL, if_pos (nI_le (Nat.le_refl _) (by omega))]
theorem sp_some {tb : Nat → Int32} {b : Nat} (hb : b + 3 < 600) : f_X7_spells (nI b) tb 0 (nI 4) = some (decide (tb b = 115) && (decide (tb (b + 1) = 111) && (decide (tb (b + 2) = 109) && decide (tb (b + 3) = 101)))) := by
  unfold f_X7_spells
  rw [if_pos (c := nI 4 = nI (lenJS.getD 0 0)) rfl, show (0 : Int32) = nI 0 from rfl, show (5000 : Nat) = 4995 + 1 + 1 + 1 + 1 + 1 from rfl, sp_step (i := 0) (c := 115) (L := 4) rfl (by omega) (by omega) (by omega) rfl, sp_step (i := 0 + 1) (c := 111) (L := 4) rfl (by omega) (by omega) (by omega) rfl, sp_step (i := 0 + 1 + 1) (c := 109) (L := 4) rfl (by omega) (by omega) (by omega) rfl, sp_step (i := 0 + 1 + 1 + 1) (c := 101) (L := 4) rfl (by omega) (by omega) (by omega) rfl, sp_end (L := 4) rfl (by omega), Nat.add_zero]
  by_cases h0 : tb b = 115
  · by_cases h1 : tb (b + (0 + 1)) = 111
    · by_cases h2 : tb (b + (0 + 1 + 1)) = 109
      · by_cases h3 : tb (b + (0 + 1 + 1 + 1)) = 101
        · rw [if_pos h0, if_pos h1, if_pos h2, if_pos h3, decide_eq_true h0, decide_eq_true h1, decide_eq_true h2, decide_eq_true h3]; rfl
        · rw [if_pos h0, if_pos h1, if_pos h2, if_neg h3, decide_eq_true h0, decide_eq_true h1, decide_eq_true h2, decide_eq_false h3]; rfl
      · rw [if_pos h0, if_pos h1, if_neg h2, decide_eq_true h0, decide_eq_true h1, decide_eq_false h2]; rfl
    · rw [if_pos h0, if_neg h1, decide_eq_true h0, decide_eq_false h1]; rfl
  · rw [if_neg h0, decide_eq_false h0]; rfl
theorem sp_all {tb : Nat → Int32} {b : Nat} (hb : b + 2 < 600) : f_X7_spells (nI b) tb 1 (nI 3) = some (decide (tb b = 97) && (decide (tb (b + 1) = 108) && decide (tb (b + 2) = 108))) := by
  unfold f_X7_spells
  rw [if_pos (c := nI 3 = nI (lenJS.getD 1 0)) rfl, show (0 : Int32) = nI 0 from rfl, show (5000 : Nat) = 4996 + 1 + 1 + 1 + 1 from rfl, sp_step (i := 0) (c := 97) (L := 3) rfl (by omega) (by omega) (by omega) rfl, sp_step (i := 0 + 1) (c := 108) (L := 3) rfl (by omega) (by omega) (by omega) rfl, sp_step (i := 0 + 1 + 1) (c := 108) (L := 3) rfl (by omega) (by omega) (by omega) rfl, sp_end (L := 3) rfl (by omega), Nat.add_zero]
  by_cases h0 : tb b = 97
  · by_cases h1 : tb (b + (0 + 1)) = 108
    · by_cases h2 : tb (b + (0 + 1 + 1)) = 108
      · rw [if_pos h0, if_pos h1, if_pos h2, decide_eq_true h0, decide_eq_true h1, decide_eq_true h2]; rfl
      · rw [if_pos h0, if_pos h1, if_neg h2, decide_eq_true h0, decide_eq_true h1, decide_eq_false h2]; rfl
    · rw [if_pos h0, if_neg h1, decide_eq_true h0, decide_eq_false h1]; rfl
  · rw [if_neg h0, decide_eq_false h0]; rfl
theorem small_nat {x : Int32} (h : isS x = true) : ∃ l : Nat, 97 ≤ l ∧ l ≤ 122 ∧ x = nI l := by
  unfold isS at h
  simp only [Bool.and_eq_true, Bool.not_eq_true', decide_eq_false_iff_not] at h
  rcases pk_ix x (show 123 < 2 ^ 31 by omega) with q | q | ⟨j, hj, rfl⟩
  · exact absurd (Int32.lt_trans q (by decide)) h.1
  · exact absurd (Int32.lt_of_lt_of_le (show (122 : Int32) < nI 123 by decide) q) h.2
  · refine ⟨j, ?_, by omega, rfl⟩
    rcases Nat.lt_or_ge j 97 with c | c
    · exact absurd (show nI j < 97 from nI_lt (b := 97) c (by omega)) h.1
    · exact c
theorem digit_nat {x : Int32} (h : isD x = true) : ∃ l : Nat, 48 ≤ l ∧ l ≤ 57 ∧ x = nI l := by
  unfold isD at h
  simp only [Bool.and_eq_true, Bool.not_eq_true', decide_eq_false_iff_not] at h
  rcases pk_ix x (show 58 < 2 ^ 31 by omega) with q | q | ⟨j, hj, rfl⟩
  · exact absurd (Int32.lt_trans q (by decide)) h.1
  · exact absurd (Int32.lt_of_lt_of_le (show (57 : Int32) < nI 58 by decide) q) h.2
  · refine ⟨j, ?_, by omega, rfl⟩
    rcases Nat.lt_or_ge j 48 with c | c
    · exact absurd (show nI j < 48 from nI_lt (b := 48) c (by omega)) h.1
    · exact c
theorem code2 {x y : Int32} (h1 : isS x = true) (h2 : isD y = true) : codeOK (x + ((256 : Int32) * ((y - (48 : Int32)) + (1 : Int32)))) := by
  obtain ⟨l, a1, a2, rfl⟩ := small_nat h1
  obtain ⟨d, b1, b2, rfl⟩ := digit_nat h2
  refine ⟨l, d - 48 + 1, a1, a2, by omega, ?_⟩
  rw [show nI d - (48 : Int32) = nI (d - 48) from pk_sub (b := 48) b1, nI_1, show (256 : Int32) * nI (d - 48 + 1) = nI (256 * (d - 48 + 1)) from pk_mul 256 _, nI_add]
theorem code1 {x : Int32} (h1 : isS x = true) : codeOK x := by
  obtain ⟨l, a1, a2, rfl⟩ := small_nat h1
  exact ⟨l, 0, a1, a2, by omega, by rw [Nat.mul_zero, Nat.add_zero]⟩
theorem kind_ok {n b m : Nat} {tb tx : Nat → Int32} (hn : n ≤ 600) (ht : ∀ k, k < n → tb k = tx k &&& 255) (hm : 1 ≤ m) (hbm : b + m ≤ n) (code tok code2' : Int32) :
    ∃ (t : Nat) (c1 c2 : Int32), t ∈ toks ∧ f_X7_kindOfRun (nI b) code tb (nI m) = some (nI (kd t), c1) ∧ f_X12_word (nI n) tok code2' tx (nI b) (nI m) = some (nI t, c2) ∧ (t = 110 → c1 = c2 ∧ codeOK c1) := by
  obtain ⟨y3, hy3⟩ := byte_any tb (nI (b + 1))
  obtain ⟨ym, hym⟩ : ∃ r, f_X12_at (nI n) tx (nI (b + 1)) = some r := by
    rcases Nat.lt_or_ge (b + 1) n with h | h
    · exact ⟨_, at_m hn h⟩
    · exact ⟨_, at_e h (by omega)⟩
  have hyy : 2 ≤ m → y3 = tb (b + 1) ∧ ym = tb (b + 1) := by
    intro h
    rw [byte_x (by omega)] at hy3
    rw [at_m hn (by omega), ← ht _ (by omega)] at hym
    exact ⟨(Option.some.inj hy3).symm, (Option.some.inj hym).symm⟩
  have e1 : nI b + (1 : Int32) = nI (b + 1) := nI_1 b
  have e2 : nI b + (2 : Int32) = nI (b + 2) := nI_add b 2
  have e3 : nI b + (3 : Int32) = nI (b + 3) := nI_add b 3
  unfold f_X7_kindOfRun f_X12_word jn
  rw [byte_x (by omega), Option.bind_some, e1, hy3, Option.bind_some, at_m hn (by omega), Option.bind_some, hym, Option.bind_some, ← ht b (by omega), small_x, small_m]
  dsimp only [Option.bind_some]
  have ne : ∀ k : Nat, k < 2 ^ 31 → m ≠ k → ¬ nI m = nI k := fun k hk h q => h ((nI_eq (by omega) hk).1 q)
  have four : m = 1 ∨ m = 2 ∨ m = 3 ∨ m = 4 ∨ 5 ≤ m := by omega
  rcases four with rfl | rfl | rfl | rfl | h5
  · rw [if_pos (c := nI 1 = 1) rfl, if_pos (c := nI 1 = 1) rfl]
    by_cases h48 : tb b = 48
    · rw [if_pos h48, if_pos h48, h48]
      exact ⟨48, _, _, by decide, rfl, rfl, fun q => absurd q (by decide)⟩
    by_cases h49 : tb b = 49
    · rw [if_neg h48, if_pos h49, if_neg h48, if_pos h49, h49]
      exact ⟨49, _, _, by decide, rfl, rfl, fun q => absurd q (by decide)⟩
    rw [if_neg h48, if_neg h49, if_neg h48, if_neg h49]
    cases hs : isS (tb b)
    · rw [if_pos (c := b2i false = 0) (by decide), if_pos (c := b2i false = 0) (by decide), sp_ne (w := 0) _ _ (by omega) (by decide) (by decide), sp_ne (w := 1) _ _ (by omega) (by decide) (by decide)]
      exact ⟨63, _, _, by decide, rfl, rfl, fun q => absurd q (by decide)⟩
    · rw [if_neg (c := b2i true = 0) (by decide), if_neg (c := b2i true = 0) (by decide), if_pos (c := nI 1 = 1) rfl, if_pos (c := nI 1 = 1) rfl]
      exact ⟨110, _, _, by decide, rfl, rfl, fun _ => ⟨rfl, code1 hs⟩⟩
  · obtain ⟨a1, a2⟩ := hyy (by omega)
    subst a1
    rw [a2, if_neg (c := nI 2 = 1) (by decide), if_neg (c := nI 2 = 1) (by decide), digit_x, digit_m, sp_ne (w := 0) (m := 2) _ _ (by omega) (by decide) (by decide), sp_ne (w := 1) (m := 2) _ _ (by omega) (by decide) (by decide)]
    dsimp only [Option.bind_some]
    rw [if_pos (c := nI 2 = 2) rfl, if_pos (c := nI 2 = 2) rfl, if_neg (c := nI 2 = 1) (by decide), if_neg (c := nI 2 = 1) (by decide)]
    cases hs : isS (tb b)
    · rw [if_pos (c := b2i false = 0) (by decide)]
      exact ⟨63, _, _, by decide, rfl, rfl, fun q => absurd q (by decide)⟩
    · cases hd : isD (tb (b + 1))
      · exact ⟨63, _, _, by decide, rfl, rfl, fun q => absurd q (by decide)⟩
      · exact ⟨110, _, _, by decide, rfl, rfl, fun _ => ⟨rfl, code2 hs hd⟩⟩
  · obtain ⟨a1, a2⟩ := hyy (by omega)
    subst a1
    rw [a2, sp_ne (w := 0) (m := 3) _ _ (by omega) (by decide) (by decide), sp_all (by omega), e2, at_m hn (by omega), ← ht (b + 2) (by omega)]
    dsimp only [Option.bind_some]
    simp only [if_neg (show ¬ nI 3 = (1 : Int32) by decide), if_neg (show ¬ nI 3 = (2 : Int32) by decide), if_neg (show ¬ nI 3 = (4 : Int32) by decide), if_pos (show nI 3 = (3 : Int32) from rfl), ite_self]
    by_cases h0 : tb b = 97
    · by_cases h1 : tb (b + 1) = 108
      · by_cases h2 : tb (b + 2) = 108
        · rw [if_pos h0, if_pos h1, if_pos h2, decide_eq_true h0, decide_eq_true h1, decide_eq_true h2]
          exact ⟨97, _, _, by decide, rfl, rfl, fun q => absurd q (by decide)⟩
        · rw [if_pos h0, if_pos h1, if_neg h2, decide_eq_true h0, decide_eq_true h1, decide_eq_false h2]
          exact ⟨63, _, _, by decide, rfl, rfl, fun q => absurd q (by decide)⟩
      · rw [if_pos h0, if_neg h1, decide_eq_true h0, decide_eq_false h1]
        exact ⟨63, _, _, by decide, rfl, rfl, fun q => absurd q (by decide)⟩
    · rw [if_neg h0, decide_eq_false h0]
      exact ⟨63, _, _, by decide, rfl, rfl, fun q => absurd q (by decide)⟩
  · obtain ⟨a1, a2⟩ := hyy (by omega)
    subst a1
    rw [a2, sp_ne (w := 1) (m := 4) _ _ (by omega) (by decide) (by decide), sp_some (by omega), e2, e3, at_m hn (by omega), at_m hn (by omega), ← ht (b + 2) (by omega), ← ht (b + 3) (by omega)]
    dsimp only [Option.bind_some]
    simp only [if_neg (show ¬ nI 4 = (1 : Int32) by decide), if_neg (show ¬ nI 4 = (2 : Int32) by decide), if_neg (show ¬ nI 4 = (3 : Int32) by decide), if_pos (show nI 4 = (4 : Int32) from rfl), ite_self]
    by_cases h0 : tb b = 115
    · by_cases h1 : tb (b + 1) = 111
      · by_cases h2 : tb (b + 2) = 109
        · by_cases h3 : tb (b + 3) = 101
          · rw [if_pos h0, if_pos h1, if_pos h2, if_pos h3, decide_eq_true h0, decide_eq_true h1, decide_eq_true h2, decide_eq_true h3]
            exact ⟨115, _, _, by decide, rfl, rfl, fun q => absurd q (by decide)⟩
          · rw [if_pos h0, if_pos h1, if_pos h2, if_neg h3, decide_eq_true h0, decide_eq_true h1, decide_eq_true h2, decide_eq_false h3]
            exact ⟨63, _, _, by decide, rfl, rfl, fun q => absurd q (by decide)⟩
        · rw [if_pos h0, if_pos h1, if_neg h2, decide_eq_true h0, decide_eq_true h1, decide_eq_false h2]
          exact ⟨63, _, _, by decide, rfl, rfl, fun q => absurd q (by decide)⟩
      · rw [if_pos h0, if_neg h1, decide_eq_true h0, decide_eq_false h1]
        exact ⟨63, _, _, by decide, rfl, rfl, fun q => absurd q (by decide)⟩
    · rw [if_neg h0, decide_eq_false h0]
      exact ⟨63, _, _, by decide, rfl, rfl, fun q => absurd q (by decide)⟩
  · have n1 : ¬ nI m = (1 : Int32) := ne 1 (by omega) (by omega)
    have n2 : ¬ nI m = (2 : Int32) := ne 2 (by omega) (by omega)
    have n3 : ¬ nI m = (3 : Int32) := ne 3 (by omega) (by omega)
    have n4 : ¬ nI m = (4 : Int32) := ne 4 (by omega) (by omega)
    simp only [if_neg n1, if_neg n2, if_neg n3, if_neg n4, ite_self]
    rw [sp_ne (w := 0) _ _ (by omega) (by decide) (show m ≠ 4 by omega), sp_ne (w := 1) _ _ (by omega) (by decide) (show m ≠ 3 by omega)]
    exact ⟨63, _, _, by decide, rfl, rfl, fun q => absurd q (by decide)⟩
