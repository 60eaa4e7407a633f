def msign (x : Int32) (a b : Option (Int32 × Int32 × Int32 × Int32 × Int32)) : Option (Int32 × Int32 × Int32 × Int32 × Int32) := if x = 40 then a else if x = 41 then a else if x = 33 then a else if x = 38 then a else if x = 124 then a else if x = 94 then a else if x = 62 then a else if x = 61 then a else if x = 59 then a else if x = 58 then a else b
theorem msign_p {x : Int32} {a b : Option (Int32 × Int32 × Int32 × Int32 × Int32)} (h : ∃ c ∈ ([40, 41, 33, 38, 124, 94, 62, 61, 59, 58] : List Int32), x = c) : msign x a b = a := by
  obtain ⟨c, hc, rfl⟩ := h
  simp only [List.mem_cons, List.not_mem_nil, or_false] at hc
  unfold msign
  rcases hc with rfl | rfl | rfl | rfl | rfl | rfl | rfl | rfl | rfl | rfl <;> rfl
theorem msign_n {x : Int32} {a b : Option (Int32 × Int32 × Int32 × Int32 × Int32)} (h : ∀ c ∈ ([40, 41, 33, 38, 124, 94, 62, 61, 59, 58] : List Int32), ¬ x = c) : msign x a b = b := by
  unfold msign
  rw [if_neg (h 40 (by decide)), if_neg (h 41 (by decide)), if_neg (h 33 (by decide)), if_neg (h 38 (by decide)), if_neg (h 124 (by decide)), if_neg (h 94 (by decide)), if_neg (h 62 (by decide)), if_neg (h 61 (by decide)), if_neg (h 59 (by decide)), if_neg (h 58 (by decide))]
theorem adv_ok {n p : Nat} {tb tx : Nat → Int32} (hn : n ≤ 600) (hp : p ≤ n) (ht : ∀ k, k < n → tb k = tx k &&& 255) (st k0 code tok beg tks code2' : Int32) :
    ∃ (t b p' : Nat) (c1 c2 : Int32), t ∈ toks ∧ b ≤ n ∧ p' ≤ n ∧ f_X7_advance (nI n) (nI p) st k0 code tb = some (nI p', nI b, nI (kd t), c1) ∧ f_X12_next (nI n) tok beg (nI p) tks code2' tx = some (nI t, nI b, nI p', tks + 1, c2) ∧ (t = 110 → c1 = c2 ∧ codeOK c1) := by
  unfold f_X7_advance f_X12_next
  obtain ⟨b, hb1, hb2, e1, e2⟩ := blank_ok (tb := tb) (tx := tx) hn ht (y1 := st) (y2 := k0) (y3 := code) (z1 := tok) (z2 := beg) (z3 := nI p) (z4 := tks) (z5 := code2') 5000 p
    (fun v_next_0_7 => lp_X7_advance_49 (nI n) v_next_0_7 k0 code tb 5000 v_next_0_7 (fun v_next_49_20 => if v_next_49_20 ≤ v_next_0_7 then (if nI n ≤ v_next_49_20 then some (v_next_49_20, v_next_0_7, 514, code) else ((f_X10_byteAt tb v_next_49_20).bind fun r_29 => (f_X7_kindOfSign r_29).bind fun r_31 => some (v_next_49_20 + (1 : Int32), v_next_0_7, r_31, code))) else ((f_X7_kindOfRun v_next_0_7 code tb (v_next_49_20 - v_next_0_7)).bind fun (r_33, v_code_34) => some (v_next_49_20, v_next_0_7, r_33, v_code_34))))
    (fun x1_5_8 => lp_X12_next_47 x1_5_8 (nI n) tok x1_5_8 (nI p) tks code2' tx 5000 x1_5_8 (fun x2_47_21 => if x1_5_8 < nI n then (if x2_47_21 ≤ x1_5_8 then ((f_X12_at (nI n) tx x1_5_8).bind fun r_29 => msign r_29 (some (r_29, x1_5_8, x1_5_8 + (1 : Int32), tks + (1 : Int32), code2')) (some (63, x1_5_8, x1_5_8 + (1 : Int32), tks + (1 : Int32), code2'))) else ((f_X12_word (nI n) tok code2' tx x1_5_8 (x2_47_21 - x1_5_8)).bind fun (v_token_42, v_code_43) => some (v_token_42, x1_5_8, x2_47_21, tks + (1 : Int32), v_code_43))) else some (0, x1_5_8, x1_5_8, tks + (1 : Int32), code2'))) hp (by omega)
  obtain ⟨q, hq1, hq2, hq3, e3, e4⟩ := run_ok (tb := tb) (tx := tx) hn ht (y1 := nI b) (y2 := k0) (y3 := code) (z0 := nI b) (z1 := tok) (z2 := nI b) (z3 := nI p) (z4 := tks) (z5 := code2') 5000 b
    (fun v_next_49_20 => if v_next_49_20 ≤ nI b then (if nI n ≤ v_next_49_20 then some (v_next_49_20, nI b, 514, code) else ((f_X10_byteAt tb v_next_49_20).bind fun r_29 => (f_X7_kindOfSign r_29).bind fun r_31 => some (v_next_49_20 + (1 : Int32), nI b, r_31, code))) else ((f_X7_kindOfRun (nI b) code tb (v_next_49_20 - nI b)).bind fun (r_33, v_code_34) => some (v_next_49_20, nI b, r_33, v_code_34)))
    (fun x2_47_21 => if nI b < nI n then (if x2_47_21 ≤ nI b then ((f_X12_at (nI n) tx (nI b)).bind fun r_29 => msign r_29 (some (r_29, nI b, nI b + (1 : Int32), tks + (1 : Int32), code2')) (some (63, nI b, nI b + (1 : Int32), tks + (1 : Int32), code2'))) else ((f_X12_word (nI n) tok code2' tx (nI b) (x2_47_21 - nI b)).bind fun (v_token_42, v_code_43) => some (v_token_42, nI b, x2_47_21, tks + (1 : Int32), v_code_43))) else some (0, nI b, nI b, tks + (1 : Int32), code2')) hb2 (by omega)
  have f1 := e1.trans e3
  have f2 := e2.trans e4
  suffices h : ∃ (t b' p' : Nat) (c1 c2 : Int32), t ∈ toks ∧ b' ≤ n ∧ p' ≤ n ∧ (if nI q ≤ nI b then (if nI n ≤ nI q then some (nI q, nI b, (514 : Int32), code) else ((f_X10_byteAt tb (nI q)).bind fun r_29 => (f_X7_kindOfSign r_29).bind fun r_31 => some (nI q + (1 : Int32), nI b, r_31, code))) else ((f_X7_kindOfRun (nI b) code tb (nI q - nI b)).bind fun (r_33, v_code_34) => some (nI q, nI b, r_33, v_code_34))) = some (nI p', nI b', nI (kd t), c1) ∧ (if nI b < nI n then (if nI q ≤ nI b then ((f_X12_at (nI n) tx (nI b)).bind fun r_29 => msign r_29 (some (r_29, nI b, nI b + (1 : Int32), tks + (1 : Int32), code2')) (some (63, nI b, nI b + (1 : Int32), tks + (1 : Int32), code2'))) else ((f_X12_word (nI n) tok code2' tx (nI b) (nI q - nI b)).bind fun (v_token_42, v_code_43) => some (v_token_42, nI b, nI q, tks + (1 : Int32), v_code_43))) else some (0, nI b, nI b, tks + (1 : Int32), code2')) = some (nI t, nI b', nI p', tks + 1, c2) ∧ (t = 110 → c1 = c2 ∧ codeOK c1) by
    obtain ⟨t, b', p', c1, c2, h1, h2, h3, h4, h5, h6⟩ := h
    exact ⟨t, b', p', c1, c2, h1, h2, h3, f1.trans h4, f2.trans h5, h6⟩
  by_cases hbn : b = n
  · subst hbn
    have : q = b := by omega
    subst this
    rw [if_pos (nI_le (Nat.le_refl _) (by omega)), if_pos (nI_le (Nat.le_refl _) (by omega)), if_neg (nI_nlt (Nat.le_refl _) (by omega))]
    exact ⟨0, q, q, _, _, by decide, Nat.le_refl _, Nat.le_refl _, rfl, rfl, fun h => absurd h (by decide)⟩
  · rw [if_pos (c := nI b < nI n) (nI_lt (by omega) (by omega))]
    by_cases hqb : q = b
    · subst hqb
      rw [if_pos (c := nI q ≤ nI q) (nI_le (Nat.le_refl _) (by omega)), if_pos (c := nI q ≤ nI q) (nI_le (Nat.le_refl _) (by omega)), if_neg (nI_ge (by omega) (by omega)), byte_x (by omega), Option.bind_some, at_m hn (by omega), Option.bind_some, ← ht q (by omega), nI_1]
      obtain ⟨t, ht1, ht2, ht3, ht4⟩ := sign_ok (tb q)
      rw [ht3, Option.bind_some]
      rcases ht4 with ⟨c, hc, h1, h2⟩ | ⟨h1, h2⟩
      · rw [msign_p ⟨c, hc, h1⟩, h2]
        exact ⟨t, q, q + 1, _, _, ht1, hb2, by omega, rfl, rfl, fun h => absurd h ht2⟩
      · rw [msign_n h1]
        subst h2
        exact ⟨63, q, q + 1, _, _, by decide, hb2, by omega, rfl, rfl, fun h => absurd h (by decide)⟩
    · rw [if_neg (nI_ge (by omega) (by omega)), if_neg (nI_ge (by omega) (by omega)), pk_sub hq1]
      obtain ⟨t, c1, c2, h1, h2, h3, h4⟩ := kind_ok (b := b) (m := q - b) hn ht (by omega) (by omega) code tok code2'
      rw [h2, h3]
      exact ⟨t, b, q, c1, c2, h1, hb2, hq2, rfl, rfl, h4⟩
/-- what both scanners have found: the token t begins at b, ends at p' -/
theorem takes_ok {n p r : Nat} {tb tx : Nat → Int32} (hn : n ≤ 600) (hp : p ≤ n) (ht : ∀ k, k < n → tb k = tx k &&& 255) (hr : r ≤ 160) (st k0 code tok beg code2' fk fp : Int32) :
    ∃ (t b p' : Nat) (c1 c2 : Int32), t ∈ toks ∧ b ≤ n ∧ p' ≤ n ∧ f_X7_advance (nI n) (nI p) st k0 code tb = some (nI p', nI b, nI (kd t), c1) ∧ f_X12_takes (nI n) tok beg (nI p) (nI r) code2' fk fp tx = some (true, nI t, nI b, nI p', nI (r + 1), c2, fk, fp) ∧ (t = 110 → c1 = c2 ∧ codeOK c1) := by
  obtain ⟨t, b, p', c1, c2, h1, h2, h3, h4, h5, h6⟩ := adv_ok hn hp ht st k0 code tok beg (nI r) code2'
  refine ⟨t, b, p', c1, c2, h1, h2, h3, h4, ?_, h6⟩
  unfold f_X12_takes
  rw [if_pos (le_lit (k := 160) (c := 160) rfl hr (by omega)), h5, Option.bind_some, nI_1]
theorem takes_no {p : Int32} {n : Int32} {tx : Nat → Int32} (tok beg code2' fk fp : Int32) : f_X12_takes n tok beg p (nI 161) code2' fk fp tx = some (false, tok, beg, p, nI 161, code2', 4, beg) := by
  unfold f_X12_takes f_X12_refuses
  rw [if_neg (by decide), Option.bind_some]
