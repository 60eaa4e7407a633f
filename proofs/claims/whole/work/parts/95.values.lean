/-! the system's table -/
theorem spush_ok {l : Nat} (hl : l < 160) (st : Nat → Int64) (a : Int64) : f_X9_push (nI l) st a = some (nI (l + 1), vp_updL st l a) := by
  unfold f_X9_push
  rw [w160 hl, Option.bind_some, if_neg (c := b2i true = 0) (by decide), if_pos (ix_t hl (by decide)), nI_clamp (by omega), nI_1]
theorem spop_ok {l : Nat} (hl : l < 160) (st : Nat → Int64) : f_X9_pop (nI (l + 1)) st = some (st l, nI l) := by
  unfold f_X9_pop
  rw [nI_pred, w160 hl, Option.bind_some, if_neg (c := b2i true = 0) (by decide), if_pos (ix_t hl (by decide)), nI_clamp (by omega)]
theorem spop_0 (st : Nat → Int64) : f_X9_pop (nI 0) st = some (0, nI 0) := rfl
def stL (st : Nat → Int64) (L : List Int64) : Prop := stk (fun i (a : Int64) => st i = a) L
theorem stL_push {st : Nat → Int64} {L : List Int64} (h : stL st L) (a : Int64) : stL (vp_updL st L.length a) (a :: L) :=
  ⟨updL_same, stk_mono h (fun i x hi q => by rw [updL_ne (by omega)]; exact q)⟩
theorem comb_ok {s : Nat} (hs : s < 2 ^ 31) (x y : Int64) : f_X9_combine (nI s) x y = some (cmb s x y) := by
  have e : ∀ k : Nat, k < 2 ^ 31 → (nI s = nI k) = (s = k) := fun k hk => propext (nI_eq hs hk)
  unfold f_X9_combine cmb
  rw [show (38 : Int32) = nI 38 from rfl, show (62 : Int32) = nI 62 from rfl, show (94 : Int32) = nI 94 from rfl, show (124 : Int32) = nI 124 from rfl]
  simp only [e 38 (by omega), e 62 (by omega), e 94 (by omega), e 124 (by omega)]
  split
  · rfl
  split
  · rfl
  split
  · rfl
  split
  · rfl
  · rfl
theorem nI_sub {a b : Nat} (h : b ≤ a) : nI a - nI b = nI (a - b) := by
  have e : nI a = nI (a - b) + nI b := by rw [nI_add]; congr 1; omega
  rw [e, Int32.add_sub_cancel]
theorem and1 {x : Nat} : (nI x &&& (1 : Int32) = 1) ↔ x % 2 = 1 := by
  rw [show (1 : Int32) = nI 1 from rfl, nx_and, Nat.and_one_is_mod]
  exact nI_eq (by omega) (by omega)
set_option maxRecDepth 100000 in
theorem vneg : ∀ N, N < 11 → ∀ k, k < 44 → N ≤ k → (nI N - (1 : Int32)) - nI k < 6 ∧ (nI N - (1 : Int32)) - nI k < 0 := by decide +kernel
theorem vname_ok {N w k : Nat} (hN : N ≤ 10) (hw : w < 16) (hk : k < 44) : f_X9_valuesOfName ((nI N - (1 : Int32)) - (nI (256 + k) - (256 : Int32))) (nI w) = some (nmv N k w) := by
  rw [show nI (256 + k) - (256 : Int32) = nI k by
    rw [show (256 : Int32) = nI 256 from rfl, nI_sub (by omega), show 256 + k - 256 = k by omega]]
  unfold nmv
  by_cases h : N ≤ k
  · rw [if_pos h]
    obtain ⟨h1, h2⟩ := vneg N (by omega) k hk h
    unfold f_X9_valuesOfName
    rw [if_pos h1, if_pos h2]
  · rw [if_neg h]
    obtain ⟨b, hb⟩ : ∃ b, b = N - 1 - k := ⟨_, rfl⟩
    rw [show (nI N - (1 : Int32)) - nI k = nI b by
      rw [show (1 : Int32) = nI 1 from rfl, nI_sub (by omega), nI_sub (by omega), hb], ← hb]
    unfold f_X9_valuesOfName
    by_cases h6 : b < 6
    · rw [if_pos (show nI b < (6 : Int32) from nI_lt (b := 6) h6 (by decide)), if_neg (nI_pos (by omega)), if_pos (ix_t h6 (by decide)), nI_clamp (by omega), if_pos h6]
    · rw [if_neg (show ¬ nI b < (6 : Int32) from nI_nlt (b := 6) (by omega) (by omega)), if_neg h6, show nI b - (6 : Int32) = nI (b - 6) from nI_sub (b := 6) (by omega), shr_nI (by omega) (by omega)]
      by_cases hq : w / 2 ^ (b - 6) % 2 = 1
      · rw [if_pos (and1.2 hq), if_pos hq]
      · rw [if_neg (fun z => hq (and1.1 z)), if_neg hq]
theorem stepAt_ok {steps : Nat → Int32} {m : Nat} (hm : m < 160) : f_X2_stepAt steps (nI m) = some (steps m) := by
  unfold f_X2_stepAt
  rw [w160 hm, Option.bind_some, if_neg (c := b2i true = 0) (by decide), if_pos (ix_t hm (by decide)), nI_clamp (by omega)]
theorem stepf_len (N w s : Nat) (L : List Int64) : (stepf N w s L).length ≤ L.length + 1 := by
  unfold stepf
  split
  · exact Nat.le_refl _
  split
  · exact Nat.le_refl _
  split
  · exact Nat.le_refl _
  cases L with
  | nil => dsimp only; split <;> exact Nat.le_refl _
  | cons y r =>
    dsimp only
    split
    · exact Nat.le_succ _
    · cases r with
      | nil => exact Nat.le_succ _
      | cons x r2 => dsimp only; rw [List.length_cons, List.length_cons, List.length_cons]; omega
theorem step_ok {N w s m M : Nat} (hN : N ≤ 10) (hw : w < 16) (hs : s < 300) (hm : m < 160) {steps : Nat → Int32} (hst : steps m = nI s) (hmM : m < M) (hM : M ≤ 160) {L : List Int64} (hL : L.length ≤ m) {st : Nat → Int64} (h : stL st L) (n : Nat) (K : Int32 → Int32 → (Nat → Int64) → Option (Int64 × Int32 × (Nat → Int64))) :
    ∃ st', lp_X9_reckon_8 (nI N) (nI w) (nI M) steps (n + 1) (nI m) (nI L.length) st K = lp_X9_reckon_8 (nI N) (nI w) (nI M) steps n (nI (m + 1)) (nI (stepf N w s L).length) st' K ∧ stL st' (stepf N w s L) := by
  rw [lp_X9_reckon_8, if_neg (nI_ge hmM (by omega)), stepAt_ok hm, Option.bind_some, hst]
  unfold stepf jn
  by_cases h256 : 256 ≤ s
  · obtain ⟨k, rfl⟩ : ∃ k, s = 256 + k := ⟨s - 256, by omega⟩
    rw [if_pos h256, if_neg (show ¬ nI (256 + k) < (256 : Int32) from nI_nlt (b := 256) (by omega) (by omega)), vname_ok hN hw (by omega), Option.bind_some, spush_ok (by omega), Option.bind_some, nI_1, show 256 + k - 256 = k by omega]
    exact ⟨_, rfl, stL_push h _⟩
  rw [if_neg h256, if_pos (show nI s < (256 : Int32) from nI_lt (b := 256) (by omega) (by omega))]
  dsimp only
  by_cases h48 : s = 48
  · subst h48
    rw [if_pos rfl, if_pos (c := nI 48 = 48) rfl, if_neg (c := nI 48 = 49) (by decide), spush_ok (by omega), Option.bind_some, nI_1]
    exact ⟨_, rfl, stL_push h _⟩
  rw [if_neg h48, if_neg (nI_neL (k := 48) (c := 48) (by omega) (by omega) h48)]
  by_cases h49 : s = 49
  · subst h49
    rw [if_pos rfl, if_pos (c := nI 49 = 49) rfl, if_pos (c := nI 49 = 49) rfl, spush_ok (by omega), Option.bind_some, nI_1]
    exact ⟨_, rfl, stL_push h _⟩
  rw [if_neg h49, if_neg (nI_neL (k := 49) (c := 49) (by omega) (by omega) h49)]
  by_cases h33 : s = 33
  · subst h33
    rw [if_pos (c := nI 33 = 33) rfl]
    cases L with
    | nil =>
      rw [show ([] : List Int64).length = 0 from rfl, spop_0, Option.bind_some]
      dsimp only
      rw [spush_ok (by omega), Option.bind_some, nI_1]
      exact ⟨_, rfl, stL_push (L := []) trivial _⟩
    | cons y r =>
      rw [List.length_cons] at hL
      rw [List.length_cons, spop_ok (by omega), Option.bind_some]
      dsimp only
      rw [spush_ok (by omega), Option.bind_some, nI_1, if_pos rfl, h.1]
      exact ⟨_, rfl, stL_push h.2 _⟩
  rw [if_neg (nI_neL (k := 33) (c := 33) (by omega) (by omega) h33)]
  cases L with
  | nil =>
    rw [show ([] : List Int64).length = 0 from rfl, spop_0, Option.bind_some]
    dsimp only
    rw [spop_0, Option.bind_some]
    dsimp only
    rw [comb_ok (by omega), Option.bind_some, spush_ok (by omega), Option.bind_some, nI_1, if_neg h33]
    exact ⟨_, rfl, stL_push (L := []) trivial _⟩
  | cons y r =>
    rw [List.length_cons] at hL
    rw [List.length_cons, spop_ok (by omega), Option.bind_some]
    dsimp only
    rw [if_neg h33]
    cases r with
    | nil =>
      rw [show ([] : List Int64).length = 0 from rfl, spop_0, Option.bind_some]
      dsimp only
      rw [comb_ok (by omega), Option.bind_some, spush_ok (by omega), Option.bind_some, nI_1, show st 0 = y from h.1]
      exact ⟨_, rfl, stL_push (L := []) trivial _⟩
    | cons x r2 =>
      rw [List.length_cons] at hL
      rw [List.length_cons, spop_ok (by omega), Option.bind_some]
      dsimp only
      rw [comb_ok (by omega), Option.bind_some, spush_ok (by omega), Option.bind_some, nI_1, show st r2.length = x from h.2.1, show st (r2.length + 1) = y from h.1]
      exact ⟨_, rfl, stL_push h.2.2 _⟩
theorem runS_len {N w : Nat} {stp : Nat → Nat} : ∀ m, (runS N w stp m).length ≤ m
  | 0 => Nat.le_refl _
  | m + 1 => Nat.le_trans (stepf_len N w (stp m) (runS N w stp m)) (Nat.succ_le_succ (runS_len m))
theorem reckon_go {N w M : Nat} (hN : N ≤ 10) (hw : w < 16) (hM : M ≤ 160) {steps : Nat → Int32} {stp : Nat → Nat} (h : ∀ m, m < M → steps m = nI (stp m) ∧ stp m < 300) (K : Int32 → Int32 → (Nat → Int64) → Option (Int64 × Int32 × (Nat → Int64))) : ∀ (j m n : Nat) (st : Nat → Int64), m + j = M → j < n → stL st (runS N w stp m) →
    ∃ st', lp_X9_reckon_8 (nI N) (nI w) (nI M) steps n (nI m) (nI (runS N w stp m).length) st K = K (nI M) (nI (runS N w stp M).length) st' ∧ stL st' (runS N w stp M) := by
  intro j
  induction j with
  | zero =>
    intro m n st h1 h2 h3
    obtain rfl : m = M := by omega
    obtain ⟨n, rfl⟩ : ∃ x, n = x + 1 := ⟨n - 1, by omega⟩
    rw [lp_X9_reckon_8, if_pos (nI_le (Nat.le_refl _) (by omega))]
    exact ⟨st, rfl, h3⟩
  | succ j ih =>
    intro m n st h1 h2 h3
    obtain ⟨n, rfl⟩ : ∃ x, n = x + 1 := ⟨n - 1, by omega⟩
    obtain ⟨st', q1, q2⟩ := step_ok hN hw (h m (by omega)).2 (by omega) (h m (by omega)).1 (by omega) hM (runS_len m) h3 n K
    rw [q1]
    exact ih (m + 1) n st' (by omega) (by omega) q2
theorem reckon_ok {N w M : Nat} (hN : N ≤ 10) (hw : w < 16) (hM : M ≤ 160) {steps : Nat → Int32} {x : Ent} (h : STP N [x] M steps) (dp : Int32) (st : Nat → Int64) : ∃ d' st', f_X9_reckon dp (nI M) steps st (nI N) (nI w) = some (eU x w, d', st') := by
  obtain ⟨stp, h1, h2⟩ := h
  obtain ⟨st', q1, q2⟩ := reckon_go hN hw hM h1 (fun _ a b => (f_X9_pop a b).bind fun (r, d) => some (r, d, b)) M 0 5000 st (by omega) (by omega) trivial
  rw [h2 w] at q1 q2
  unfold f_X9_reckon
  refine ⟨nI 0, st', Eq.trans q1 ?_⟩
  show ((f_X9_pop (nI (0 + 1)) st').bind fun (r, d) => some (r, d, st')) = _
  rw [spop_ok (by omega), Option.bind_some]
  dsimp only
  rw [show st' 0 = eU x w from q2.1]
theorem fill_go {N M : Nat} (hN : N ≤ 10) (hM : M ≤ 160) {steps : Nat → Int32} {x : Ent} (h : STP N [x] M steps) : ∀ (j w n : Nat) (dp : Int32) (st words : Nat → Int64), w + j = tw N → j < n → (∀ v, v < w → words v = eU x v) →
    ∃ d' st' words', lp_X9_fill_8 (nI N) (nI (tw N)) (nI M) steps n (nI w) dp st words (fun _ a b c => some (a, b, c)) = some (d', st', words') ∧ ∀ v, v < tw N → words' v = eU x v := by
  have ht := tw_ok hN
  intro j
  induction j with
  | zero =>
    intro w n dp st words h1 h2 h3
    obtain rfl : w = tw N := by omega
    obtain ⟨n, rfl⟩ : ∃ x, n = x + 1 := ⟨n - 1, by omega⟩
    rw [lp_X9_fill_8, if_pos (nI_le (Nat.le_refl _) (by omega))]
    exact ⟨_, _, _, rfl, h3⟩
  | succ j ih =>
    intro w n dp st words h1 h2 h3
    obtain ⟨n, rfl⟩ : ∃ x, n = x + 1 := ⟨n - 1, by omega⟩
    obtain ⟨d', st', q⟩ := reckon_ok hN (show w < 16 by omega) hM h dp st
    rw [lp_X9_fill_8, if_neg (nI_ge (by omega) (by omega)), if_neg (ge_lit (k := 16) (c := 16) rfl (by omega) (by omega)), q, Option.bind_some]
    dsimp only
    rw [if_pos (ix_t (by omega) (by decide)), nI_clamp (by omega), nI_1]
    refine ih (w + 1) n d' st' _ (by omega) (by omega) (fun v hv => ?_)
    by_cases e : v = w
    · subst e; exact updL_same
    · rw [updL_ne e]; exact h3 v (by omega)
theorem fill_ok {N M : Nat} (hN : N ≤ 10) (hM : M ≤ 160) {steps : Nat → Int32} {x : Ent} (h : STP N [x] M steps) (dp : Int32) (st words : Nat → Int64) : ∃ d' st' words', f_X9_fill dp (nI M) steps st words (nI N) = some (d', st', words') ∧ ∀ v, v < tw N → words' v = eU x v := by
  unfold f_X9_fill
  rw [(tw_ok hN).1, Option.bind_some]
  exact fill_go hN hM h (tw N) 0 5000 dp st words (by omega) (by have := (tw_ok hN).2.1; omega) (fun v hv => absurd hv (by omega))
/-! the reference's values -/
theorem l_xor (x y : Int64) (i : Nat) : lbt (x ^^^ y) i = (lbt x i ^^ lbt y i) := by unfold lbt; rw [Int64.toBitVec_xor, BitVec.getLsbD_xor]
theorem l_m1 : ∀ i, i < 64 → lbt (-1) i = true := by decide +kernel
theorem l_0 (i : Nat) : lbt 0 i = false := BitVec.getLsbD_zero
theorem l_patt : ∀ b, b < 6 → ∀ i, i < 64 → lbt (pattL.getD b 0) i = decide (i / 2 ^ b % 2 = 1) := by decide +kernel
def cbit (s : Nat) (a b : Bool) : Bool := if s = 38 then a && b else if s = 62 then !a || b else if s = 94 then a ^^ b else if s = 124 then a || b else !(a ^^ b)
theorem l_cmb (s : Nat) (x y : Int64) {i : Nat} (hi : i < 64) : lbt (cmb s x y) i = cbit s (lbt x i) (lbt y i) := by
  unfold cmb cbit
  split
  · exact l_and ..
  split
  · rw [l_or, l_xor, l_m1 i hi, Bool.xor_true]
  split
  · exact l_xor ..
  split
  · exact l_or ..
  · rw [l_xor, l_xor, l_m1 i hi, Bool.xor_true]
theorem wbit_name {N k c : Nat} (hN : N ≤ 10) (hk : k < N) (hc : c < 2 ^ N) : wbit (fun w => nmv N k w) c = decide (c / 2 ^ (N - 1 - k) % 2 = 1) := by
  unfold wbit nmv
  dsimp only
  rw [if_neg (by omega)]
  by_cases h6 : N - 1 - k < 6
  · rw [if_pos h6, l_patt _ h6 _ (Nat.mod_lt _ (by omega))]
    congr 1
    rw [show (64 : Nat) = 2 ^ (N - 1 - k) * 2 ^ (6 - (N - 1 - k)) by rw [← Nat.pow_add, show N - 1 - k + (6 - (N - 1 - k)) = 6 by omega], Nat.mod_mul_right_div_self, show 6 - (N - 1 - k) = (5 - (N - 1 - k)) + 1 by omega, Nat.pow_succ, Nat.mod_mul_left_mod]
  · rw [if_neg h6]
    have e : c / 64 / 2 ^ (N - 1 - k - 6) = c / 2 ^ (N - 1 - k) := by
      rw [Nat.div_div_eq_div_mul, show (64 : Nat) = 2 ^ 6 from rfl, ← Nat.pow_add, show 6 + (N - 1 - k - 6) = N - 1 - k by omega]
    rw [e]
    by_cases hq : c / 2 ^ (N - 1 - k) % 2 = 1
    · rw [if_pos hq, decide_eq_true hq, l_m1 _ (Nat.mod_lt _ (by omega))]
    · rw [if_neg hq, decide_eq_false hq, l_0]
def tU (T : TT) (j : Nat) : Nat → Int64 := (T j).2.2.2.2
theorem value_ok {N c j M : Nat} {nmb : Nat → List Nat} {T : TT} (hN : N ≤ 10) (hc : c < 2 ^ N) (hj : j < M) (hM : M ≤ 160) {kind left right now : Nat → Int32} (hk : ∀ j, j < M → kind j = nI (T j).1 ∧ left j = nI (T j).2.1 ∧ right j = nI (T j).2.2.1) (hT : nodeOK N nmb T j) (hn : ∀ i, i < j → now i = b2i (wbit (tU T i) c)) :
    f_X12_valueOf (nI N) kind left now right (nI j) (nI c) = some (wbit (tU T j) c) := by
  have hm : c % 64 < 64 := Nat.mod_lt _ (by omega)
  have hpow : c < 1024 := Nat.lt_of_lt_of_le hc (pow_le10 hN)
  obtain ⟨k1, k2, k3⟩ := hk j hj
  have hx1 : ix (nI j) 161 = true := ix_t (show j < 161 by omega) (by decide)
  unfold f_X12_valueOf
  rw [nI_clamp (show j < 2 ^ 31 by omega), k1, k2, k3]
  simp only [hx1, ↓reduceIte]
  rcases hT with ⟨h1, -, h3⟩ | ⟨h1, -, h3⟩ | ⟨h1, h2, -, h3⟩ | ⟨h1, h2, -, h3⟩ | ⟨h1, h2, h2', -, h3⟩
  · rw [h1, if_neg (c := nI 48 = 33) (by decide), if_neg (c := nI 48 = 38) (by decide), if_pos (c := nI 48 = 48) rfl]
    unfold tU
    rw [h3]
    unfold wbit
    rw [l_0]
  · rw [h1, if_neg (c := nI 49 = 33) (by decide), if_neg (c := nI 49 = 38) (by decide), if_neg (c := nI 49 = 48) (by decide), if_pos (c := nI 49 = 49) rfl]
    unfold tU
    rw [h3]
    unfold wbit
    rw [l_m1 _ hm]
  · rw [h1, if_neg (c := nI 110 = 33) (by decide), if_neg (c := nI 110 = 38) (by decide), if_neg (c := nI 110 = 48) (by decide), if_neg (c := nI 110 = 49) (by decide), if_neg (c := nI 110 = 61) (by decide), if_neg (c := nI 110 = 94) (by decide), if_pos (c := nI 110 = 110) rfl]
    have hw : wbit (tU T j) c = decide (c / 2 ^ (N - 1 - (T j).2.1) % 2 = 1) := by
      unfold tU
      rw [h3]
      exact wbit_name hN h2 hc
    rw [hw, show (nI N - (1 : Int32)) - nI (T j).2.1 = nI (N - 1 - (T j).2.1) by
      rw [show (1 : Int32) = nI 1 from rfl, nI_sub (by omega), nI_sub (by omega)], shr_nI (by omega) (by omega)]
    by_cases hq : c / 2 ^ (N - 1 - (T j).2.1) % 2 = 1
    · rw [if_pos (and1.2 hq), decide_eq_true hq]
    · rw [if_neg (fun z => hq (and1.1 z)), decide_eq_false hq]
  · rw [h1, if_pos (c := nI 33 = 33) rfl, nI_clamp (show (T j).2.1 < 2 ^ 31 by omega), hn _ h2, if_pos (ix_t (show (T j).2.1 < 161 by omega) (by decide))]
    have hw : wbit (tU T j) c = !(wbit (tU T (T j).2.1) c) := by
      unfold tU
      rw [h3]
      unfold wbit
      rw [l_xor, l_m1 _ hm, Bool.xor_true]
    rw [hw]
    cases wbit (tU T (T j).2.1) c <;> rfl
  · have hw : wbit (tU T j) c = cbit (T j).1 (wbit (tU T (T j).2.1) c) (wbit (tU T (T j).2.2.1) c) := by
      unfold tU
      rw [h3]
      unfold wbit
      rw [l_cmb _ _ _ hm]
    rw [hw, nI_clamp (show (T j).2.1 < 2 ^ 31 by omega), nI_clamp (show (T j).2.2.1 < 2 ^ 31 by omega), hn _ h2, hn _ h2']
    generalize wbit (tU T (T j).2.1) c = A
    generalize wbit (tU T (T j).2.2.1) c = Z
    have hx2 : ix (nI (T j).2.1) 161 = true := ix_t (show (T j).2.1 < 161 by omega) (by decide)
    have hx3 : ix (nI (T j).2.2.1) 161 = true := ix_t (show (T j).2.2.1 < 161 by omega) (by decide)
    simp only [hx2, hx3, ↓reduceIte]
    rcases h1 with h | h | h | h | h <;> rw [h] <;> cases A <;> cases Z <;> rfl
theorem values_row {N c M : Nat} {nmb : Nat → List Nat} {T : TT} {tp : Int32} {leaf : Nat → Int32} (hN : N ≤ 10) (hc : c < 2 ^ N) (hM : M ≤ 160) {kind left right : Nat → Int32} (hk : ∀ j, j < M → kind j = nI (T j).1 ∧ left j = nI (T j).2.1 ∧ right j = nI (T j).2.2.1) (hT : ∀ j, j < M → nodeOK N nmb T j) (K : Int32 → (Nat → Int32) → Option ((Nat → Int32) × (Nat → Int32))) : ∀ (d j n : Nat) (now : Nat → Int32), j + d = M → d < n → (∀ i, i < j → now i = b2i (wbit (tU T i) c)) →
    ∃ now', lp_X12_values_14 (nI c) (nI N) (nI M) tp kind left right leaf n (nI j) now K = K (nI M) now' ∧ ∀ i, i < M → now' i = b2i (wbit (tU T i) c) := by
  intro d
  induction d with
  | zero =>
    intro j n now h1 h2 h3
    obtain rfl : j = M := by omega
    obtain ⟨n, rfl⟩ : ∃ x, n = x + 1 := ⟨n - 1, by omega⟩
    rw [lp_X12_values_14, if_pos (nI_le (Nat.le_refl _) (by omega))]
    exact ⟨now, rfl, h3⟩
  | succ d ih =>
    intro j n now h1 h2 h3
    obtain ⟨n, rfl⟩ : ∃ x, n = x + 1 := ⟨n - 1, by omega⟩
    rw [lp_X12_values_14, if_neg (nI_ge (by omega) (by omega)), value_ok hN hc (by omega) hM hk (hT j (by omega)) h3, Option.bind_some, if_pos (ix_t (by omega) (by decide)), nI_1, nI_clamp (by omega), nar_z]
    refine ih (j + 1) n _ (by omega) (by omega) (fun i hi => ?_)
    by_cases e : i = j
    · subst e; exact upd_same
    · rw [upd_ne e]; exact h3 i (by omega)
theorem values_go {N M top : Nat} {nmb : Nat → List Nat} {T : TT} (hN : N ≤ 10) (hM : M ≤ 160) (htop : top < M) {kind left right : Nat → Int32} (hk : ∀ j, j < M → kind j = nI (T j).1 ∧ left j = nI (T j).2.1 ∧ right j = nI (T j).2.2.1) (hT : ∀ j, j < M → nodeOK N nmb T j) : ∀ (d c n : Nat) (now leaf : Nat → Int32), c + d = 2 ^ N → d < n → (∀ i, i < c → leaf i = b2i (wbit (tU T top) i)) →
    ∃ now' leaf', lp_X12_values_2 (nI N) (nI M) (nI top) kind left right n (nI c) now leaf (fun _ a b => some (a, b)) = some (now', leaf') ∧ ∀ i, i < 2 ^ N → leaf' i = b2i (wbit (tU T top) i) := by
  have hp : 2 ^ N ≤ 1024 := pow_le10 hN
  have hsh : (1 : Int32) <<< (nI N &&& 31) = nI (2 ^ N) := by
    have := shl_nI (n := 1) (k := N) (by omega) (by omega)
    rw [Nat.one_mul] at this
    exact this
  intro d
  induction d with
  | zero =>
    intro c n now leaf h1 h2 h3
    obtain ⟨n, rfl⟩ : ∃ x, n = x + 1 := ⟨n - 1, by omega⟩
    rw [lp_X12_values_2, hsh, if_pos (nI_le (by omega) (by omega))]
    exact ⟨_, _, rfl, fun i hi => h3 i (by omega)⟩
  | succ d ih =>
    intro c n now leaf h1 h2 h3
    obtain ⟨n, rfl⟩ : ∃ x, n = x + 1 := ⟨n - 1, by omega⟩
    obtain ⟨now1, q1, q2⟩ := values_row (tp := nI top) (leaf := leaf) (c := c) hN (by omega) hM hk hT (fun _ now' => if ix (nI top) 161 then if ix (nI c) 4096 then lp_X12_values_2 (nI N) (nI M) (nI top) kind left right n (nI c + 1) now' (upd leaf (nI c).toNatClampNeg (vp_nar .boolean (now' (nI top).toNatClampNeg))) (fun _ a b => some (a, b)) else none else none) M 0 5000 now (by omega) (by omega) (fun i hi => absurd hi (by omega))
    rw [lp_X12_values_2, hsh, if_neg (nI_ge (by omega) (by omega))]
    rw [show lp_X12_values_14 (nI c) (nI N) (nI M) (nI top) kind left right leaf 5000 0 now _ = _ from q1, if_pos (ix_t (by omega) (by decide)), if_pos (ix_t (by omega) (by decide)), nI_clamp (by omega), nI_clamp (by omega), nI_1, q2 top htop, nar_z]
    refine ih (c + 1) n now1 _ (by omega) (by omega) (fun i hi => ?_)
    by_cases e : i = c
    · subst e; exact upd_same
    · rw [upd_ne e]; exact h3 i (by omega)
theorem values_ok {N M top : Nat} {nmb : Nat → List Nat} {T : TT} (hN : N ≤ 10) (hM : M ≤ 160) (htop : top < M) {kind left right : Nat → Int32} (hk : ∀ j, j < M → kind j = nI (T j).1 ∧ left j = nI (T j).2.1 ∧ right j = nI (T j).2.2.1) (hT : ∀ j, j < M → nodeOK N nmb T j) (now leaf : Nat → Int32) :
    ∃ now' leaf', f_X12_values (nI N) (nI M) (nI top) kind left now right leaf = some (now', leaf') ∧ ∀ i, i < 2 ^ N → leaf' i = b2i (wbit (tU T top) i) := by
  have hp : 2 ^ N ≤ 1024 := pow_le10 hN
  exact values_go hN hM htop hk hT (2 ^ N) 0 5000 now leaf (by omega) (by omega) (fun i hi => absurd hi (by omega))
