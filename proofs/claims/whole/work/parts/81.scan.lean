/-! the scanner: the same tokens on both sides -/
def toks : List Nat := [0, 48, 49, 33, 38, 40, 41, 58, 59, 61, 62, 94, 124, 110, 115, 97, 63]
def kd (t : Nat) : Nat := if t = 110 then 256 else if t = 115 then 512 else if t = 97 then 513 else if t = 0 then 514 else if t = 63 then 515 else t
def isS (x : Int32) : Bool := !(decide (x < 97)) && !(decide (122 < x))
def isD (x : Int32) : Bool := !(decide (x < 48)) && !(decide (57 < x))
def isC (x : Int32) : Bool := !(decide (x < 65)) && !(decide (90 < x))
def isW (x : Int32) : Bool := isS x || isD x || isC x
theorem small_x (x : Int32) : f_X7_isSmallLetter x = some (isS x) := by
  unfold f_X7_isSmallLetter isS
  by_cases h1 : x < 97
  · rw [if_pos h1, decide_eq_true h1]; rfl
  · rw [if_neg h1, decide_eq_false h1]
    by_cases h2 : 122 < x
    · rw [if_pos h2, decide_eq_true h2]; rfl
    · rw [if_neg h2, decide_eq_false h2]; rfl
theorem small_m (x : Int32) : f_X12_isSmall x = some (isS x) := small_x x
theorem digit_x (x : Int32) : f_X7_isDigit x = some (isD x) := by
  unfold f_X7_isDigit isD
  by_cases h1 : x < 48
  · rw [if_pos h1, decide_eq_true h1]; rfl
  · rw [if_neg h1, decide_eq_false h1]
    by_cases h2 : 57 < x
    · rw [if_pos h2, decide_eq_true h2]; rfl
    · rw [if_neg h2, decide_eq_false h2]; rfl
theorem digit_m (x : Int32) : f_X12_isDigit x = some (isD x) := digit_x x
theorem le_nlt (x y : Int32) : x ≤ y ↔ ¬ y < x := Int32.not_lt.symm
theorem word_x (x : Int32) : f_X7_isLetterOrDigit x = some (isW x) := by
  unfold f_X7_isLetterOrDigit isW jn
  rw [small_x, Option.bind_some, digit_x]
  dsimp only [Option.bind_some]
  cases isS x
  · rw [if_pos (by decide)]
    unfold isC
    by_cases h1 : x < 65
    · rw [if_pos h1, decide_eq_true h1]; cases isD x <;> rfl
    · rw [if_neg h1, decide_eq_false h1]
      by_cases h2 : 90 < x
      · rw [if_neg (fun q => (le_nlt _ _).1 q h2), decide_eq_true h2]; cases isD x <;> rfl
      · rw [if_pos ((le_nlt _ _).2 h2), decide_eq_false h2]; cases isD x <;> rfl
  · rw [if_neg (by decide)]; rfl
theorem word_m (x : Int32) : f_X12_isWordByte x = some (isW x) := by
  unfold f_X12_isWordByte isW
  rw [small_m, Option.bind_some, digit_m]
  dsimp only [Option.bind_some]
  cases isS x
  · rw [if_pos (by decide)]
    unfold isC
    by_cases h1 : x < 65
    · rw [if_pos h1, decide_eq_true h1]; cases isD x <;> rfl
    · rw [if_neg h1, decide_eq_false h1]
      by_cases h2 : 90 < x
      · rw [if_pos h2, decide_eq_true h2]; cases isD x <;> rfl
      · rw [if_neg h2, decide_eq_false h2]; cases isD x <;> rfl
  · rw [if_neg (by decide)]; rfl
theorem byte_any (tb : Nat → Int32) (i : Int32) : ∃ r, f_X10_byteAt tb i = some r := by
  unfold f_X10_byteAt
  rcases w_any i (b := 600) (by omega) with ⟨j, hj, rfl, e⟩ | ⟨-, e⟩
  · have e' : f_X11_within (nI j) 600 = some true := e
    rw [e', Option.bind_some, if_neg (c := b2i true = 0) (by decide), if_pos (ix_t hj (by decide))]
    exact ⟨_, rfl⟩
  · have e' : f_X11_within i 600 = some false := e
    rw [e', Option.bind_some, if_pos (c := b2i false = 0) (by decide)]
    exact ⟨_, rfl⟩
theorem byte_x {tb : Nat → Int32} {k : Nat} (hk : k < 600) : f_X10_byteAt tb (nI k) = some (tb k) := by
  unfold f_X10_byteAt
  have e : f_X11_within (nI k) 600 = some true := by
    have := w_nI (a := k) (b := 600) (by omega) (by omega)
    rw [decide_eq_true hk] at this
    exact this
  rw [e, Option.bind_some, if_neg (c := b2i true = 0) (by decide), if_pos (ix_t hk (by decide)), nI_clamp (by omega)]
theorem at_m {tx : Nat → Int32} {n k : Nat} (hn : n ≤ 600) (hk : k < n) : f_X12_at (nI n) tx (nI k) = some (tx k &&& 255) := by
  unfold f_X12_at
  rw [if_neg (nI_ge hk (by omega)), if_pos (ix_t (by omega) (by decide)), nI_clamp (by omega)]
theorem at_e {tx : Nat → Int32} {n k : Nat} (hk : n ≤ k) (hk2 : k < 2 ^ 31) : f_X12_at (nI n) tx (nI k) = some 0 := by
  unfold f_X12_at
  rw [if_pos (nI_le hk hk2)]
section SCN
variable {n : Nat} {tb tx : Nat → Int32}
theorem blank_ok (hn : n ≤ 600) (ht : ∀ k, k < n → tb k = tx k &&& 255) {y1 y2 y3 z1 z2 z3 z4 z5 : Int32} : ∀ (fu p : Nat) (K1 : Int32 → Option (Int32 × Int32 × Int32 × Int32)) (K2 : Int32 → Option (Int32 × Int32 × Int32 × Int32 × Int32)), p ≤ n → n - p < fu →
    ∃ b, p ≤ b ∧ b ≤ n ∧ lp_X7_advance_0 (nI n) y1 y2 y3 tb fu (nI p) K1 = K1 (nI b) ∧ lp_X12_next_5 (nI n) z1 z2 z3 z4 z5 tx fu (nI p) K2 = K2 (nI b) := by
  intro fu
  induction fu with
  | zero => intro p K1 K2 h1 h2; omega
  | succ fu ih =>
    intro p K1 K2 h1 h2
    rw [lp_X7_advance_0, lp_X12_next_5]
    by_cases hp : p = n
    · subst hp
      rw [if_pos (nI_le (Nat.le_refl _) (by omega)), if_pos (nI_le (Nat.le_refl _) (by omega))]
      exact ⟨p, Nat.le_refl _, Nat.le_refl _, rfl, rfl⟩
    · rw [if_neg (nI_ge (by omega) (by omega)), if_neg (nI_ge (by omega) (by omega)), byte_x (by omega), Option.bind_some, at_m hn (by omega), Option.bind_some, ← ht p (by omega), nI_1]
      unfold f_X7_isBlank
      rw [Option.bind_some]
      obtain ⟨b, q1, q2, q3, q4⟩ := ih (p + 1) K1 K2 (by omega) (by omega)
      by_cases h32 : tb p = 32
      · rw [if_pos h32, Option.bind_some, if_neg (c := b2i true = 0) (by decide), if_pos h32]
        exact ⟨b, by omega, q2, q3, q4⟩
      · rw [if_neg h32, if_neg h32]
        by_cases h10 : tb p = 10
        · rw [if_pos h10, Option.bind_some, if_neg (c := b2i true = 0) (by decide), if_pos h10]
          exact ⟨b, by omega, q2, q3, q4⟩
        · rw [if_neg h10, Option.bind_some, if_pos (c := b2i false = 0) (by decide), if_neg h10]
          exact ⟨p, Nat.le_refl _, h1, rfl, rfl⟩
theorem run_ok (hn : n ≤ 600) (ht : ∀ k, k < n → tb k = tx k &&& 255) {y1 y2 y3 z0 z1 z2 z3 z4 z5 : Int32} : ∀ (fu p : Nat) (K1 : Int32 → Option (Int32 × Int32 × Int32 × Int32)) (K2 : Int32 → Option (Int32 × Int32 × Int32 × Int32 × Int32)), p ≤ n → n - p < fu →
    ∃ q, p ≤ q ∧ q ≤ n ∧ (∀ i, p ≤ i → i < q → isW (tb i) = true) ∧ lp_X7_advance_49 (nI n) y1 y2 y3 tb fu (nI p) K1 = K1 (nI q) ∧ lp_X12_next_47 z0 (nI n) z1 z2 z3 z4 z5 tx fu (nI p) K2 = K2 (nI q) := by
  intro fu
  induction fu with
  | zero => intro p K1 K2 h1 h2; omega
  | succ fu ih =>
    intro p K1 K2 h1 h2
    rw [lp_X7_advance_49, lp_X12_next_47]
    by_cases hp : p = n
    · subst hp
      rw [if_pos (nI_le (Nat.le_refl _) (by omega)), at_e (Nat.le_refl _) (by omega), Option.bind_some, word_m, Option.bind_some, if_pos (by decide)]
      exact ⟨p, Nat.le_refl _, Nat.le_refl _, fun i h3 h4 => by omega, rfl, rfl⟩
    · rw [if_neg (nI_ge (by omega) (by omega)), byte_x (by omega), Option.bind_some, at_m hn (by omega), Option.bind_some, ← ht p (by omega), word_x, word_m, Option.bind_some, Option.bind_some, nI_1]
      obtain ⟨b, q1, q2, q0, q3, q4⟩ := ih (p + 1) K1 K2 (by omega) (by omega)
      cases hw : isW (tb p)
      · rw [if_pos (by decide), if_pos (by decide)]
        exact ⟨p, Nat.le_refl _, h1, fun i h3 h4 => by omega, rfl, rfl⟩
      · rw [if_neg (by decide), if_neg (by decide)]
        refine ⟨b, by omega, q2, fun i h3 h4 => ?_, q3, q4⟩
        by_cases hi : i = p
        · subst hi; exact hw
        · exact q0 i (by omega) h4
end SCN
theorem sign_ok (x : Int32) : ∃ t, t ∈ toks ∧ t ≠ 110 ∧ f_X7_kindOfSign x = some (nI (kd t)) ∧ ((∃ c ∈ ([40, 41, 33, 38, 124, 94, 62, 61, 59, 58] : List Int32), x = c ∧ x = nI t) ∨ ((∀ c ∈ ([40, 41, 33, 38, 124, 94, 62, 61, 59, 58] : List Int32), ¬ x = c) ∧ t = 63)) := by
  unfold f_X7_kindOfSign f_X11_levelOf jn
  dsimp only
  by_cases h33 : x = 33
  · subst h33; exact ⟨33, by decide, by decide, rfl, Or.inl ⟨33, by decide, rfl, rfl⟩⟩
  by_cases h38 : x = 38
  · subst h38; exact ⟨38, by decide, by decide, rfl, Or.inl ⟨38, by decide, rfl, rfl⟩⟩
  by_cases h61 : x = 61
  · subst h61; exact ⟨61, by decide, by decide, rfl, Or.inl ⟨61, by decide, rfl, rfl⟩⟩
  by_cases h62 : x = 62
  · subst h62; exact ⟨62, by decide, by decide, rfl, Or.inl ⟨62, by decide, rfl, rfl⟩⟩
  by_cases h94 : x = 94
  · subst h94; exact ⟨94, by decide, by decide, rfl, Or.inl ⟨94, by decide, rfl, rfl⟩⟩
  by_cases h124 : x = 124
  · subst h124; exact ⟨124, by decide, by decide, rfl, Or.inl ⟨124, by decide, rfl, rfl⟩⟩
  by_cases h40 : x = 40
  · subst h40; exact ⟨40, by decide, by decide, rfl, Or.inl ⟨40, by decide, rfl, rfl⟩⟩
  by_cases h41 : x = 41
  · subst h41; exact ⟨41, by decide, by decide, rfl, Or.inl ⟨41, by decide, rfl, rfl⟩⟩
  by_cases h59 : x = 59
  · subst h59; exact ⟨59, by decide, by decide, rfl, Or.inl ⟨59, by decide, rfl, rfl⟩⟩
  by_cases h58 : x = 58
  · subst h58; exact ⟨58, by decide, by decide, rfl, Or.inl ⟨58, by decide, rfl, rfl⟩⟩
  refine ⟨63, by decide, by decide, ?_, Or.inr ⟨?_, rfl⟩⟩
  · rw [if_neg h33, if_neg h38, if_neg h61, if_neg h62, if_neg h94, if_neg h124, Option.bind_some, if_neg (by decide), if_neg h40, if_neg h41, if_neg h59, if_neg h58, if_pos rfl]
    rfl
  · intro c hc
    simp only [List.mem_cons, List.not_mem_nil, or_false] at hc
    rcases hc with rfl | rfl | rfl | rfl | rfl | rfl | rfl | rfl | rfl | rfl <;> assumption
