/-! the system's folding of a table of bits -/
def lbt (x : Int64) (i : Nat) : Bool := x.toBitVec.getLsbD i
def wbit (w : Nat → Int64) (i : Nat) : Bool := lbt (w (i / 64)) (i % 64)
theorem l_or (x y : Int64) (i : Nat) : lbt (x ||| y) i = (lbt x i || lbt y i) := by unfold lbt; rw [Int64.toBitVec_or, BitVec.getLsbD_or]
theorem l_and (x y : Int64) (i : Nat) : lbt (x &&& y) i = (lbt x i && lbt y i) := by unfold lbt; rw [Int64.toBitVec_and, BitVec.getLsbD_and]
theorem l_ushr {s : Nat} (hs : s < 64) (x : Int64) (i : Nat) : lbt (jlushr x (nI s)) i = lbt x (s + i) := by
  unfold jlushr lbt
  rw [wb_cu s hs]
  show (x.toUInt64 >>> UInt64.ofNat s).toBitVec.getLsbD i = x.toUInt64.toBitVec.getLsbD (s + i)
  rw [UInt64.toBitVec_shiftRight]
  show (x.toUInt64.toBitVec >>> ((UInt64.ofNat s).toBitVec % 64).toNat).getLsbD i = _
  rw [show ((UInt64.ofNat s).toBitVec % 64).toNat = s from (by decide +kernel : ∀ s, s < 64 → ((UInt64.ofNat s).toBitVec % 64).toNat = s) s hs, BitVec.getLsbD_ushiftRight]
theorem ge_lit {w c : Nat} {k : Int32} (hk : k = nI c) (h : w < c) (hc : c < 2 ^ 31) : ¬ k ≤ nI w := by rw [hk]; exact nI_ge h hc
theorem le_lit {w c : Nat} {k : Int32} (hk : k = nI c) (h : w ≤ c) (hc : c < 2 ^ 31) : nI w ≤ k := by rw [hk]; exact nI_le h hc
theorem nle_lit {w c : Nat} {k : Int32} (hk : k = nI c) (h : c < w) (hc : w < 2 ^ 31) : ¬ nI w ≤ k := by rw [hk]; exact nI_ge h hc
def tw (L : Nat) : Nat := if L ≤ 6 then 1 else 2 ^ (L - 6)
theorem tw_ok {L : Nat} (hL : L ≤ 10) : f_X11_tableWords (nI L) = some (nI (tw L)) ∧ tw L ≤ 16 ∧ 1 ≤ tw L := by
  unfold f_X11_tableWords tw
  by_cases h : L ≤ 6
  · rw [if_pos (le_lit (k := 6) (c := 6) rfl h (by omega)), if_pos h]
    exact ⟨rfl, by omega, by omega⟩
  · rw [if_neg (nle_lit (k := 6) (c := 6) rfl (by omega) (by omega)), if_neg h, show nI L - (6 : Int32) = nI (L - 6) from pk_sub (b := 6) (by omega)]
    have h4 : 2 ^ (L - 6) ≤ 2 ^ 4 := Nat.pow_le_pow_right (by omega) (by omega)
    have h5 := Nat.two_pow_pos (L - 6)
    rw [show (1 : Int32) = nI 1 from rfl, shl_nI (by omega) (by omega), Nat.one_mul]
    exact ⟨rfl, by omega, by omega⟩
theorem tw_cover {L i : Nat} (h : i < 2 ^ L) : i / 64 < tw L := by
  unfold tw
  by_cases h6 : L ≤ 6
  · rw [if_pos h6]
    have : 2 ^ L ≤ 2 ^ 6 := Nat.pow_le_pow_right (by omega) h6
    omega
  · rw [if_neg h6, Nat.div_lt_iff_lt_mul (by omega)]
    rw [show 64 = 2 ^ 6 from rfl, ← Nat.pow_add, show L - 6 + 6 = L by omega]
    exact h
theorem updL_same {f : Nat → Int64} {k : Nat} {x : Int64} : vp_updL f k x k = x := by simp [vp_updL]
theorem updL_ne {f : Nat → Int64} {k j : Nat} {x : Int64} (h : j ≠ k) : vp_updL f k x j = f j := by simp [vp_updL, h]
theorem word_ok {words : Nat → Int64} {j : Nat} (hj : j < 16) : f_X9_wordAt words (nI j) = some (words j) := by
  unfold f_X9_wordAt
  rw [show (16 : Int32) = nI 16 from rfl, w_nI (by omega) (by omega), decide_eq_true hj, Option.bind_some, if_neg (by decide), if_pos (ix_t hj (by decide)), nI_clamp (by omega)]
theorem c26 {y2 y3 y4 mn : Int32} {words : Nat → Int64} {st U : Nat} (hU : U ≤ 16) (hs : st < 2048) (hb : st / 64 + U ≤ 16) : ∀ (n w : Nat) (work : Nat → Int64) (K : Int32 → (Nat → Int64) → Option (Int32 × (Nat → Int64))), w ≤ U → U - w < n →
    ∃ work' : Nat → Int64, lp_X8_load_26 y2 y3 y4 (nI st) mn (nI U) words n (nI w) work K = K (nI U) work' ∧ (∀ i, w ≤ i → i < U → work' i = words (st / 64 + i)) ∧ ∀ i, i < w → work' i = work i := by
  intro n
  induction n with
  | zero => intro w work K h1 h2; omega
  | succ n ih =>
    intro w work K h1 h2
    rw [lp_X8_load_26]
    by_cases hw : w = U
    · subst hw
      rw [if_pos (nI_le (Nat.le_refl _) (by omega))]
      exact ⟨work, rfl, fun i q1 q2 => by omega, fun _ _ => rfl⟩
    · have e6 : nI st >>> ((6 : Int32) &&& 31) = nI (st / 64) := shr_nI (k := 6) (by omega) (by omega)
      rw [if_neg (nI_ge (by omega) (by omega)), if_neg (ge_lit (k := 16) (c := 16) rfl (by omega) (by omega)), e6, nI_add, word_ok (by omega), Option.bind_some, if_pos (ix_t (by omega) (by decide)), nI_clamp (by omega), nI_1]
      obtain ⟨w', e, g1, g2⟩ := ih (w + 1) (vp_updL work w (words (st / 64 + w))) K (by omega) (by omega)
      refine ⟨w', e, fun i q1 q2 => ?_, fun i q => ?_⟩
      · by_cases hi : i = w
        · subst hi; rw [g2 _ (by omega), updL_same]
        · exact g1 i (by omega) q2
      · rw [g2 i (by omega), updL_ne (by omega)]
theorem load_ok {N f v : Nat} {used : Int32} {words work : Nat → Int64} (hN : N ≤ 10) (hf : f ≤ N) (hv : v < 2 ^ f) :
    ∃ work' : Nat → Int64, f_X8_load (nI N) used words work (nI v) (nI f) = some (nI (tw (N - f)), work') ∧ ∀ i, i < 2 ^ (N - f) → wbit work' i = wbit words (v * 2 ^ (N - f) + i) := by
  generalize hL : N - f = L
  have hLN : L ≤ 10 := by omega
  have hpL : 2 ^ L ≤ 1024 := pow_le10 hLN
  have hpL1 := Nat.two_pow_pos L
  have hNf : 2 ^ N = 2 ^ f * 2 ^ L := by rw [← Nat.pow_add]; congr 1; omega
  have hpN : 2 ^ N ≤ 1024 := pow_le10 hN
  have hst : (v + 1) * 2 ^ L ≤ 2 ^ N := by rw [hNf]; exact Nat.mul_le_mul_right _ hv
  rw [Nat.add_mul, Nat.one_mul] at hst
  obtain ⟨t1, t2, t3⟩ := tw_ok hLN
  unfold f_X8_load
  rw [pk_sub hf, hL, t1, Option.bind_some, shl_nI (by omega) (by omega)]
  generalize hS : v * 2 ^ L = S at hst
  have hb : S / 64 + tw L ≤ 16 := by
    unfold tw
    by_cases h6 : L ≤ 6
    · rw [if_pos h6]; omega
    · rw [if_neg h6]
      have e : 2 ^ L = 2 ^ (L - 6) * 64 := by rw [show 64 = 2 ^ 6 from rfl, ← Nat.pow_add]; congr 1; omega
      omega
  obtain ⟨w1, e, g1, g2⟩ := c26 (y2 := nI v) (y3 := nI f) (y4 := nI L) (mn := nI N) (words := words) (st := S) (U := tw L) t2 (by omega) hb 5000 0 work (fun x6_26_8 v_work_26_9 => if ix 0 16 then if ix 0 16 then some (nI (tw L), vp_updL v_work_26_9 (0 : Int32).toNatClampNeg (jlushr (v_work_26_9 (0 : Int32).toNatClampNeg) (nI S &&& (63 : Int32)))) else none else none) (Nat.zero_le _) (by omega)
  refine ⟨vp_updL w1 0 (jlushr (w1 0) (nI (S % 64))), ?_, ?_⟩
  · refine Eq.trans e ?_
    have e63 : nI S &&& (63 : Int32) = nI (S % 64) := pk_andN (n := S) (by omega) 6 (by decide)
    rw [if_pos (by decide), if_pos (by decide), e63]
    rfl
  · intro i hi
    unfold wbit
    have hcov := tw_cover hi
    have hmod : S % 2 ^ L = 0 := by rw [← hS]; exact Nat.mul_mod_left _ _
    by_cases h6 : L ≤ 6
    · -- all in one word
      obtain ⟨k, hk⟩ : ∃ k, 64 = 2 ^ L * k := ⟨2 ^ (6 - L), by rw [← Nat.pow_add, show L + (6 - L) = 6 by omega]⟩
      have hin : S % 64 + i < 64 := by
        have h1 : S % 64 % 2 ^ L = 0 := by rw [hk, Nat.mod_mul_right_mod]; exact hmod
        have h2 : 2 ^ L * (S % 64 / 2 ^ L) = S % 64 := by have := Nat.div_add_mod (S % 64) (2 ^ L); omega
        have h3 : S % 64 < 64 := Nat.mod_lt _ (by omega)
        generalize S % 64 / 2 ^ L = q at h2
        have h4 : q < k := by
          apply Nat.lt_of_mul_lt_mul_left (a := 2 ^ L)
          rw [h2, ← hk]; exact h3
        have h5 : 2 ^ L * (q + 1) ≤ 2 ^ L * k := Nat.mul_le_mul_left _ h4
        rw [Nat.mul_add, Nat.mul_one] at h5
        omega
      have hi0 : i / 64 = 0 := by omega
      rw [hi0, updL_same, show i % 64 = i by omega, l_ushr (by omega), g1 0 (by omega) t3, show (S + i) / 64 = S / 64 + 0 by omega, show (S + i) % 64 = S % 64 + i by omega]
    · have hS64 : S % 64 = 0 := by
        have e : 2 ^ L = 64 * 2 ^ (L - 6) := by rw [show 64 = 2 ^ 6 from rfl, ← Nat.pow_add]; congr 1; omega
        have : S % 64 = S % 2 ^ L % 64 := by rw [e, Nat.mod_mul_right_mod]
        rw [this, hmod]
      rw [hS64, show (S + i) / 64 = S / 64 + i / 64 by omega, show (S + i) % 64 = i % 64 by omega]
      by_cases hi0 : i / 64 = 0
      · rw [hi0, updL_same, l_ushr (by omega), Nat.zero_add, g1 0 (by omega) t3]
      · rw [updL_ne hi0, g1 _ (by omega) hcov]
theorem choose_ok {c : Nat} (hc : c ≤ 3) (x y : Int64) : ∃ z, f_X8_choose (nI c) x y = some z ∧ ∀ i, lbt z i = comb c (lbt x i) (lbt y i) := by
  unfold f_X8_choose comb
  match c, hc with
  | 0, _ => exact ⟨_, by rw [if_pos (by decide)], fun i => by rw [if_pos rfl]; exact l_or x y i⟩
  | 1, _ => exact ⟨_, by rw [if_neg (by decide), if_pos (by decide)], fun i => by rw [if_neg (by decide), if_pos rfl]; exact l_and x y i⟩
  | 2, _ => exact ⟨_, by rw [if_neg (by decide), if_neg (by decide), if_pos (by decide)], fun i => by rw [if_neg (by decide), if_neg (by decide), if_pos rfl]⟩
  | 3, _ => exact ⟨_, by rw [if_neg (by decide), if_neg (by decide), if_neg (by decide)], fun i => by rw [if_neg (by decide), if_neg (by decide), if_neg (by decide)]⟩
  | c + 4, h => omega
theorem c29 {y1 y2 : Int32} {chs : Nat → Int32} {c U bit : Nat} (hc : c ≤ 3) (hU : U ≤ 16) (hbit : bit < 6) (hy1 : y1 = nI bit) : ∀ (n w : Nat) (work : Nat → Int64) (K : Int32 → (Nat → Int64) → Option (Nat → Int64)), w ≤ U → U - w < n →
    ∃ work' : Nat → Int64, lp_X8_foldBit_29 y1 y2 (nI c) (nI U) chs n (nI w) work K = K (nI U) work' ∧ (∀ j, w ≤ j → j < U → ∀ i, i + 2 ^ bit < 64 → lbt (work' j) i = comb c (lbt (work j) i) (lbt (work j) (i + 2 ^ bit))) ∧ ∀ j, j < w → work' j = work j := by
  have hp : 2 ^ bit ≤ 2 ^ 5 := Nat.pow_le_pow_right (by omega) (by omega)
  have e1 : (1 : Int32) <<< (y1 &&& 31) = nI (2 ^ bit) := by rw [hy1, show (1 : Int32) = nI 1 from rfl, shl_nI (by omega) (by omega), Nat.one_mul]
  intro n
  induction n with
  | zero => intro w work K h1 h2; omega
  | succ n ih =>
    intro w work K h1 h2
    rw [lp_X8_foldBit_29]
    by_cases hw : w = U
    · subst hw
      rw [if_pos (nI_le (Nat.le_refl _) (by omega))]
      exact ⟨work, rfl, fun j q1 q2 => by omega, fun _ _ => rfl⟩
    · obtain ⟨z, ez, hz⟩ := choose_ok hc (work w) (jlushr (work w) (nI (2 ^ bit)))
      rw [if_neg (nI_ge (by omega) (by omega)), if_neg (ge_lit (k := 16) (c := 16) rfl (by omega) (by omega)), if_pos (ix_t (by omega) (by decide)), if_pos (ix_t (by omega) (by decide)), nI_clamp (by omega), e1, ez, Option.bind_some, if_pos (ix_t (by omega) (by decide)), nI_1]
      obtain ⟨w', e, g1, g2⟩ := ih (w + 1) (vp_updL work w z) K (by omega) (by omega)
      refine ⟨w', e, fun j q1 q2 i hi => ?_, fun j q => ?_⟩
      · by_cases hj : j = w
        · subst hj
          rw [g2 _ (by omega), updL_same, hz i, l_ushr (by omega), Nat.add_comm]
        · rw [g1 j (by omega) q2 i hi, updL_ne hj]
      · rw [g2 j (by omega), updL_ne (by omega)]
