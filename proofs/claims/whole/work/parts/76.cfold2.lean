theorem c92 {y1 y2 : Int32} {chs : Nat → Int32} {c h M : Nat} (hc : c ≤ 3) (hh : 1 ≤ h) (hM : 1 ≤ M) (hU : 2 * h * M ≤ 16) : ∀ (n a : Nat) (work : Nat → Int64) (K : Int32 → (Nat → Int64) → Option (Nat → Int64)), a ≤ M → M - a < n →
    ∃ work' : Nat → Int64, lp_X8_foldBit_92 y1 y2 (nI c) (nI h) (nI (2 * h * M)) chs n (nI (2 * h * a)) work K = K (nI (2 * h * M)) work' ∧ (∀ b, a ≤ b → b < M → ∀ i, lbt (work' (2 * h * b)) i = comb c (lbt (work (2 * h * b)) i) (lbt (work (2 * h * b + h)) i)) ∧ ∀ j, (∀ b, a ≤ b → b < M → j ≠ 2 * h * b) → work' j = work j := by
  intro n
  induction n with
  | zero => intro a work K h1 h2; omega
  | succ n ih =>
    intro a work K h1 h2
    have hle : 2 * h * a ≤ 2 * h * M := Nat.mul_le_mul_left _ h1
    have hh16 : 2 * h * 1 ≤ 2 * h * M := Nat.mul_le_mul_left _ hM
    rw [lp_X8_foldBit_92]
    by_cases ha : a = M
    · subst ha
      rw [nI_add, if_pos (nI_le (by omega) (by omega))]
      exact ⟨work, rfl, fun b q1 q2 => by omega, fun _ _ => rfl⟩
    · have hlt : 2 * h * (a + 1) ≤ 2 * h * M := Nat.mul_le_mul_left _ (by omega)
      rw [Nat.mul_add, Nat.mul_one] at hlt
      obtain ⟨z, ez, hz⟩ := choose_ok hc (work (2 * h * a)) (work (2 * h * a + h))
      have e2 : nI (2 * h * a) + ((2 : Int32) * nI h) = nI (2 * h * (a + 1)) := by rw [show (2 : Int32) * nI h = nI (2 * h) from pk_mul 2 h, nI_add, Nat.mul_add, Nat.mul_one]
      rw [e2, nI_add, if_neg (nI_ge (by omega) (by omega)), if_neg (ge_lit (k := 16) (c := 16) rfl (by omega) (by omega)), if_pos (ix_t (by omega) (by decide)), if_pos (ix_t (by omega) (by decide)), nI_clamp (n := 2 * h * a) (by omega), nI_clamp (n := 2 * h * a + h) (by omega), ez, Option.bind_some, if_pos (ix_t (by omega) (by decide))]
      obtain ⟨w', e, g1, g2⟩ := ih (a + 1) (vp_updL work (2 * h * a) z) K (by omega) (by omega)
      have inj : ∀ b, b ≠ a → 2 * h * b ≠ 2 * h * a := fun b q q2 => q (Nat.eq_of_mul_eq_mul_left (by omega) q2)
      have inj2 : ∀ b, 2 * h * b + h ≠ 2 * h * a := by
        intro b q
        have e3 : 2 * h * a = h * (2 * a) := by rw [Nat.mul_comm 2 h, Nat.mul_assoc]
        have e4 : 2 * h * b + h = h * (2 * b + 1) := by rw [Nat.mul_comm 2 h, Nat.mul_assoc, Nat.mul_add, Nat.mul_one]
        rw [e3, e4] at q
        have := Nat.eq_of_mul_eq_mul_left (by omega) q
        omega
      refine ⟨w', e, fun b q1 q2 i => ?_, fun j q => ?_⟩
      · by_cases hb : b = a
        · subst hb
          rw [g2 _ (fun b' q3 q4 => Ne.symm (inj b' (by omega))), updL_same, hz i]
        · rw [g1 b (by omega) q2 i, updL_ne (inj b hb), updL_ne (inj2 b)]
      · rw [g2 j (fun b q1 q2 => q b (by omega) q2), updL_ne (q a (Nat.le_refl _) (by omega))]
theorem foldBit_ok {L bit k c : Nat} {chs : Nat → Int32} {work : Nat → Int64} (hL : L ≤ 10) (hbit : bit < L) (hk : k < 10) (hc : c ≤ 3) (hch : chs k = nI c) :
    ∃ work' : Nat → Int64, f_X8_foldBit (nI (tw L)) chs work (nI bit) (nI k) = some work' ∧ ∀ q, (q + 1) * 2 ^ (bit + 1) ≤ 2 ^ L → wbit work' (q * 2 ^ (bit + 1)) = comb c (wbit work (q * 2 ^ (bit + 1))) (wbit work (q * 2 ^ (bit + 1) + 2 ^ bit)) := by
  obtain ⟨-, t2, t3⟩ := tw_ok hL
  unfold f_X8_foldBit jn
  rw [show (10 : Int32) = nI 10 from rfl, w_nI (by omega) (by omega), decide_eq_true hk, Option.bind_some]
  dsimp only
  rw [if_neg (by decide), if_pos (ix_t hk (by decide)), nI_clamp (by omega), hch]
  have hb1 := Nat.two_pow_pos bit
  by_cases h6 : bit < 6
  · rw [if_neg (ge_lit (k := 6) (c := 6) rfl h6 (by omega))]
    obtain ⟨w', e, g1, -⟩ := c29 (y1 := nI bit) (y2 := nI k) (chs := chs) hc t2 h6 rfl 5000 0 work (fun x4_29_27 v_work_29_28 => some v_work_29_28) (Nat.zero_le _) (by omega)
    refine ⟨w', e, fun q hq => ?_⟩
    obtain ⟨m, hm⟩ : ∃ m, 64 = 2 ^ (bit + 1) * m := ⟨2 ^ (5 - bit), by rw [← Nat.pow_add, show bit + 1 + (5 - bit) = 6 by omega]⟩
    have hpb : 2 ^ (bit + 1) = 2 * 2 ^ bit := pow2_succ bit
    have hi : q * 2 ^ (bit + 1) < 2 ^ L := by rw [Nat.add_mul, Nat.one_mul] at hq; omega
    have hcov := tw_cover hi
    generalize hI : q * 2 ^ (bit + 1) = I at hi hcov
    have hmod : I % 64 % 2 ^ (bit + 1) = 0 := by rw [hm, Nat.mod_mul_right_mod, ← hI]; exact Nat.mul_mod_left _ _
    have hin : I % 64 + 2 ^ (bit + 1) ≤ 64 := by
      have h2 : 2 ^ (bit + 1) * (I % 64 / 2 ^ (bit + 1)) = I % 64 := by have := Nat.div_add_mod (I % 64) (2 ^ (bit + 1)); omega
      have h3 : I % 64 < 64 := Nat.mod_lt _ (by omega)
      generalize I % 64 / 2 ^ (bit + 1) = x at h2
      have h4 : x < m := by
        apply Nat.lt_of_mul_lt_mul_left (a := 2 ^ (bit + 1))
        rw [h2, ← hm]; exact h3
      have h5 : 2 ^ (bit + 1) * (x + 1) ≤ 2 ^ (bit + 1) * m := Nat.mul_le_mul_left _ h4
      rw [Nat.mul_add, Nat.mul_one] at h5
      omega
    unfold wbit
    rw [show (I + 2 ^ bit) / 64 = I / 64 by omega, show (I + 2 ^ bit) % 64 = I % 64 + 2 ^ bit by omega]
    exact g1 _ (Nat.zero_le _) hcov _ (by omega)
  · rw [if_pos (by rw [show (6 : Int32) = nI 6 from rfl]; exact nI_le (by omega) (by omega))]
    have htw : tw L = 2 * 2 ^ (bit - 6) * 2 ^ (L - 1 - bit) := by
      unfold tw
      rw [if_neg (by omega), ← pow2_succ, ← Nat.pow_add]
      congr 1; omega
    have e1 : (1 : Int32) <<< ((nI bit - (6 : Int32)) &&& 31) = nI (2 ^ (bit - 6)) := by
      have : 2 ^ (bit - 6) ≤ 2 ^ 3 := Nat.pow_le_pow_right (by omega) (by omega)
      rw [show nI bit - (6 : Int32) = nI (bit - 6) from pk_sub (b := 6) (by omega), show (1 : Int32) = nI 1 from rfl, shl_nI (by omega) (by omega), Nat.one_mul]
    rw [e1]
    have hh1 := Nat.two_pow_pos (bit - 6)
    have hM1 := Nat.two_pow_pos (L - 1 - bit)
    have hP : 2 ^ (bit + 1) = 64 * (2 * 2 ^ (bit - 6)) := by
      rw [show 64 = 2 ^ 6 from rfl, ← pow2_succ, ← Nat.pow_add]; congr 1; omega
    have hP2 : 2 ^ bit = 64 * 2 ^ (bit - 6) := by
      rw [show 64 = 2 ^ 6 from rfl, ← Nat.pow_add]; congr 1; omega
    have hPL : 2 ^ L = 64 * (2 * 2 ^ (bit - 6) * 2 ^ (L - 1 - bit)) := by
      rw [← pow2_succ, ← Nat.pow_add, show 64 = 2 ^ 6 from rfl, ← Nat.pow_add]; congr 1; omega
    rw [htw]
    rw [htw] at t2
    generalize 2 ^ (bit - 6) = h at hh1 hP hP2 hPL t2 ⊢
    generalize 2 ^ (L - 1 - bit) = M at hM1 hPL t2 ⊢
    obtain ⟨w', e, g1, -⟩ := c92 (y1 := nI bit) (y2 := nI k) (chs := chs) hc hh1 hM1 t2 5000 0 work (fun x5_92_11 v_work_92_12 => some v_work_92_12) (Nat.zero_le _) (by
      have : 1 * M ≤ 2 * h * M := Nat.mul_le_mul_right _ (by omega)
      omega)
    refine ⟨w', e, fun q hq => ?_⟩
    have hqM : q < M := by
      rw [hP, hPL] at hq
      have h9 : 2 * h * (q + 1) ≤ 2 * h * M := by
        have : 64 * (2 * h * (q + 1)) ≤ 64 * (2 * h * M) := by
          rw [← Nat.mul_assoc, Nat.mul_comm (64 * (2 * h)) (q + 1)]; exact hq
        omega
      have := Nat.le_of_mul_le_mul_left h9 (by omega)
      omega
    have hI : q * 2 ^ (bit + 1) = 64 * (2 * h * q) := by rw [hP, Nat.mul_comm, Nat.mul_assoc]
    rw [hI, hP2]
    unfold wbit
    rw [show 64 * (2 * h * q) / 64 = 2 * h * q by omega, show 64 * (2 * h * q) % 64 = 0 by omega, show (64 * (2 * h * q) + 64 * h) / 64 = 2 * h * q + h by omega, show (64 * (2 * h * q) + 64 * h) % 64 = 0 by omega]
    exact g1 q (Nat.zero_le _) hqM 0
theorem c21 {y2 y3 y4 : Int32} {N v f F : Nat} {words : Nat → Int64} {chs : Nat → Int32} {ch : Nat → Nat} {lf : Nat → Bool} (hN : N ≤ 10) (hf : f ≤ N) (hF : F ≤ N - f) (hch : ∀ d, d < N → chs d = nI (ch d) ∧ ch d ≤ 3) : ∀ (n b : Nat) (work : Nat → Int64) (K : Int32 → (Nat → Int64) → Option (Int32 × Int32 × (Nat → Int64))), b ≤ F → F - b < n →
    (∀ q, q < 2 ^ (N - f - b) → wbit work (q * 2 ^ b) = gv ch lf N b (v * 2 ^ (N - f - b) + q)) →
    ∃ work' : Nat → Int64, lp_X8_fold_21 y2 y3 y4 (nI N) (nI (tw (N - f))) (nI F) words chs n (nI b) work K = K (nI F) work' ∧ ∀ q, q < 2 ^ (N - f - F) → wbit work' (q * 2 ^ F) = gv ch lf N F (v * 2 ^ (N - f - F) + q) := by
  intro n
  induction n with
  | zero => intro b work K h1 h2; omega
  | succ n ih =>
    intro b work K h1 h2 hI
    rw [lp_X8_fold_21]
    by_cases hb : b = F
    · subst hb
      rw [if_pos (nI_le (Nat.le_refl _) (by omega))]
      exact ⟨work, rfl, hI⟩
    · obtain ⟨c1, c2⟩ := hch (N - 1 - b) (by omega)
      obtain ⟨w1, e1, g1⟩ := foldBit_ok (L := N - f) (bit := b) (k := N - 1 - b) (c := ch (N - 1 - b)) (chs := chs) (work := work) (by omega) (by omega) (by omega) c2 c1
      have ek : nI N - (1 : Int32) - nI b = nI (N - 1 - b) := by rw [show nI N - (1 : Int32) = nI (N - 1) from pk_sub (b := 1) (by omega), pk_sub (by omega)]
      rw [if_neg (nI_ge (by omega) (by omega)), ek, e1, Option.bind_some, nI_1]
      refine ih (b + 1) w1 K (by omega) (by omega) (fun q hq => ?_)
      have hpw : 2 ^ (N - f - b) = 2 * 2 ^ (N - f - (b + 1)) := by rw [← pow2_succ]; congr 1; omega
      have hL2 : 2 ^ (N - f) = 2 ^ (N - f - (b + 1)) * 2 ^ (b + 1) := by rw [← Nat.pow_add]; congr 1; omega
      rw [g1 q (by rw [hL2]; exact Nat.mul_le_mul_right _ hq)]
      have i0 := hI (2 * q) (by rw [hpw]; omega)
      have i1 := hI (2 * q + 1) (by rw [hpw]; omega)
      have m0 : 2 * q * 2 ^ b = q * 2 ^ (b + 1) := by rw [pow2_succ, Nat.mul_comm 2 q, Nat.mul_assoc]
      have m1 : (2 * q + 1) * 2 ^ b = q * 2 ^ (b + 1) + 2 ^ b := by rw [Nat.add_mul, Nat.one_mul, m0]
      rw [m0] at i0
      rw [m1] at i1
      rw [i0, i1]
      show _ = comb (ch (N - (b + 1))) _ _
      have ev : 2 * (v * 2 ^ (N - f - (b + 1)) + q) = v * 2 ^ (N - f - b) + 2 * q := by rw [hpw, Nat.mul_add, ← Nat.mul_assoc, Nat.mul_comm 2 v, Nat.mul_assoc]
      rw [show N - 1 - b = N - (b + 1) by omega, ev, Nat.add_assoc]
theorem fold_ok {N f v F : Nat} {used folded : Int32} {words work : Nat → Int64} {chs : Nat → Int32} {ch : Nat → Nat} {lf : Nat → Bool} (hN : N ≤ 10) (hf : f ≤ N) (hv : v < 2 ^ f) (hF : F ≤ N - f) (hch : ∀ d, d < N → chs d = nI (ch d) ∧ ch d ≤ 3) (hw : ∀ c, c < 2 ^ N → wbit words c = lf c) :
    ∃ work' : Nat → Int64, f_X8_fold (nI N) used folded words work chs (nI v) (nI f) (nI (N - F)) = some (nI (tw (N - f)), nI F, work') ∧ ∀ q, q < 2 ^ (N - f - F) → wbit work' (q * 2 ^ F) = gv ch lf N F (v * 2 ^ (N - f - F) + q) := by
  obtain ⟨w1, e1, g1⟩ := load_ok (used := used) (words := words) (work := work) hN hf hv
  unfold f_X8_fold
  rw [e1, Option.bind_some]
  dsimp only
  rw [pk_sub (show N - F ≤ N by omega), show N - (N - F) = F by omega]
  obtain ⟨w2, e2, g2⟩ := c21 (y2 := nI v) (y3 := nI f) (y4 := nI (N - F)) (v := v) (words := words) (lf := lf) hN hf hF hch 5000 0 w1 (fun x5_21_7 v_work_21_8 => some (nI (tw (N - f)), nI F, v_work_21_8)) (Nat.zero_le _) (by omega) (fun q hq => by
    rw [Nat.sub_zero] at hq ⊢
    rw [Nat.pow_zero, Nat.mul_one, g1 q hq]
    have hNf : 2 ^ N = 2 ^ f * 2 ^ (N - f) := by rw [← Nat.pow_add]; congr 1; omega
    have : (v + 1) * 2 ^ (N - f) ≤ 2 ^ N := by rw [hNf]; exact Nat.mul_le_mul_right _ hv
    rw [Nat.add_mul, Nat.one_mul] at this
    exact hw _ (by omega))
  exact ⟨w2, e2, g2⟩
theorem outcome_ok {F q : Nat} {work : Nat → Int64} (hF : F ≤ 10) (hq : q * 2 ^ F < 1024) : f_X8_outcome (nI F) work (nI q) = some (b2i (wbit work (q * 2 ^ F))) := by
  unfold f_X8_outcome
  rw [shl_nI (by omega) (by omega)]
  generalize q * 2 ^ F = P at hq
  have e6 : nI P >>> ((6 : Int32) &&& 31) = nI (P / 64) := shr_nI (k := 6) (by omega) (by omega)
  have e63 : nI P &&& (63 : Int32) = nI (P % 64) := pk_andN (n := P) (by omega) 6 (by decide)
  rw [e6, e63, show (16 : Int32) = nI 16 from rfl, w_nI (by omega) (by omega), decide_eq_true (by omega), Option.bind_some, if_neg (by decide), if_pos (ix_t (by omega) (by decide)), nI_clamp (by omega)]
  congr 1
  unfold wbit
  have hl := l_ushr (s := P % 64) (by omega) (work (P / 64)) 0
  rw [Nat.add_zero] at hl
  rw [← hl]
  generalize jlushr (work (P / 64)) (nI (P % 64)) = z
  obtain ⟨m, hm, rfl⟩ := wb_of z
  rw [wb_a1 hm, lN_i]
  unfold lbt
  rw [wb_tb, BitVec.getLsbD_ofNat]
  simp only [Nat.testBit_zero, Nat.zero_lt_succ, decide_true, Bool.true_and]
  rcases Nat.mod_two_eq_zero_or_one m with h | h <;> rw [h] <;> rfl
