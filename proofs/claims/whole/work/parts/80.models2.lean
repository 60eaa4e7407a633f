theorem wbit_at (w : Nat → Int64) (k : Nat) {i : Nat} (hi : i < 64) : wbit w (64 * k + i) = lbt (w k) i := by
  unfold wbit
  rw [show (64 * k + i) / 64 = k by omega, show (64 * k + i) % 64 = i by omega]
theorem c45 {y2 y3 y4 mn : Int32} {words work : Nat → Int64} {U : Nat} (hU : U ≤ 16) : ∀ (n w : Nat) (K : Int32 → Int32 → Option (Int32 × Int32 × (Nat → Int64))), w ≤ U → U - w < n →
    lp_X8_countOnes_45 y2 y3 y4 mn (nI U) words work n (nI (cnt (wbit work) (64 * w))) (nI w) K = K (nI (cnt (wbit work) (64 * U))) (nI U) := by
  intro n
  induction n with
  | zero => intro w K h1 h2; omega
  | succ n ih =>
    intro w K h1 h2
    rw [lp_X8_countOnes_45]
    by_cases hw : w = U
    · subst hw
      rw [if_pos (nI_le (Nat.le_refl _) (by omega))]
    · rw [if_neg (nI_ge (by omega) (by omega)), if_neg (ge_lit (k := 16) (c := 16) rfl (by omega) (by omega)), if_pos (ix_t (by omega) (by decide)), nI_clamp (by omega), bits_ok, Option.bind_some, nI_1, nI_add]
      have e : cnt (wbit work) (64 * w) + cnt (lbt (work w)) 64 = cnt (wbit work) (64 * (w + 1)) := by
        rw [Nat.mul_add, cnt_add]
        congr 1
        exact cnt_congr (fun i hi => (wbit_at work w hi).symm)
      rw [e]
      exact ih (w + 1) K (by omega) (by omega)
theorem m16 {mn md : Int32} {leaf : Nat → Int32} {lf : Nat → Bool} {pv L : Nat} (hL : L ≤ 10) (hb : pv * 2 ^ L + 2 ^ L ≤ 1024) (hlf : ∀ c, c < 2 ^ L → leaf (pv * 2 ^ L + c) = b2i (lf (pv * 2 ^ L + c))) : ∀ (n c : Nat) (K : Int32 → Int32 → Option Int32), c ≤ 2 ^ L → 2 ^ L - c < n →
    lp_X12_models_16 (nI (2 ^ L)) mn md (nI pv) leaf n (nI (cnt (fun i => lf (pv * 2 ^ L + i)) c)) (nI c) K = K (nI (cnt (fun i => lf (pv * 2 ^ L + i)) (2 ^ L))) (nI (2 ^ L)) := by
  intro n
  induction n with
  | zero => intro c K h1 h2; omega
  | succ n ih =>
    intro c K h1 h2
    rw [lp_X12_models_16]
    by_cases hc : c = 2 ^ L
    · subst hc
      rw [if_pos (nI_le (Nat.le_refl _) (by omega))]
    · have e1 : nI pv * nI (2 ^ L) + nI c = nI (pv * 2 ^ L + c) := by rw [pk_mul, nI_add]
      have ih' := ih (c + 1) K (by omega) (by omega)
      have ec : cnt (fun i => lf (pv * 2 ^ L + i)) (c + 1) = cnt (fun i => lf (pv * 2 ^ L + i)) c + (if lf (pv * 2 ^ L + c) then 1 else 0) := rfl
      rw [ec] at ih'
      rw [if_neg (nI_ge (by omega) (by omega)), e1, if_pos (ix_t (by omega) (by decide)), nI_clamp (by omega), hlf c (by omega), nI_1]
      generalize lf (pv * 2 ^ L + c) = b at ih' ⊢
      cases b
      · rw [if_pos (by decide), show nI (cnt (fun i => lf (pv * 2 ^ L + i)) c) + (0 : Int32) = nI (cnt (fun i => lf (pv * 2 ^ L + i)) c + 0) from nI_add _ 0]
        exact ih'
      · rw [if_neg (by decide), nI_1]
        exact ih'
theorem cnt_zero {f : Nat → Bool} {n : Nat} (h : ∀ i, i < n → f i = false) : cnt f n = 0 := by
  induction n with
  | zero => rfl
  | succ n ih =>
    show cnt f n + (if f n then 1 else 0) = 0
    rw [ih (fun i hi => h i (by omega)), h n (by omega)]
    rfl
theorem l_mask {k : Nat} (hk : k < 64) (x : Int64) {i : Nat} (hi : i < 64) : lbt (x &&& (jlshl 1 (nI k) - (1 : Int64))) i = (lbt x i && decide (i < k)) := by
  have e : jlshl 1 (nI k) - (1 : Int64) = lN (2 ^ k - 1) := by
    unfold jlshl
    rw [show (1 : Int64) = lN 1 from rfl, wb_shl 1 hk, Nat.one_mul, lN_sub' (Nat.two_pow_pos k)]
  have h2 : 2 ^ k ≤ 2 ^ 63 := Nat.pow_le_pow_right (by omega) (by omega)
  rw [e, l_and, l_nat (by omega) hi, Nat.testBit_two_pow_sub_one]
section MD
variable {N B : Nat} {sz nb : Nat → Nat} {own : Nat → Bool} {xc xn : Int32} {xo xs xk xb : Nat → Int32} {mn mb : Int32} {mk mnb mm ma : Nat → Int32}
variable {pl dp pv : Nat} {hb hn hv : Int32} {hp : Nat → Int32} {qp qd qx : Int32} {qm : Nat → Int32}
variable {lf : Nat → Bool} {words : Nat → Int64} {leaf kept : Nat → Int32}
theorem models_ok (h : IBlk N B sz nb own xc xn xo xs xk xb mn mb mk mnb mm ma) (hh : IHist B sz pl dp pv hb hn hv hp qp qd qx qm) (ht : ITab N nb own lf words leaf kept) (s1 s2 : Int32) (s4 : Nat → Int32) (s5 : Nat → Int64) :
    ∃ (r u1 u2 : Int32) (u4 : Nat → Int32) (u5 : Nat → Int64), f_X11_models s1 s2 xc xn xb xo s4 hn hv words s5 = some (r, u1, u2, u4, u5) ∧ f_X12_models mn qd qx leaf = some r := by
  have hdN := dp_le h hh
  obtain ⟨c', e1, -, g1⟩ := owners_ok h s1 s4
  obtain ⟨hB, hN, rfl, rfl, rfl, rfl, hbl, hk, hs⟩ := h
  obtain ⟨h1, hdp, h3, rfl, rfl, rfl, rfl, rfl, rfl, hpm⟩ := hh
  obtain ⟨w1, e2, g2⟩ := load_ok (used := s2) (words := words) (work := s5) hN hdN h3
  have hpN : 2 ^ N ≤ 1024 := pow_le10 hN
  have hNp : 2 ^ N = 2 ^ dp * 2 ^ (N - dp) := by rw [← Nat.pow_add]; congr 1; omega
  have hst : (pv + 1) * 2 ^ (N - dp) ≤ 2 ^ N := by rw [hNp]; exact Nat.mul_le_mul_right _ h3
  rw [Nat.add_mul, Nat.one_mul] at hst
  have hpL : 2 ^ (N - dp) ≤ 1024 := pow_le10 (by omega)
  obtain ⟨-, t2, t3⟩ := tw_ok (L := N - dp) (by omega)
  have ep : (1 : Int32) <<< ((nI N - nI dp) &&& 31) = nI (2 ^ (N - dp)) := by rw [pk_sub hdN, show (1 : Int32) = nI 1 from rfl, shl_nI (by omega) (by omega), Nat.one_mul]
  have em : f_X12_models (nI N) (nI dp) (nI pv) leaf = some (nI (cnt (fun i => lf (pv * 2 ^ (N - dp) + i)) (2 ^ (N - dp)))) := by
    unfold f_X12_models
    rw [ep]
    exact m16 (by omega) (by omega) (fun c hc => ht.2.1 _ (by omega)) 5000 0 _ (Nat.zero_le _) (by omega)
  unfold f_X11_models
  rw [e1, Option.bind_some, em]
  dsimp only
  unfold f_X8_countOnes
  rw [e2, Option.bind_some, ep]
  dsimp only
  by_cases h6 : 6 ≤ N - dp
  · have hp64 : 64 ≤ 2 ^ (N - dp) := Nat.le_trans (by decide : 64 ≤ 2 ^ 6) (Nat.pow_le_pow_right (by omega) h6)
    rw [if_pos (by rw [show (64 : Int32) = nI 64 from rfl]; exact nI_le hp64 (by omega))]
    have q := c45 (y2 := nI pv) (y3 := nI dp) (y4 := nI (2 ^ (N - dp))) (mn := nI N) (words := words) (work := w1) t2 5000 0 (fun x5_45_10 x6_45_11 => some (x5_45_10, nI (tw (N - dp)), w1)) (Nat.zero_le _) (by omega)
    have q' : lp_X8_countOnes_45 (nI pv) (nI dp) (nI (2 ^ (N - dp))) (nI N) (nI (tw (N - dp))) words w1 5000 0 0 (fun x5_45_10 x6_45_11 => some (x5_45_10, nI (tw (N - dp)), w1)) = _ := q
    rw [q', Option.bind_some]
    have et : 64 * tw (N - dp) = 2 ^ (N - dp) := by
      unfold tw
      by_cases h66 : N - dp ≤ 6
      · rw [if_pos h66, show N - dp = 6 by omega]
      · rw [if_neg h66, show 64 = 2 ^ 6 from rfl, ← Nat.pow_add, show 6 + (N - dp - 6) = N - dp by omega]
    have ef : cnt (wbit w1) (64 * tw (N - dp)) = cnt (fun i => lf (pv * 2 ^ (N - dp) + i)) (2 ^ (N - dp)) := by
      rw [et]
      exact cnt_congr (fun i hi => by rw [g2 i hi]; exact ht.1 _ (by omega))
    dsimp only
    rw [ef]
    exact ⟨_, _, _, _, _, rfl, rfl⟩
  · have hp32 : 2 ^ (N - dp) ≤ 2 ^ 5 := Nat.pow_le_pow_right (by omega) (by omega)
    rw [if_neg (ge_lit (k := 64) (c := 64) rfl (by omega) (by omega)), if_pos (c := ix 0 16 = true) (by decide), if_pos (c := ix 0 16 = true) (by decide)]
    generalize hW : vp_updL w1 (0 : Int32).toNatClampNeg ((w1 (0 : Int32).toNatClampNeg) &&& ((jlshl 1 (nI (2 ^ (N - dp)))) - (1 : Int64))) = w2
    have q := c45 (y2 := nI pv) (y3 := nI dp) (y4 := nI (2 ^ (N - dp))) (mn := nI N) (words := words) (work := w2) t2 5000 0 (fun x5_45_10 x6_45_11 => some (x5_45_10, nI (tw (N - dp)), w2)) (Nat.zero_le _) (by omega)
    have q' : lp_X8_countOnes_45 (nI pv) (nI dp) (nI (2 ^ (N - dp))) (nI N) (nI (tw (N - dp))) words w2 5000 0 0 (fun x5_45_10 x6_45_11 => some (x5_45_10, nI (tw (N - dp)), w2)) = _ := q
    rw [q', Option.bind_some]
    have et : tw (N - dp) = 1 := by unfold tw; rw [if_pos (by omega)]
    have hbit : ∀ i, i < 64 → wbit w2 i = (wbit w1 i && decide (i < 2 ^ (N - dp))) := by
      intro i hi
      unfold wbit
      rw [show i / 64 = 0 by omega, show i % 64 = i by omega, ← hW]
      show lbt (vp_updL w1 0 _ 0) i = _
      rw [updL_same]
      exact l_mask (by omega) _ hi
    have ef : cnt (wbit w2) (64 * tw (N - dp)) = cnt (fun i => lf (pv * 2 ^ (N - dp) + i)) (2 ^ (N - dp)) := by
      rw [et, show 64 * 1 = 2 ^ (N - dp) + (64 - 2 ^ (N - dp)) by omega, cnt_add, cnt_zero (f := fun i => wbit w2 (2 ^ (N - dp) + i)) (fun i hi => by rw [hbit _ (by omega), decide_eq_false (by omega), Bool.and_false]), Nat.add_zero]
      exact cnt_congr (fun i hi => by rw [hbit i (by omega), decide_eq_true hi, Bool.and_true, g2 i hi]; exact ht.1 _ (by omega))
    dsimp only
    rw [ef]
    exact ⟨_, _, _, _, _, rfl, rfl⟩
end MD
