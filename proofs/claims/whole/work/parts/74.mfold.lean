/-! the game as a tree: heights above the leaves, and the reference's folding -/
def comb (c : Nat) (a b : Bool) : Bool := if c = 0 then a || b else if c = 1 then a && b else if c = 2 then a else b
/-- who wins at height h above the leaves, at the place p of that row -/
def gv (ch : Nat → Nat) (lf : Nat → Bool) (N : Nat) : Nat → Nat → Bool
  | 0, p => lf p
  | h + 1, p => comb (ch (N - (h + 1))) (gv ch lf N h (2 * p)) (gv ch lf N h (2 * p + 1))
theorem nar_z (b : Bool) : vp_nar .boolean (b2i b) = b2i b := by cases b <;> rfl
theorem pow2_succ (d : Nat) : 2 ^ (d + 1) = 2 * 2 ^ d := by rw [Nat.pow_succ, Nat.mul_comm]
theorem pow_le_N {d N : Nat} (h : d ≤ N) : 2 ^ d ≤ 2 ^ N := Nat.pow_le_pow_right (by omega) h
def mch (nb : Nat → Nat) (own : Nat → Bool) (fx fv tu : Int32) (d : Nat) : Nat := if nI d = fx then (if fv = 0 then 2 else 3) else if (own (nb d) ^^ decide (nI (nb d) = tu)) then 1 else 0
theorem m11 {fx fv tu mn : Int32} {leaf nbf baf : Nat → Int32} {N : Nat} (hN : N ≤ 10) {lf : Nat → Bool} (hlf : ∀ c, c < 2 ^ N → leaf c = b2i (lf c)) : ∀ (n c : Nat) (fold : Nat → Int32) (K : Int32 → (Nat → Int32) → Option (Nat → Int32)), c ≤ 2 ^ N → 2 ^ N - c < n →
    ∃ fold' : Nat → Int32, lp_X12_folds_11 fx fv tu (nI (2 ^ N)) mn leaf nbf baf n (nI c) fold K = K (nI (2 ^ N)) fold' ∧ (∀ i, c ≤ i → i < 2 ^ N → fold' (2 ^ N + i) = b2i (lf i)) ∧ ∀ i, i < 2 ^ N + c → fold' i = fold i := by
  have hp : 2 ^ N ≤ 1024 := pow_le10 hN
  intro n
  induction n with
  | zero => intro c fold K h1 h2; omega
  | succ n ih =>
    intro c fold K h1 h2
    rw [lp_X12_folds_11]
    by_cases hc : c = 2 ^ N
    · subst hc
      rw [if_pos (nI_le (Nat.le_refl _) (by omega))]
      exact ⟨fold, rfl, fun i q1 q2 => by omega, fun _ _ => rfl⟩
    · rw [if_neg (nI_ge (by omega) (by omega)), if_pos (ix_t (by omega) (by decide)), nI_add, if_pos (ix_t (by omega) (by decide)), nI_clamp (by omega), nI_clamp (by omega), nI_1, hlf c (by omega), nar_z]
      obtain ⟨fold', e, g1, g2⟩ := ih (c + 1) (upd fold (2 ^ N + c) (b2i (lf c))) K (by omega) (by omega)
      refine ⟨fold', e, fun i q1 q2 => ?_, fun i q => ?_⟩
      · by_cases hi : i = c
        · subst hi; rw [g2 _ (by omega), upd_same]
        · exact g1 i (by omega) q2
      · rw [g2 i (by omega), upd_ne (by omega)]
theorem m56 {y1 y2 y3 y4 mn : Int32} {l1 l2 l3 l4 : Nat → Int32} {k d : Nat} (hk : k < 4096) (h1 : 2 ^ d ≤ k) (h2 : k < 2 ^ (d + 1)) : ∀ (n j : Nat) (K : Int32 → Option (Nat → Int32)), j ≤ d → d - j < n →
    lp_X12_folds_56 y1 y2 y3 y4 (nI k) mn l1 l2 l3 l4 n (nI j) K = K (nI d) := by
  have hd : d < 12 := by
    rcases Nat.lt_or_ge d 12 with h | h
    · exact h
    · have : 2 ^ 12 ≤ 2 ^ d := pow_le_N h
      omega
  intro n
  induction n with
  | zero => intro j K h3 h4; omega
  | succ n ih =>
    intro j K h3 h4
    rw [lp_X12_folds_56, shr_nI (by omega) (by omega), show (1 : Int32) = nI 1 from rfl]
    by_cases hj : j = d
    · subst hj
      have : k / 2 ^ j < 2 := by rw [Nat.div_lt_iff_lt_mul (Nat.two_pow_pos _)]; rw [pow2_succ] at h2; omega
      rw [if_pos (nI_le (by omega) (by omega))]
    · have h5 : 2 ≤ k / 2 ^ j := by
        rw [Nat.le_div_iff_mul_le (Nat.two_pow_pos _), ← pow2_succ]
        exact Nat.le_trans (pow_le_N (by omega)) h1
      have h6 : k / 2 ^ j ≤ k := Nat.div_le_self _ _
      rw [if_neg (nI_ge (by omega) (by omega)), nI_add, ih (j + 1) K (by omega) (by omega)]
theorem m56z {y1 y2 y3 y4 mn : Int32} {l1 l2 l3 l4 : Nat → Int32} {k d : Nat} (hk : k < 4096) (h1 : 2 ^ d ≤ k) (h2 : k < 2 ^ (d + 1)) (hd : d < 4000) (K : Int32 → Option (Nat → Int32)) : lp_X12_folds_56 y1 y2 y3 y4 (nI k) mn l1 l2 l3 l4 5000 0 K = K (nI d) := m56 hk h1 h2 5000 0 K (Nat.zero_le _) (by omega)
theorem lt1 {k : Nat} (h : k ≠ 0) (hk : k < 2 ^ 31) : ¬ nI k < (1 : Int32) := nI_nlt (a := k) (b := 1) (by omega) hk
theorem m47 {fx fv tu mn : Int32} {leaf nbf baf : Nat → Int32} {N B : Nat} (hN : N ≤ 10) (hB : B ≤ 6) {lf : Nat → Bool} {nb : Nat → Nat} {own : Nat → Bool} (hnb : ∀ k, k < N → nbf k = nI (nb k) ∧ nb k < B) (hba : ∀ b, b < B → baf b = b2i (own b)) : ∀ (n k : Nat) (fold : Nat → Int32) (K : Int32 → (Nat → Int32) → Option (Nat → Int32)), k < 2 ^ N → k < n →
    (∀ d p, d ≤ N → p < 2 ^ d → k < 2 ^ d + p → fold (2 ^ d + p) = b2i (gv (mch nb own fx fv tu) lf N (N - d) p)) →
    ∃ fold' : Nat → Int32, lp_X12_folds_47 fx fv tu (nI (2 ^ N)) mn leaf nbf baf n (nI k) fold K = K 0 fold' ∧ ∀ d p, d ≤ N → p < 2 ^ d → fold' (2 ^ d + p) = b2i (gv (mch nb own fx fv tu) lf N (N - d) p) := by
  have hp : 2 ^ N ≤ 1024 := pow_le10 hN
  intro n
  induction n with
  | zero => intro k fold K h1 h2; omega
  | succ n ih =>
    intro k fold K h1 h2 hI
    rw [lp_X12_folds_47]
    by_cases hk : k = 0
    · subst hk
      rw [if_pos (by decide)]
      exact ⟨fold, rfl, fun d p q1 q2 => hI d p q1 q2 (by have := Nat.two_pow_pos d; omega)⟩
    · rw [if_neg (lt1 hk (by omega))]
      -- the row of k
      obtain ⟨d, hd1, hd2⟩ : ∃ d, 2 ^ d ≤ k ∧ k < 2 ^ (d + 1) := ⟨k.log2, Nat.log2_self_le hk, Nat.lt_log2_self⟩
      have hdN : d < N := by
        rcases Nat.lt_or_ge d N with h | h
        · exact h
        · have := pow_le_N h; omega
      obtain ⟨p, hkp⟩ : ∃ p, k = 2 ^ d + p := ⟨k - 2 ^ d, by omega⟩
      have hp2 : p < 2 ^ d := by rw [pow2_succ] at hd2; omega
      have e2 : 2 * k = 2 ^ (d + 1) + 2 * p := by rw [pow2_succ]; omega
      have v0 := hI (d + 1) (2 * p) (by omega) (by rw [pow2_succ]; omega) (by omega)
      have v1 := hI (d + 1) (2 * p + 1) (by omega) (by rw [pow2_succ]; omega) (by omega)
      rw [← e2] at v0
      rw [show 2 ^ (d + 1) + (2 * p + 1) = 2 * k + 1 by omega] at v1
      have hgv : gv (mch nb own fx fv tu) lf N (N - d) p = comb (mch nb own fx fv tu d) (gv (mch nb own fx fv tu) lf N (N - (d + 1)) (2 * p)) (gv (mch nb own fx fv tu) lf N (N - (d + 1)) (2 * p + 1)) := by
        rw [show N - d = (N - (d + 1)) + 1 by omega, gv, show N - (N - (d + 1) + 1) = d by omega]
      generalize gv (mch nb own fx fv tu) lf N (N - (d + 1)) (2 * p) = b0 at v0 hgv
      generalize gv (mch nb own fx fv tu) lf N (N - (d + 1)) (2 * p + 1) = b1 at v1 hgv
      have next : ∀ x : Bool, x = comb (mch nb own fx fv tu d) b0 b1 → ∃ fold' : Nat → Int32, lp_X12_folds_47 fx fv tu (nI (2 ^ N)) mn leaf nbf baf n (nI k + (-1)) (upd fold k (b2i x)) K = K 0 fold' ∧ ∀ d p, d ≤ N → p < 2 ^ d → fold' (2 ^ d + p) = b2i (gv (mch nb own fx fv tu) lf N (N - d) p) := by
        intro x hx
        rw [sb_m1 (by omega)]
        refine ih (k - 1) _ K (by omega) (by omega) (fun d' p' q1 q2 q3 => ?_)
        by_cases hq : 2 ^ d' + p' = k
        · have hdd : d' = d := by
            rcases Nat.lt_trichotomy d' d with h | h | h
            · have := pow_le_N (show d' + 1 ≤ d by omega); rw [pow2_succ] at this; omega
            · exact h
            · have := pow_le_N (show d + 1 ≤ d' by omega); omega
          subst hdd
          have hpp : p' = p := by omega
          subst hpp
          rw [hq, upd_same, hx, hgv]
        · rw [upd_ne hq]
          exact hI d' p' q1 q2 (by omega)
      obtain ⟨hn1, hn2⟩ := hnb d hdN
      have hb1 := hba (nb d) hn2
      rw [m56z (by omega) hd1 hd2 (by omega)]
      rw [if_pos (ix_t (by omega) (by decide)), nI_clamp (n := d) (by omega), hn1, if_pos (ix_t (by omega) (by decide)), if_pos (ix_t (by omega) (by decide)), nI_clamp (n := nb d) (by omega), hb1]
      have e20 : (2 : Int32) * nI k = nI (2 * k) := pk_mul 2 k
      have e21 : nI (2 * k) + (1 : Int32) = nI (2 * k + 1) := nI_1 _
      have i1 : ix (nI (2 * k)) 8192 = true := ix_t (by omega) (by decide)
      have i2 : ix (nI (2 * k + 1)) 8192 = true := ix_t (by omega) (by decide)
      have i3 : ix (nI k) 8192 = true := ix_t (by omega) (by decide)
      unfold jn
      dsimp only
      rw [e20, e21, i1, i2, i3, nI_clamp (n := 2 * k) (by omega), nI_clamp (n := 2 * k + 1) (by omega), nI_clamp (n := k) (by omega), v0, v1]
      have h10 : ¬ (1 : Int32) = 0 := by decide
      have h01 : ¬ (0 : Int32) = 1 := by decide
      have bt1 : b2i true = 1 := rfl
      have bf0 : b2i false = 0 := rfl
      have z0 : vp_nar .boolean 0 = b2i false := rfl
      have z1 : vp_nar .boolean 1 = b2i true := rfl
      cases hob : own (nb d) <;> cases b0 <;> cases b1 <;> rcases Classical.propComplete (nI d = fx) with cfx | cfx <;> rcases Classical.propComplete (fv = 0) with cfv | cfv <;> rcases Classical.propComplete (nI (nb d) = tu) with ctu | ctu <;> simp only [cfx, cfv, ctu, nar_z, if_true, if_false, bt1, bf0, h10, h01, z0, z1, reduceIte] <;> first | exact next false (by simp [mch, comb, hob, cfx, cfv, ctu]) | exact next true (by simp [mch, comb, hob, cfx, cfv, ctu])
theorem folds_ok {fx fv tu : Int32} {leaf fold nbf baf : Nat → Int32} {N B : Nat} (hN : N ≤ 10) (hB : B ≤ 6) {lf : Nat → Bool} {nb : Nat → Nat} {own : Nat → Bool} (hlf : ∀ c, c < 2 ^ N → leaf c = b2i (lf c)) (hnb : ∀ k, k < N → nbf k = nI (nb k) ∧ nb k < B) (hba : ∀ b, b < B → baf b = b2i (own b)) :
    ∃ fold' : Nat → Int32, f_X12_folds (nI N) leaf fold nbf baf fx fv tu = some fold' ∧ ∀ d p, d ≤ N → p < 2 ^ d → fold' (2 ^ d + p) = b2i (gv (mch nb own fx fv tu) lf N (N - d) p) := by
  have hp : 2 ^ N ≤ 1024 := pow_le10 hN
  have hp1 := Nat.two_pow_pos N
  unfold f_X12_folds
  have e1 : (1 : Int32) <<< (nI N &&& 31) = nI (2 ^ N) := by rw [show (1 : Int32) = nI 1 from rfl, shl_nI (by omega) (by omega), Nat.one_mul]
  rw [e1]
  obtain ⟨f1, q1, g1, g2⟩ := m11 (fx := fx) (fv := fv) (tu := tu) (mn := nI N) (nbf := nbf) (baf := baf) hN hlf 5000 0 fold (fun x5_11_4 v_fold_11_5 => lp_X12_folds_47 fx fv tu (nI (2 ^ N)) (nI N) leaf nbf baf 5000 (nI (2 ^ N) - (1 : Int32)) v_fold_11_5 (fun x5_47_34 v_fold_47_35 => some v_fold_47_35)) (Nat.zero_le _) (by omega)
  have q1' : lp_X12_folds_11 fx fv tu (nI (2 ^ N)) (nI N) leaf nbf baf 5000 0 fold (fun x5_11_4 v_fold_11_5 => lp_X12_folds_47 fx fv tu (nI (2 ^ N)) (nI N) leaf nbf baf 5000 (nI (2 ^ N) - (1 : Int32)) v_fold_11_5 (fun x5_47_34 v_fold_47_35 => some v_fold_47_35)) = _ := q1
  rw [q1']
  have e2 : nI (2 ^ N) - (1 : Int32) = nI (2 ^ N - 1) := pk_sub (b := 1) (by omega)
  rw [e2]
  obtain ⟨f2, q2, g3⟩ := m47 (fx := fx) (fv := fv) (tu := tu) (mn := nI N) (leaf := leaf) hN hB (lf := lf) hnb hba 5000 (2 ^ N - 1) f1 (fun x5_47_34 v_fold_47_35 => some v_fold_47_35) (by omega) (by omega) (fun d p h1 h2 h3 => by
    have hd : d = N := by
      rcases Nat.lt_or_ge d N with h | h
      · have := pow_le_N (show d + 1 ≤ N by omega); rw [pow2_succ] at this; omega
      · omega
    subst hd
    rw [g1 p (Nat.zero_le _) h2, Nat.sub_self]
    rfl)
  exact ⟨f2, q2, g3⟩
theorem keeps_ok {N : Nat} (hN : N ≤ 10) {fold : Nat → Int32} {V : Nat → Bool} (hV : ∀ i, 1 ≤ i → i < 2 ^ (N + 1) → fold i = b2i (V i)) : ∀ (n k : Nat) (kept : Nat → Int32) (K : Int32 → (Nat → Int32) → Option (Nat → Int32)), 1 ≤ k → k ≤ 2 ^ (N + 1) → 2 ^ (N + 1) - k < n →
    ∃ kept' : Nat → Int32, lp_X12_keeps_2 (nI N) fold n (nI k) kept K = K (nI (2 ^ (N + 1))) kept' ∧ (∀ i, k ≤ i → i < 2 ^ (N + 1) → kept' i = b2i (V i)) ∧ ∀ i, i < k → kept' i = kept i := by
  have hp : 2 ^ N ≤ 1024 := pow_le10 hN
  have hp2 : 2 ^ (N + 1) ≤ 2048 := by rw [pow2_succ]; omega
  have e1 : (2 : Int32) <<< (nI N &&& 31) = nI (2 ^ (N + 1)) := by rw [show (2 : Int32) = nI 2 from rfl, shl_nI (by omega) (by omega), pow2_succ]
  intro n
  induction n with
  | zero => intro k kept K h1 h2 h3; omega
  | succ n ih =>
    intro k kept K h1 h2 h3
    rw [lp_X12_keeps_2, e1]
    by_cases hk : k = 2 ^ (N + 1)
    · subst hk
      rw [if_pos (nI_le (Nat.le_refl _) (by omega))]
      exact ⟨kept, rfl, fun i q1 q2 => by omega, fun _ _ => rfl⟩
    · rw [if_neg (nI_ge (by omega) (by omega)), if_pos (ix_t (by omega) (by decide)), if_pos (ix_t (by omega) (by decide)), nI_clamp (by omega), nI_1, hV k h1 (by omega), nar_z]
      obtain ⟨k', e, g1, g2⟩ := ih (k + 1) (upd kept k (b2i (V k))) K (by omega) (by omega) (by omega)
      refine ⟨k', e, fun i q1 q2 => ?_, fun i q => ?_⟩
      · by_cases hi : i = k
        · subst hi; rw [g2 _ (by omega), upd_same]
        · exact g1 i (by omega) q2
      · rw [g2 i (by omega), upd_ne (by omega)]
