/-! fixed and turned -/
theorem and_nI (a : Nat) (y : Int32) : nI a &&& y = nI (a &&& y.toBitVec.toNat) := by
  apply Int32.toBitVec_inj.1
  show BitVec.ofNat 32 a &&& y.toBitVec = BitVec.ofNat 32 (a &&& y.toBitVec.toNat)
  apply BitVec.eq_of_getLsbD_eq
  intro i hi
  rw [BitVec.getLsbD_and, BitVec.getLsbD_ofNat, BitVec.getLsbD_ofNat, Nat.testBit_and, BitVec.testBit_toNat]
  simp [hi]
theorem set_bit (x b : Int32) : (x &&& (b ^^^ (-1 : Int32))) ||| b = x ||| b := by
  apply Int32.toBitVec_inj.1
  show (x.toBitVec &&& (b.toBitVec ^^^ BitVec.allOnes 32)) ||| b.toBitVec = x.toBitVec ||| b.toBitVec
  apply BitVec.eq_of_getLsbD_eq
  intro i hi
  rw [BitVec.getLsbD_or, BitVec.getLsbD_or, BitVec.getLsbD_and, BitVec.getLsbD_xor, BitVec.getLsbD_allOnes, decide_eq_true hi]
  cases x.toBitVec.getLsbD i <;> cases b.toBitVec.getLsbD i <;> rfl
theorem or_zero (x : Int32) : x ||| (0 : Int32) = x := by
  apply Int32.toBitVec_inj.1
  show x.toBitVec ||| 0#32 = x.toBitVec
  exact BitVec.or_zero
theorem zero_shl (k : Int32) : (0 : Int32) <<< (k &&& 31) = 0 := by
  apply Int32.toBitVec_inj.1
  rw [Int32.toBitVec_shiftLeft]
  show 0#32 <<< _ = 0#32
  exact BitVec.zero_shiftLeft _
section FX
variable {N B : Nat} {sz nb : Nat → Nat} {own : Nat → Bool} {xc xn : Int32} {xo xs xk xb : Nat → Int32} {mn mb : Int32} {mk mnb mm ma : Nat → Int32}
variable {pl dp pv : Nat} {hb hn hv : Int32} {hp : Nat → Int32} {qp qd qx : Int32} {qm : Nat → Int32}
variable {lf : Nat → Bool} {words : Nat → Int64} {leaf kept : Nat → Int32}
theorem fixed_ok (h : IBlk N B sz nb own xc xn xo xs xk xb mn mb mk mnb mm ma) (hh : IHist B sz pl dp pv hb hn hv hp qp qd qx qm) (ht : ITab N nb own lf words leaf kept) (s1 s2 s3 : Int32) (s4 : Nat → Int32) (s5 : Nat → Int64) (fold : Nat → Int32) (a v : Int32) :
    ∃ (r u1 u2 u3 : Int32) (u4 : Nat → Int32) (u5 : Nat → Int64) (w : Nat → Int32), f_X11_fixed xc xn s1 s2 s3 xb xo s4 hn hv words s5 a v = some (r, u1, u2, u3, u4, u5) ∧ f_X12_fixed mn qd qx leaf fold mnb ma kept a v = some (r, w) := by
  have hdN := dp_le h hh
  obtain ⟨c', e1, g0, g1⟩ := owners_ok h s1 s4
  obtain ⟨hB, hN, rfl, rfl, rfl, rfl, hbl, hk, hs⟩ := h
  obtain ⟨h1, hdp, h3, rfl, rfl, rfl, rfl, rfl, rfl, hpm⟩ := hh
  have hpd : 2 ^ dp ≤ 1024 := pow_le10 (by omega)
  unfold f_X11_fixed f_X12_fixed
  rcases w_any a (b := N) (by omega) with ⟨k, hk1, rfl, hw⟩ | ⟨hc, hw⟩
  · rw [hw, Option.bind_some, if_neg (c := b2i true = 0) (by decide), if_neg (nI_pos (by omega)), if_neg (nI_ge hk1 (by omega))]
    rcases w_any v (b := 2) (by omega) with ⟨j, hj, rfl, hw2⟩ | ⟨hc2, hw2⟩
    · have hw2' : f_X11_within (nI j) 2 = some true := hw2
      rw [hw2', Option.bind_some, if_neg (c := b2i true = 0) (by decide), if_neg (nI_pos (by omega)), if_pos (le_lit (k := 1) (c := 1) rfl (by omega) (by omega)), e1, Option.bind_some]
      dsimp only
      by_cases hkd : dp ≤ k
      · rw [if_pos (nI_le hkd (by omega)), if_pos (nI_le hkd (by omega))]
        have hmc : ∀ d, d < N → upd c' k ((2 : Int32) + nI j) d = nI (mch nb own (nI k) (nI j) (-1) d) ∧ mch nb own (nI k) (nI j) (-1) d ≤ 3 := by
          intro d hd
          refine ⟨?_, mch_le3 _ _ _ _ _ _⟩
          unfold mch
          by_cases hdk : d = k
          · subst hdk
            rw [upd_same, if_pos rfl]
            match j, hj with
            | 0, _ => rfl
            | 1, _ => rfl
            | j + 2, h => omega
          · rw [upd_ne hdk, if_neg (by rw [nI_eq (by omega) (by omega)]; exact hdk), g0 d hd, decide_eq_false (nI_nm1 (by have := (hk d hd).2.2.2.1; omega)), Bool.xor_false]
        obtain ⟨f', q1, q2⟩ := folds_ok (fx := nI k) (fv := nI j) (tu := -1) (fold := fold) (nbf := mnb) (baf := ma) hN hB ht.2.1 (fun k q => ⟨(hk k q).2.2.1, (hk k q).2.2.2.1⟩) (fun b q => (hbl b q).2.2.2.1)
        obtain ⟨u1, u2, u3, e2⟩ := some_wins (used := s2) (folded := s3) (work := s5) hN hdN h3 hmc ht.1
        unfold f_X8_fix
        rw [show (10 : Int32) = nI 10 from rfl, w_nI (by omega) (by omega), decide_eq_true (by omega), Option.bind_some, if_neg (c := b2i true = 0) (by decide), if_pos (ix_t (by omega) (by decide)), nI_clamp (by omega), Option.bind_some, e2, Option.bind_some, q1, Option.bind_some, hand_ok (by omega) h3, Option.bind_some, if_pos (ix_t (by omega) (by decide)), nI_clamp (by omega), q2 dp pv hdN h3]
        exact ⟨_, _, _, _, _, _, _, rfl, b2i_pick _ (fun x => some (x, f'))⟩
      · rw [if_neg (nI_ge (by omega) (by omega)), if_neg (nI_ge (by omega) (by omega))]
        have es : nI dp - (1 : Int32) - nI k = nI (dp - 1 - k) := by rw [show nI dp - (1 : Int32) = nI (dp - 1) from pk_sub (b := 1) (by omega), pk_sub (by omega)]
        have hps : 2 ^ (dp - 1 - k) < 2 ^ dp := Nat.pow_lt_pow_right (by omega) (by omega)
        have e1s : (1 : Int32) <<< (nI (dp - 1 - k) &&& 31) = nI (2 ^ (dp - 1 - k)) := by rw [show (1 : Int32) = nI 1 from rfl, shl_nI (by omega) (by omega), Nat.one_mul]
        have e1d : (1 : Int32) <<< (nI dp &&& 31) = nI (2 ^ dp) := by rw [show (1 : Int32) = nI 1 from rfl, shl_nI (by omega) (by omega), Nat.one_mul]
        have fin : ∀ (x : Nat), x < 2 ^ dp → ∃ (r u1 u2 u3 : Int32) (u4 : Nat → Int32) (u5 : Nat → Int64) (w : Nat → Int32), ((f_X11_someWinsWith (nI dp) (nI N) s2 s3 words s5 c' (nI x)).bind fun (r_20, v_solver_used_21, v_solver_folded_22, v_solver_work_23) => some (r_20, nI N, v_solver_used_21, v_solver_folded_22, c', v_solver_work_23)) = some (r, u1, u2, u3, u4, u5) ∧ (if ix (nI (2 ^ dp) ||| nI x) 8192 then (if kept (nI (2 ^ dp) ||| nI x).toNatClampNeg = 0 then some (0, fold) else some (1, fold)) else none) = some (r, w) := by
          intro x hx
          obtain ⟨u1, u2, u3, e2⟩ := some_wins (used := s2) (folded := s3) (work := s5) hN hdN hx g1 ht.1
          have e3 : nI (2 ^ dp) ||| nI x = nI (2 ^ dp + x) := by
            rw [or_nI]
            have := or_add (a := 1) hx
            rw [Nat.one_mul] at this
            rw [this]
          rw [e2, Option.bind_some, e3, if_pos (ix_t (by omega) (by decide)), nI_clamp (by omega), ht.2.2 dp x hdN hx]
          exact ⟨_, _, _, _, _, _, _, rfl, b2i_pick _ (fun y => some (y, fold))⟩
        unfold f_X4_valuesWith jn
        dsimp only
        rw [Option.bind_some, es, e1s, e1d]
        match j, hj with
        | 0, _ =>
          rw [show nI 0 = (0 : Int32) from rfl, zero_shl, or_zero, if_neg (c := (0 : Int32) = 1) (by decide), and_nI]
          exact fin _ (Nat.lt_of_le_of_lt Nat.and_le_left h3)
        | 1, _ =>
          rw [show nI 1 = (1 : Int32) from rfl, e1s, set_bit, if_pos (c := (1 : Int32) = 1) rfl, or_nI]
          exact fin _ (Nat.or_lt_two_pow h3 hps)
        | j + 2, h => omega
    · have hw2' : f_X11_within v 2 = some false := hw2
      rw [hw2', Option.bind_some, if_pos (c := b2i false = 0) (by decide)]
      refine ⟨_, _, _, _, _, _, fold, rfl, ?_⟩
      by_cases hv0 : v < 0
      · rw [if_pos hv0]
      · rw [if_neg hv0, if_neg (by
          intro q
          have q2 : nI 2 ≤ v := hc2.resolve_left hv0
          exact absurd (show nI 2 ≤ nI 1 from Int32.le_trans q2 q) (by decide))]
  · rw [hw, Option.bind_some, if_pos (c := b2i false = 0) (by decide)]
    refine ⟨_, _, _, _, _, _, fold, rfl, ?_⟩
    by_cases h0 : a < 0
    · rw [if_pos h0]
    · rw [if_neg h0, if_pos (hc.resolve_left h0)]
theorem turn2 {N b : Nat} {nb : Nat → Nat} {own : Nat → Bool} {xb : Nat → Int32} {B : Nat} (hN : N ≤ 10) (hB : B ≤ 6) (hb : b < B) (hx : ∀ k, k < N → xb k = nI (nb k) ∧ nb k < B) : ∀ (n d : Nat) (chs : Nat → Int32) (K : Int32 → (Nat → Int32) → Option (Nat → Int32)), d ≤ N → N - d < n → (∀ i, d ≤ i → i < N → chs i = nI (if own (nb i) then 1 else 0)) → (∀ i, i < d → chs i = nI (mch nb own (-1) 0 (nI b) i)) →
    ∃ chs' : Nat → Int32, lp_X8_turnBlock_2 (nI b) (nI N) (nI N) xb n (nI d) chs K = K (nI N) chs' ∧ ∀ i, i < N → chs' i = nI (mch nb own (-1) 0 (nI b) i) := by
  intro n
  induction n with
  | zero => intro d chs K h1 h2; omega
  | succ n ih =>
    intro d chs K h1 h2 h3 h4
    rw [lp_X8_turnBlock_2]
    by_cases hd : d = N
    · subst hd
      rw [if_pos (nI_le (Nat.le_refl _) (by omega))]
      exact ⟨chs, rfl, h4⟩
    · obtain ⟨e1, e2⟩ := hx d (by omega)
      have hc := h3 d (Nat.le_refl _) (by omega)
      rw [if_neg (nI_ge (by omega) (by omega)), if_neg (ge_lit (k := 10) (c := 10) rfl (by omega) (by omega)), block_ok hN d (by omega), Option.bind_some, if_pos (c := d < N) (by omega), e1, if_pos (c := ix (nI d) 10 = true) (ix_t (by omega) (by decide)), nI_clamp (by omega), if_pos (c := ix (nI d) 10 = true) (ix_t (by omega) (by decide)), if_pos (c := ix (nI d) 10 = true) (ix_t (by omega) (by decide)), hc, nI_1]
      by_cases hq : nb d = b
      · rw [if_pos (by rw [hq])]
        have go : ∀ x : Int32, x = nI (mch nb own (-1) 0 (nI b) d) → ∃ chs' : Nat → Int32, lp_X8_turnBlock_2 (nI b) (nI N) (nI N) xb n (nI (d + 1)) (upd chs d x) K = K (nI N) chs' ∧ ∀ i, i < N → chs' i = nI (mch nb own (-1) 0 (nI b) i) := by
          intro x hx2
          refine ih (d + 1) _ K (by omega) (by omega) (fun i q1 q2 => ?_) (fun i q => ?_)
          · rw [upd_ne (by omega)]; exact h3 i (by omega) q2
          · by_cases hi : i = d
            · subst hi; rw [upd_same, hx2]
            · rw [upd_ne hi]; exact h4 i (by omega)
        have hm : mch nb own (-1) 0 (nI b) d = if own (nb d) then 0 else 1 := by
          unfold mch
          rw [if_neg (nI_nm1 (by omega)), hq, decide_eq_true rfl]
          cases own b <;> rfl
        cases ho : own (nb d)
        · rw [if_pos (by rfl)]
          exact go 1 (by rw [hm, ho]; rfl)
        · rw [if_neg (by decide)]
          exact go 0 (by rw [hm, ho]; rfl)
      · rw [if_neg (by rw [nI_eq (by omega) (by omega)]; exact hq)]
        refine ih (d + 1) _ K (by omega) (by omega) (fun i q1 q2 => h3 i (by omega) q2) (fun i q => ?_)
        by_cases hi : i = d
        · subst hi
          rw [hc]
          unfold mch
          rw [if_neg (nI_nm1 (by omega)), decide_eq_false (by rw [nI_eq (by omega) (by omega)]; exact hq), Bool.xor_false]
        · exact h4 i (by omega)
theorem turned_ok (h : IBlk N B sz nb own xc xn xo xs xk xb mn mb mk mnb mm ma) (hh : IHist B sz pl dp pv hb hn hv hp qp qd qx qm) (ht : ITab N nb own lf words leaf kept) (s1 s2 s3 : Int32) (s4 : Nat → Int32) (s5 : Nat → Int64) (fold : Nat → Int32) (a : Int32) :
    ∃ (r u1 u2 u3 : Int32) (u4 : Nat → Int32) (u5 : Nat → Int64) (w : Nat → Int32), f_X11_turned xc xn hb hn hv s1 s2 s3 xb xo s4 words s5 a = some (r, u1, u2, u3, u4, u5) ∧ f_X12_turned mn mb qp qd qx leaf fold mnb ma a = some (r, w) := by
  have hdN := dp_le h hh
  obtain ⟨c', e1, g0, g1⟩ := owners_ok h s1 s4
  obtain ⟨hB, hN, rfl, rfl, rfl, rfl, hbl, hk, hs⟩ := h
  obtain ⟨h1, hdp, h3, rfl, rfl, rfl, rfl, rfl, rfl, hpm⟩ := hh
  have hpd : 2 ^ dp ≤ 1024 := pow_le10 (by omega)
  unfold f_X11_turned f_X12_turned
  rcases w_any a (b := B) (by omega) with ⟨b, hb1, rfl, hw⟩ | ⟨hc, hw⟩
  · rw [hw, Option.bind_some, if_neg (c := b2i true = 0) (by decide)]
    by_cases hpb : pl ≤ b
    · rw [if_pos (nI_le hpb (by omega)), if_neg (nI_nlt (by omega) (by omega)), if_pos (nI_lt hb1 (by omega)), e1, Option.bind_some]
      dsimp only
      obtain ⟨c2, e2, g2⟩ := turn2 (own := own) (xb := xb) hN hB hb1 (fun k q => ⟨(hk k q).2.1, (hk k q).2.2.2.1⟩) 5000 0 c' (fun x3_2_10 v_choosers_2_11 => some v_choosers_2_11) (Nat.zero_le _) (by omega) (fun i _ q => g0 i q) (fun i q => by omega)
      obtain ⟨f', q1, q2⟩ := folds_ok (fx := -1) (fv := 0) (tu := nI b) (fold := fold) (nbf := mnb) (baf := ma) hN hB ht.2.1 (fun k q => ⟨(hk k q).2.2.1, (hk k q).2.2.2.1⟩) (fun b q => (hbl b q).2.2.2.1)
      obtain ⟨u1, u2, u3, e3⟩ := some_wins (used := s2) (folded := s3) (work := s5) hN hdN h3 (fun d hd => ⟨g2 d hd, mch_le3 _ _ _ _ _ _⟩) ht.1
      have e2' : f_X8_turnBlock (nI N) (nI N) xb c' (nI b) = some c2 := e2
      rw [e2', Option.bind_some, e3, Option.bind_some, q1, Option.bind_some, hand_ok (by omega) h3, Option.bind_some, if_pos (ix_t (by omega) (by decide)), nI_clamp (by omega), q2 dp pv hdN h3]
      exact ⟨_, _, _, _, _, _, _, rfl, b2i_pick _ (fun x => some (x, f'))⟩
    · rw [if_neg (nI_ge (by omega) (by omega)), if_pos (nI_lt (by omega) (by omega))]
      exact ⟨_, _, _, _, _, _, _, rfl, rfl⟩
  · rw [hw, Option.bind_some, if_pos (c := b2i false = 0) (by decide)]
    refine ⟨_, _, _, _, _, _, fold, rfl, ?_⟩
    by_cases hp2 : a < nI pl
    · rw [if_pos hp2]
    · rw [if_neg hp2, if_neg (by
        intro q
        rcases hc with h0 | h0
        · exact hp2 (Int32.lt_of_lt_of_le h0 (nI_le (a := 0) (b := pl) (by omega) (by omega)))
        · exact absurd (Int32.lt_of_lt_of_le q h0) (Int32.lt_irrefl))]
end FX
