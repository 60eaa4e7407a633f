theorem ws_nI {j c b : Nat} (hj : j < 2 ^ 30) (hc : c ≤ 100) (hb : b ≤ 100) : f_X11_within (nI j - nI c) (nI b) = some (decide (c ≤ j ∧ j < c + b)) := by
  by_cases h : c ≤ j
  · rw [pk_sub h, w_nI (by omega) (by omega)]
    congr 1
    by_cases h2 : j < c + b
    · rw [decide_eq_true (by omega), decide_eq_true ⟨h, h2⟩]
    · rw [decide_eq_false (by omega), decide_eq_false (fun q => h2 q.2)]
  · unfold f_X11_within
    rw [if_pos (pk_sneg (by omega) (by omega)), decide_eq_false (fun q => h q.1)]
theorem ws_big {a : Int32} {c b : Nat} (ha : ∀ j : Nat, j < 2 ^ 30 → a ≠ nI j) (hc : c ≤ 100) (hb : b ≤ 100) : f_X11_within (a - nI c) (nI b) = some false := by
  rcases w_any (a - nI c) (b := b) (by omega) with ⟨j, hj, e, -⟩ | ⟨-, e⟩
  · refine absurd ?_ (ha (j + c) (by omega))
    rw [← nI_add, ← e, Int32.sub_add_cancel]
  · exact e
section LK
variable {N B : Nat} {sz nb : Nat → Nat} {own : Nat → Bool} {xc xn : Int32} {xo xs xk xb : Nat → Int32} {mn mb : Int32} {mk mnb mm ma : Nat → Int32}
variable {pl dp pv : Nat} {hb hn hv : Int32} {hp : Nat → Int32} {qp qd qx : Int32} {qm : Nat → Int32} {ts : Int32}
def lookS (N B : Nat) (sz nb : Nat → Nat) (mk : Nat → Int32) (dp pv j : Nat) : Int32 :=
  if 10 ≤ j ∧ j < 10 + B then nI (sz (j - 10)) else if 20 ≤ j ∧ j < 20 + N then mk (j - 20) else if 40 ≤ j ∧ j < 40 + N then nI (nb (j - 40)) else if 60 ≤ j ∧ j < 60 + dp then nI (pv / 2 ^ (dp - 1 - (j - 60))) &&& 1 else -1
theorem look_x (h : IBlk N B sz nb own xc xn xo xs xk xb mn mb mk mnb mm ma) (hh : IHist B sz pl dp pv hb hn hv hp qp qd qx qm) {j : Nat} (hj : j < 2 ^ 30) : f_X11_lookInBlocks hn hv xc xn xb xk xs (nI j) = some (lookS N B sz nb mk dp pv j) := by
  have hdN := dp_le h hh
  obtain ⟨hB, hN, rfl, rfl, rfl, rfl, hbl, hk, hs⟩ := h
  obtain ⟨h1, hdp, h3, rfl, rfl, rfl, rfl, rfl, rfl, hpm⟩ := hh
  have hpd : 2 ^ dp ≤ 1024 := pow_le10 (by omega)
  unfold f_X11_lookInBlocks lookS
  rw [show (10 : Int32) = nI 10 from rfl, show (6 : Int32) = nI 6 from rfl, show (20 : Int32) = nI 20 from rfl, show (40 : Int32) = nI 40 from rfl, show (60 : Int32) = nI 60 from rfl, ws_nI hj (by omega) (by omega), Option.bind_some]
  by_cases c1 : 10 ≤ j ∧ j < 10 + 6
  · rw [decide_eq_true c1, if_neg (by decide), pk_sub c1.1, size_ok hB _ (by omega), Option.bind_some]
    by_cases c2 : j < 10 + B
    · rw [if_pos (by omega), if_pos ⟨c1.1, c2⟩, (hbl _ (by omega)).1]
    · rw [if_neg (by omega), if_neg (by omega), if_neg (by omega), if_neg (by omega), if_neg (by omega)]
  · rw [decide_eq_false c1, if_pos (by decide), if_neg (by omega), ws_nI hj (by omega) (by omega), Option.bind_some]
    by_cases c3 : 20 ≤ j ∧ j < 20 + 10
    · rw [decide_eq_true c3, if_neg (by decide), pk_sub c3.1, code_ok hN _ (by omega), Option.bind_some]
      by_cases c2 : j < 20 + N
      · rw [if_pos (by omega), if_pos ⟨c3.1, c2⟩, (hk _ (by omega)).1]
      · rw [if_neg (by omega), if_neg (by omega), if_neg (by omega), if_neg (by omega)]
    · rw [decide_eq_false c3, if_pos (by decide), if_neg (by omega), ws_nI hj (by omega) (by omega), Option.bind_some]
      by_cases c4 : 40 ≤ j ∧ j < 40 + 10
      · rw [decide_eq_true c4, if_neg (by decide), pk_sub c4.1, block_ok hN _ (by omega), Option.bind_some]
        by_cases c2 : j < 40 + N
        · rw [if_pos (by omega), if_pos ⟨c4.1, c2⟩, (hk _ (by omega)).2.1]
        · rw [if_neg (by omega), if_neg (by omega), if_neg (by omega)]
      · rw [decide_eq_false c4, if_pos (by decide), if_neg (by omega), ws_nI hj (by omega) (by omega), Option.bind_some]
        by_cases c5 : 60 ≤ j ∧ j < 60 + 10
        · rw [decide_eq_true c5, if_neg (by decide), pk_sub c5.1]
          unfold f_X4_valueOf
          rw [w_nI (by omega) (by omega), Option.bind_some]
          by_cases c2 : j < 60 + dp
          · rw [decide_eq_true (by omega), if_neg (by decide), if_pos ⟨c5.1, c2⟩, show (1 : Int32) = nI 1 from rfl, pk_sub (by omega), pk_sub (by omega), shr_nI (by omega) (by omega)]
            rfl
          · rw [decide_eq_false (by omega), if_pos (by decide), if_neg (by omega)]
            rfl
        · rw [decide_eq_false c5, if_pos (by decide), if_neg (by omega)]
theorem look_m (h : IBlk N B sz nb own xc xn xo xs xk xb mn mb mk mnb mm ma) (hh : IHist B sz pl dp pv hb hn hv hp qp qd qx qm) {j : Nat} (hj : j < 2 ^ 30) (h4 : 4 ≤ j) : f_X12_look ts mn mb qp qd qx mm mk mnb (nI j) = some (lookS N B sz nb mk dp pv j) := by
  have hdN := dp_le h hh
  obtain ⟨hB, hN, rfl, rfl, rfl, rfl, hbl, hk, hs⟩ := h
  obtain ⟨h1, hdp, h3, rfl, rfl, rfl, rfl, rfl, rfl, hpm⟩ := hh
  have hpd : 2 ^ dp ≤ 1024 := pow_le10 (by omega)
  have ne : ∀ k : Nat, k < 4 → ¬ nI j = nI k := fun k hk2 q => by rw [nI_eq (by omega) (by omega)] at q; omega
  unfold f_X12_look lookS jn
  dsimp only
  rw [if_neg (c := nI j = 0) (ne 0 (by omega)), if_neg (c := nI j = 1) (ne 1 (by omega)), if_neg (c := nI j = 2) (ne 2 (by omega)), if_neg (c := nI j = 3) (ne 3 (by omega))]
  rw [show (10 : Int32) = nI 10 from rfl, show (20 : Int32) = nI 20 from rfl, show (40 : Int32) = nI 40 from rfl, show (60 : Int32) = nI 60 from rfl, nI_add, nI_add, nI_add, nI_add]
  -- the last of them
  have e60 : (if nI j < nI 60 then some (-1) else if nI j < nI (60 + N) then (if nI dp ≤ nI j - nI 60 then some (-1) else some ((nI pv >>> (((nI dp - 1) - (nI j - nI 60)) &&& 31)) &&& 1)) else some (-1)) = some (if 60 ≤ j ∧ j < 60 + dp then nI (pv / 2 ^ (dp - 1 - (j - 60))) &&& 1 else -1) := by
    by_cases c1 : j < 60
    · rw [if_pos (nI_lt c1 (by omega)), if_neg (by omega)]
    · rw [if_neg (nI_nlt (by omega) (by omega))]
      by_cases c2 : j < 60 + N
      · rw [if_pos (nI_lt c2 (by omega)), pk_sub (by omega)]
        by_cases c3 : dp ≤ j - 60
        · rw [if_pos (nI_le c3 (by omega)), if_neg (by omega)]
        · rw [if_neg (nI_ge (by omega) (by omega)), if_pos (by omega), show (1 : Int32) = nI 1 from rfl, pk_sub (by omega), pk_sub (by omega), shr_nI (by omega) (by omega)]
      · rw [if_neg (nI_nlt (by omega) (by omega)), if_neg (by omega)]
  rw [e60]
  by_cases d1 : 10 ≤ j ∧ j < 10 + B
  · rw [if_neg (nI_nlt (by omega) (by omega)), if_neg (nI_ge d1.2 (by omega)), pk_sub d1.1, if_pos (ix_t (by omega) (by decide)), nI_clamp (by omega), (hbl _ (by omega)).2.1, if_pos d1]
  rw [if_neg d1]
  have go1 : ∀ (P Q : Option Int32), (if nI j < nI 10 then P else if nI (10 + B) ≤ nI j then P else Q) = P := by
    intro P Q
    by_cases c1 : j < 10
    · rw [if_pos (nI_lt c1 (by omega))]
    · rw [if_neg (nI_nlt (by omega) (by omega)), if_pos (nI_le (by omega) (by omega))]
  rw [go1]
  by_cases d2 : 20 ≤ j ∧ j < 20 + N
  · rw [if_neg (nI_nlt (by omega) (by omega)), if_neg (nI_ge d2.2 (by omega)), pk_sub d2.1, if_pos (ix_t (by omega) (by decide)), nI_clamp (by omega), if_pos d2]
  rw [if_neg d2]
  have go2 : ∀ (P Q : Option Int32), (if nI j < nI 20 then P else if nI (20 + N) ≤ nI j then P else Q) = P := by
    intro P Q
    by_cases c1 : j < 20
    · rw [if_pos (nI_lt c1 (by omega))]
    · rw [if_neg (nI_nlt (by omega) (by omega)), if_pos (nI_le (by omega) (by omega))]
  rw [go2]
  by_cases d3 : 40 ≤ j ∧ j < 40 + N
  · rw [if_neg (nI_nlt (by omega) (by omega)), if_neg (nI_ge d3.2 (by omega)), pk_sub d3.1, if_pos (ix_t (by omega) (by decide)), nI_clamp (by omega), (hk _ (by omega)).2.2.1, if_pos d3]
  rw [if_neg d3]
  by_cases c1 : j < 40
  · rw [if_pos (nI_lt c1 (by omega))]
  · rw [if_neg (nI_nlt (by omega) (by omega)), if_pos (nI_le (by omega) (by omega))]
theorem look_ok (h : IBlk N B sz nb own xc xn xo xs xk xb mn mb mk mnb mm ma) (hh : IHist B sz pl dp pv hb hn hv hp qp qd qx qm) (a : Int32) : ∃ r, f_X11_look xc xn hb hn hv ts xb xk xs a = some r ∧ f_X12_look ts mn mb qp qd qx mm mk mnb a = some r := by
  by_cases hjx : ∃ j : Nat, j < 2 ^ 30 ∧ a = nI j
  · obtain ⟨j, hj, rfl⟩ := hjx
    by_cases h4 : 4 ≤ j
    · refine ⟨_, ?_, look_m h hh hj h4⟩
      have ne : ∀ k : Nat, k < 4 → ¬ nI j = nI k := fun k hk2 q => by rw [nI_eq (by omega) (by omega)] at q; omega
      unfold f_X11_look
      rw [if_neg (c := nI j = 0) (ne 0 (by omega)), if_neg (c := nI j = 1) (ne 1 (by omega)), if_neg (c := nI j = 2) (ne 2 (by omega)), if_neg (c := nI j = 3) (ne 3 (by omega)), look_x h hh hj]
      rfl
    · obtain ⟨hB, hN, rfl, rfl, rfl, rfl, hbl, hk, hs⟩ := h
      obtain ⟨h1, rfl, h3, rfl, rfl, rfl, rfl, rfl, rfl, hpm⟩ := hh
      unfold f_X11_look f_X12_look
      match j, h4 with
      | 0, _ => exact ⟨_, by rw [if_pos (by decide)], by rw [if_pos (by decide)]⟩
      | 1, _ => exact ⟨_, by rw [if_neg (by decide), if_pos (by decide)], by rw [if_neg (by decide), if_pos (by decide)]⟩
      | 2, _ => exact ⟨_, by rw [if_neg (by decide), if_neg (by decide), if_pos (by decide)], by rw [if_neg (by decide), if_neg (by decide), if_pos (by decide)]⟩
      | 3, _ => exact ⟨_, by rw [if_neg (by decide), if_neg (by decide), if_neg (by decide), if_pos (by decide)], by rw [if_neg (by decide), if_neg (by decide), if_neg (by decide), if_pos (by decide)]⟩
      | j + 4, q => exact absurd (by omega) q
  · have ha : ∀ j : Nat, j < 2 ^ 30 → a ≠ nI j := fun j hj q => hjx ⟨j, hj, q⟩
    have hdN := dp_le h hh
    obtain ⟨hB, hN, rfl, rfl, rfl, rfl, hbl, hk, hs⟩ := h
    obtain ⟨h1, hdp, h3, rfl, rfl, rfl, rfl, rfl, rfl, hpm⟩ := hh
    refine ⟨-1, ?_, ?_⟩
    · unfold f_X11_look f_X11_lookInBlocks
      rw [if_neg (c := a = 0) (ha 0 (by omega)), if_neg (c := a = 1) (ha 1 (by omega)), if_neg (c := a = 2) (ha 2 (by omega)), if_neg (c := a = 3) (ha 3 (by omega))]
      rw [show (10 : Int32) = nI 10 from rfl, show (6 : Int32) = nI 6 from rfl, show (20 : Int32) = nI 20 from rfl, show (40 : Int32) = nI 40 from rfl, show (60 : Int32) = nI 60 from rfl, ws_big ha (by omega) (by omega), ws_big ha (by omega) (by omega), ws_big ha (by omega) (by omega), ws_big ha (by omega) (by omega)]
      rfl
    · have side : ∀ c k : Nat, c ≤ 60 → k ≤ 10 → ∀ (P Q : Option Int32), (if a < nI c then P else if nI (c + k) ≤ a then P else Q) = P := by
        intro c k hc hk2 P Q
        by_cases c1 : a < nI c
        · rw [if_pos c1]
        · rw [if_neg c1, if_pos]
          rcases pk_ix a (n := c + k) (by omega) with q | q | ⟨j, hj, q⟩
          · exact absurd (Int32.lt_of_lt_of_le q (nI_pos' (n := c) (by omega))) c1
          · exact q
          · exact absurd q (ha j (by omega))
      unfold f_X12_look jn
      dsimp only
      rw [if_neg (c := a = 0) (ha 0 (by omega)), if_neg (c := a = 1) (ha 1 (by omega)), if_neg (c := a = 2) (ha 2 (by omega)), if_neg (c := a = 3) (ha 3 (by omega))]
      rw [show (10 : Int32) = nI 10 from rfl, show (20 : Int32) = nI 20 from rfl, show (40 : Int32) = nI 40 from rfl, show (60 : Int32) = nI 60 from rfl, nI_add, nI_add, nI_add, nI_add, side 10 B (by omega) (by omega), side 20 N (by omega) (by omega), side 40 N (by omega) (by omega)]
      by_cases c1 : a < nI 60
      · rw [if_pos c1]
      · rw [if_neg c1, if_neg]
        intro q
        rcases pk_ix a (n := 60 + N) (by omega) with q2 | q2 | ⟨j, hj, q2⟩
        · exact c1 (Int32.lt_of_lt_of_le q2 (nI_pos' (n := 60) (by omega)))
        · exact absurd q (Int32.not_lt.mpr q2)
        · exact ha j (by omega) q2
end LK
