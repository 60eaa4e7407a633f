/-! the solver's operations: truth, move, wins, moves, fixed, turned -/
def ITab (N : Nat) (nb : Nat → Nat) (own : Nat → Bool) (lf : Nat → Bool) (words : Nat → Int64) (leaf kept : Nat → Int32) : Prop :=
  (∀ c, c < 2 ^ N → wbit words c = lf c) ∧ (∀ c, c < 2 ^ N → leaf c = b2i (lf c)) ∧ ∀ d p, d ≤ N → p < 2 ^ d → kept (2 ^ d + p) = b2i (gv (mch nb own (-1) 0 (-1)) lf N (N - d) p)
theorem nI_nm1 {n : Nat} (h : n < 2 ^ 31) : ¬ nI n = (-1 : Int32) := by
  intro q
  have := nI_pos h
  rw [q] at this
  exact this (by decide)
theorem mch_own {nb : Nat → Nat} {own : Nat → Bool} {d : Nat} (hd : d < 2 ^ 31) (hn : nb d < 2 ^ 31) : mch nb own (-1) 0 (-1) d = if own (nb d) then 1 else 0 := by
  unfold mch
  rw [if_neg (nI_nm1 hd), decide_eq_false (nI_nm1 hn), Bool.xor_false]
theorem mch_le3 (nb : Nat → Nat) (own : Nat → Bool) (a b c : Int32) (d : Nat) : mch nb own a b c d ≤ 3 := by
  unfold mch
  split
  · split <;> omega
  · split <;> omega
theorem b2i_if (b : Bool) : b2i b = nI (if b then 1 else 0) := by cases b <;> rfl
theorem own10 {N B : Nat} {nb : Nat → Nat} {own : Nat → Bool} {xb xo : Nat → Int32} (hN : N ≤ 10) (hB : B ≤ 6) (hx : ∀ k, k < N → xb k = nI (nb k) ∧ nb k < B) (ho : ∀ b, b < B → xo b = b2i (own b)) : ∀ (n d : Nat) (chs : Nat → Int32) (K : Int32 → (Nat → Int32) → Option (Int32 × (Nat → Int32))), d ≤ N → N - d < n →
    ∃ chs' : Nat → Int32, lp_X8_letOwnersChoose_10 (nI N) (nI B) (nI N) xb xo n (nI d) chs K = K (nI N) chs' ∧ (∀ i, d ≤ i → i < N → chs' i = b2i (own (nb i))) ∧ ∀ i, i < d → chs' i = chs i := by
  intro n
  induction n with
  | zero => intro d chs K h1 h2; omega
  | succ n ih =>
    intro d chs K h1 h2
    rw [lp_X8_letOwnersChoose_10]
    by_cases hd : d = N
    · subst hd
      rw [if_pos (nI_le (Nat.le_refl _) (by omega))]
      exact ⟨chs, rfl, fun i q1 q2 => by omega, fun _ _ => rfl⟩
    · obtain ⟨e1, e2⟩ := hx d (by omega)
      rw [if_neg (nI_ge (by omega) (by omega)), if_neg (ge_lit (k := 10) (c := 10) rfl (by omega) (by omega)), block_ok hN d (by omega), Option.bind_some, if_pos (by omega), e1, owner_ok hB _ (by omega), Option.bind_some, if_pos e2, ho _ e2, if_pos (ix_t (by omega) (by decide)), nI_clamp (by omega), nI_1]
      obtain ⟨c', e, g1, g2⟩ := ih (d + 1) (upd chs d (b2i (own (nb d)))) K (by omega) (by omega)
      refine ⟨c', e, fun i q1 q2 => ?_, fun i q => ?_⟩
      · by_cases hi : i = d
        · subst hi; rw [g2 _ (by omega), upd_same]
        · exact g1 i (by omega) q2
      · rw [g2 i (by omega), upd_ne (by omega)]
section SV
variable {N B : Nat} {sz nb : Nat → Nat} {own : Nat → Bool} {xc xn : Int32} {xo xs xk xb : Nat → Int32} {mn mb : Int32} {mk mnb mm ma : Nat → Int32}
variable {pl dp pv : Nat} {hb hn hv : Int32} {hp : Nat → Int32} {qp qd qx : Int32} {qm : Nat → Int32}
variable {lf : Nat → Bool} {words : Nat → Int64} {leaf kept : Nat → Int32}
theorem owners_ok (h : IBlk N B sz nb own xc xn xo xs xk xb mn mb mk mnb mm ma) (sn : Int32) (chs : Nat → Int32) :
    ∃ chs' : Nat → Int32, f_X8_letOwnersChoose sn xc xn xb xo chs = some (xn, chs') ∧ (∀ d, d < N → chs' d = nI (if own (nb d) then 1 else 0)) ∧ ∀ d, d < N → chs' d = nI (mch nb own (-1) 0 (-1) d) ∧ mch nb own (-1) 0 (-1) d ≤ 3 := by
  obtain ⟨hB, hN, rfl, rfl, rfl, rfl, hbl, hk, hs⟩ := h
  obtain ⟨c', e, g1, -⟩ := own10 (own := own) (xb := xb) (xo := xo) hN hB (fun k q => ⟨(hk k q).2.1, (hk k q).2.2.2.1⟩) (fun b q => (hbl b q).2.2.1) 5000 0 chs (fun x2_10_8 v_choosers_10_9 => some (nI N, v_choosers_10_9)) (Nat.zero_le _) (by omega)
  refine ⟨c', e, fun d hd => by rw [g1 d (Nat.zero_le _) hd, b2i_if], fun d hd => ⟨?_, mch_le3 _ _ _ _ _ _⟩⟩
  rw [g1 d (Nat.zero_le _) hd, mch_own (by omega) (by have := (hk d hd).2.2.2.1; omega), b2i_if]
theorem wins_with {N f v : Nat} {used folded : Int32} {work : Nat → Int64} {chs : Nat → Int32} {ch : Nat → Nat} (hN : N ≤ 10) (hf : f ≤ N) (hv : v < 2 ^ f) (hch : ∀ d, d < N → chs d = nI (ch d) ∧ ch d ≤ 3) (hw : ∀ c, c < 2 ^ N → wbit words c = lf c) :
    ∃ (u1 u2 : Int32) (u3 : Nat → Int64), f_X8_fold (nI N) used folded words work chs (nI v) (nI f) (nI f) = some (u1, u2, u3) ∧ f_X8_outcome u2 u3 0 = some (b2i (gv ch lf N (N - f) v)) := by
  obtain ⟨w', e, g⟩ := fold_ok (F := N - f) (used := used) (folded := folded) (work := work) hN hf hv (Nat.le_refl _) hch hw
  rw [show N - (N - f) = f by omega] at e
  refine ⟨_, _, _, e, ?_⟩
  have h1 := g 0 (by rw [Nat.sub_self]; decide)
  rw [Nat.sub_self, Nat.pow_zero, Nat.mul_one, Nat.add_zero, Nat.zero_mul] at h1
  have h2 := outcome_ok (F := N - f) (q := 0) (work := w') (by omega) (by omega)
  rw [Nat.zero_mul, h1] at h2
  exact h2
theorem some_wins {N f v : Nat} {used folded : Int32} {work : Nat → Int64} {chs : Nat → Int32} {ch : Nat → Nat} (hN : N ≤ 10) (hf : f ≤ N) (hv : v < 2 ^ f) (hch : ∀ d, d < N → chs d = nI (ch d) ∧ ch d ≤ 3) (hw : ∀ c, c < 2 ^ N → wbit words c = lf c) :
    ∃ (u1 u2 : Int32) (u3 : Nat → Int64), f_X11_someWinsWith (nI f) (nI N) used folded words work chs (nI v) = some (b2i (gv ch lf N (N - f) v), u1, u2, u3) := by
  obtain ⟨u1, u2, u3, e1, e2⟩ := wins_with (used := used) (folded := folded) (work := work) hN hf hv hch hw
  refine ⟨u1, u2, u3, ?_⟩
  unfold f_X11_someWinsWith
  rw [e1, Option.bind_some]
  dsimp only
  rw [e2, Option.bind_some]
theorem hand_ok {dp pv : Nat} (hd : dp ≤ 10) (hv : pv < 2 ^ dp) : f_X12_hand (nI dp) (nI pv) = some (nI (2 ^ dp + pv)) := by
  have hp : 2 ^ dp ≤ 1024 := pow_le10 hd
  unfold f_X12_hand
  rw [show (1 : Int32) = nI 1 from rfl, shl_nI (by omega) (by omega), or_nI, or_add hv, Nat.one_mul]
theorem b2i_pick {α : Type} (b : Bool) (P : Int32 → Option α) : (if b2i b = 0 then P 0 else P 1) = P (b2i b) := by cases b <;> rfl
theorem truth_ok (h : IBlk N B sz nb own xc xn xo xs xk xb mn mb mk mnb mm ma) (hh : IHist B sz pl dp pv hb hn hv hp qp qd qx qm) (ht : ITab N nb own lf words leaf kept) (s1 s2 s3 : Int32) (s4 : Nat → Int32) (s5 : Nat → Int64) :
    ∃ (r u1 u2 u3 : Int32) (u4 : Nat → Int32) (u5 : Nat → Int64), f_X11_truth s1 s2 s3 xc xn xb xo s4 hn hv words s5 = some (r, u1, u2, u3, u4, u5) ∧ f_X12_truth qd qx kept = some r := by
  have hdN := dp_le h hh
  obtain ⟨c', e1, -, g1⟩ := owners_ok h s1 s4
  obtain ⟨hB, hN, rfl, rfl, rfl, rfl, hbl, hk, hs⟩ := h
  obtain ⟨h1, hdp, h3, rfl, rfl, rfl, rfl, rfl, rfl, hpm⟩ := hh
  have hpd : 2 ^ dp ≤ 1024 := pow_le10 (by omega)
  obtain ⟨u1, u2, u3, e2⟩ := some_wins (used := s2) (folded := s3) (work := s5) hN hdN h3 g1 ht.1
  unfold f_X11_truth
  rw [e1, Option.bind_some]
  dsimp only
  rw [e2, Option.bind_some]
  refine ⟨_, _, _, _, _, _, rfl, ?_⟩
  · unfold f_X12_truth
    rw [hand_ok (by omega) h3, Option.bind_some, if_pos (ix_t (by omega) (by decide)), nI_clamp (by omega), ht.2.2 dp pv hdN h3]
    exact b2i_pick _ some
/-- who wins behind the move m -/
def afterV (N : Nat) (nb : Nat → Nat) (own lf : Nat → Bool) (dp s pv m : Nat) : Bool := gv (mch nb own (-1) 0 (-1)) lf N (N - (dp + s)) (pv * 2 ^ s + m)
theorem place_lt {pv m dp s : Nat} (h : pv < 2 ^ dp) (hm : m < 2 ^ s) : pv * 2 ^ s + m < 2 ^ (dp + s) := by
  rw [Nat.pow_add]
  calc pv * 2 ^ s + m < pv * 2 ^ s + 2 ^ s := by omega
    _ = (pv + 1) * 2 ^ s := by rw [Nat.add_mul, Nat.one_mul]
    _ ≤ 2 ^ dp * 2 ^ s := Nat.mul_le_mul_right _ h
theorem iswon_ok (h : IBlk N B sz nb own xc xn xo xs xk xb mn mb mk mnb mm ma) (hh : IHist B sz pl dp pv hb hn hv hp qp qd qx qm) (ht : ITab N nb own lf words leaf kept) {m : Nat} (hpl : pl < B) (hm : m < 2 ^ sz pl) :
    f_X12_isWon qp qd qx mm kept ma (nI m) = some (afterV N nb own lf dp (sz pl) pv m ^^ own pl) := by
  have hsz := sz_le h hpl
  have hdN := dp_le h hh
  obtain ⟨hB, hN, rfl, rfl, rfl, rfl, hbl, hk, hs⟩ := h
  obtain ⟨h1, hdp, h3, rfl, rfl, rfl, rfl, rfl, rfl, hpm⟩ := hh
  obtain ⟨-, e2, -, e4, -⟩ := hbl pl hpl
  have hpl2 := place_lt h3 hm
  have hpd : 2 ^ (dp + sz pl) ≤ 1024 := pow_le10 (by omega)
  have hps : 2 ^ sz pl ≤ 1024 := pow_le10 (by omega)
  have hpd2 : 2 ^ dp ≤ 1024 := pow_le10 (by omega)
  have hmul : (2 ^ dp + pv) * 2 ^ sz pl + m = 2 ^ (dp + sz pl) + (pv * 2 ^ sz pl + m) := by rw [Nat.add_mul, ← Nat.pow_add, Nat.add_assoc]
  unfold f_X12_isWon
  rw [hand_ok (by omega) h3, Option.bind_some, nI_clamp (by omega), e2, e4, shl_nI (by omega) (by omega), or_nI, or_add hm, hmul, if_pos (ix_t (by omega) (by decide)), if_pos (ix_t (by omega) (by decide)), if_pos (ix_t (by omega) (by decide)), nI_clamp (by omega), ht.2.2 (dp + sz pl) _ (by omega) hpl2]
  unfold afterV
  cases gv (mch nb own (-1) 0 (-1)) lf N (N - (dp + sz pl)) (pv * 2 ^ sz pl + m) <;> cases own pl <;> rfl
theorem wished_ok (h : IBlk N B sz nb own xc xn xo xs xk xb mn mb mk mnb mm ma) (hh : IHist B sz pl dp pv hb hn hv hp qp qd qx qm) (hpl : pl < B) : f_X11_wishedValue hb xc xo = some (b2i (!own pl)) := by
  obtain ⟨hB, hN, rfl, rfl, rfl, rfl, hbl, hk, hs⟩ := h
  obtain ⟨h1, hdp, h3, rfl, rfl, rfl, rfl, rfl, rfl, hpm⟩ := hh
  unfold f_X11_wishedValue
  rw [owner_ok hB pl (by omega), Option.bind_some, if_pos hpl, (hbl pl hpl).2.2.1]
  cases own pl <;> rfl
theorem count_ok (h : IBlk N B sz nb own xc xn xo xs xk xb mn mb mk mnb mm ma) (hh : IHist B sz pl dp pv hb hn hv hp qp qd qx qm) (hpl : pl < B) : f_X11_countOfMoves hb xc xs = some (nI (2 ^ sz pl)) := by
  have hsz := sz_le h hpl
  obtain ⟨hB, hN, rfl, rfl, rfl, rfl, hbl, hk, hs⟩ := h
  obtain ⟨h1, hdp, h3, rfl, rfl, rfl, rfl, rfl, rfl, hpm⟩ := hh
  have hpw : 2 ^ sz pl ≤ 1024 := pow_le10 (by omega)
  unfold f_X11_countOfMoves f_X11_allPlayed
  rw [if_pos (nI_lt hpl (by omega)), Option.bind_some, if_pos (by decide), size_ok hB pl (by omega), Option.bind_some, if_pos hpl, (hbl pl hpl).1, show (1 : Int32) = nI 1 from rfl, shl_nI (by omega) (by omega), Nat.one_mul]
theorem to_moves (h : IBlk N B sz nb own xc xn xo xs xk xb mn mb mk mnb mm ma) (hh : IHist B sz pl dp pv hb hn hv hp qp qd qx qm) (ht : ITab N nb own lf words leaf kept) (hpl : pl < B) (s1 s2 s3 : Int32) (s4 : Nat → Int32) (s5 : Nat → Int64) :
    ∃ (u1 u2 u3 : Int32) (u4 : Nat → Int32) (u5 : Nat → Int64), f_X11_foldToMoves hb hn hv xc xn xs s1 s2 s3 xb xo s4 words s5 = some (u1, u2, u3, u4, u5) ∧ ∀ m, m < 2 ^ sz pl → f_X8_outcome u3 u5 (nI m) = some (b2i (afterV N nb own lf dp (sz pl) pv m)) := by
  have hsz := sz_le h hpl
  have hdN := dp_le h hh
  obtain ⟨c', e1, -, g1⟩ := owners_ok h s1 s4
  obtain ⟨hB, hN, rfl, rfl, rfl, rfl, hbl, hk, hs⟩ := h
  obtain ⟨h1, hdp, h3, rfl, rfl, rfl, rfl, rfl, rfl, hpm⟩ := hh
  obtain ⟨e2, -⟩ := hbl pl hpl
  obtain ⟨w', e3, g3⟩ := fold_ok (F := N - (dp + sz pl)) (used := s2) (folded := s3) (work := s5) hN hdN h3 (by omega) g1 ht.1
  rw [show N - (N - (dp + sz pl)) = dp + sz pl by omega] at e3
  unfold f_X11_foldToMoves
  rw [size_ok hB pl (by omega), Option.bind_some, if_pos hpl, e2, e1, Option.bind_some]
  dsimp only
  rw [nI_add, e3, Option.bind_some]
  refine ⟨_, _, _, _, _, rfl, ?_⟩
  · intro m hm
    have hNp : 2 ^ N = 2 ^ (dp + sz pl) * 2 ^ (N - (dp + sz pl)) := by rw [← Nat.pow_add]; congr 1; omega
    have hpN : 2 ^ N ≤ 1024 := pow_le10 hN
    have hlt : m * 2 ^ (N - (dp + sz pl)) < 2 ^ N := by
      rw [hNp]
      refine (Nat.mul_lt_mul_right (Nat.two_pow_pos _)).2 ?_
      have := place_lt h3 hm
      omega
    rw [outcome_ok (by omega) (by omega), g3 m (by rw [show N - dp - (N - (dp + sz pl)) = sz pl by omega]; exact hm), show N - dp - (N - (dp + sz pl)) = sz pl by omega]
    rfl
theorem moves_x {y1 : Int32} {V : Nat → Bool} {o : Bool} {C : Nat} {fo : Int32} {wk : Nat → Int64} (hC : C ≤ 1024) (hout : ∀ m, m < C → f_X8_outcome fo wk (nI m) = some (b2i (V m))) {a1 a2 a3 a4 a5 a6 a7 : Int32} {l1 l2 l3 l4 : Nat → Int32} {l5 : Nat → Int64} {mbl qp qd qx : Int32} {mm kept ma : Nat → Int32}
    (hm1 : ∀ m, m < C → f_X12_isMove mbl qp mm (nI m) = some true) (hm2 : f_X12_isMove mbl qp mm (nI C) = some false) (hw : ∀ m, m < C → f_X12_isWon qp qd qx mm kept ma (nI m) = some (V m ^^ o)) : ∀ (n m c : Nat) (K : Int32 → Int32 → Option (Int32 × Int32 × Int32 × Int32 × (Nat → Int32) × (Nat → Int64))) (K2 : Int32 → Int32 → Option Int32), m ≤ C → C - m < n → c ≤ m →
    ∃ c' : Nat, lp_X11_moves_28 (nI C) (b2i (!o)) a1 a2 a3 a4 a5 l1 l2 a6 a7 fo l3 l4 l5 wk n (nI c) (nI m) K = K (nI c') (nI C) ∧ lp_X12_moves_17 mbl qp qd qx mm kept ma n (nI c) (nI m) K2 = K2 (nI c') (nI C) := by
  intro n
  induction n with
  | zero => intro m c K K2 h1 h2; omega
  | succ n ih =>
    intro m c K K2 h1 h2 h3
    rw [lp_X11_moves_28, lp_X12_moves_17]
    by_cases hm : m = C
    · subst hm
      rw [if_pos (nI_le (Nat.le_refl _) (by omega)), hm2, Option.bind_some, if_pos (by decide)]
      exact ⟨c, rfl, rfl⟩
    · rw [if_neg (nI_ge (by omega) (by omega)), hout m (by omega), Option.bind_some, hm1 m (by omega), Option.bind_some, if_neg (c := b2i true = 0) (by decide), hw m (by omega), Option.bind_some]
      have e0 : nI c + (0 : Int32) = nI c := nI_add c 0
      rw [nI_1, nI_1, e0]
      cases V m <;> cases o
      · rw [if_neg (by decide), if_pos (by decide)]; exact ih (m + 1) c K K2 (by omega) (by omega) (by omega)
      · rw [if_pos (by decide), if_neg (by decide)]; exact ih (m + 1) (c + 1) K K2 (by omega) (by omega) (by omega)
      · rw [if_pos (by decide), if_neg (by decide)]; exact ih (m + 1) (c + 1) K K2 (by omega) (by omega) (by omega)
      · rw [if_neg (by decide), if_pos (by decide)]; exact ih (m + 1) c K K2 (by omega) (by omega) (by omega)
theorem move_x {V : Nat → Bool} {o : Bool} {C : Nat} {fo : Int32} {wk : Nat → Int64} (hC : C ≤ 1024) (hout : ∀ m, m < C → f_X8_outcome fo wk (nI m) = some (b2i (V m))) {a1 a2 a3 a4 a5 a6 a7 : Int32} {l1 l2 l3 l4 : Nat → Int32} {l5 : Nat → Int64} {mbl qp qd qx : Int32} {mm kept ma : Nat → Int32}
    (hm1 : ∀ m, m < C → f_X12_isMove mbl qp mm (nI m) = some true) (hm2 : f_X12_isMove mbl qp mm (nI C) = some false) (hw : ∀ m, m < C → f_X12_isWon qp qd qx mm kept ma (nI m) = some (V m ^^ o)) : ∀ (n m : Nat), m ≤ C → C - m < n →
    ∃ r : Int32, lp_X11_move_25 (nI C) (b2i (!o)) a1 a2 a3 a4 a5 l1 l2 a6 a7 fo l3 l4 l5 wk n (nI m) (fun _ => some (-1, a6, a7, fo, l4, wk)) = some (r, a6, a7, fo, l4, wk) ∧ lp_X12_move_2 mbl qp qd qx mm kept ma n (nI m) (fun _ => some (-1)) = some r := by
  intro n
  induction n with
  | zero => intro m h1 h2; omega
  | succ n ih =>
    intro m h1 h2
    rw [lp_X11_move_25, lp_X12_move_2]
    by_cases hm : m = C
    · subst hm
      rw [if_pos (nI_le (Nat.le_refl _) (by omega)), hm2, Option.bind_some, if_pos (by decide)]
      exact ⟨-1, rfl, rfl⟩
    · rw [if_neg (nI_ge (by omega) (by omega)), hout m (by omega), Option.bind_some, hm1 m (by omega), Option.bind_some, if_neg (c := b2i true = 0) (by decide), hw m (by omega), Option.bind_some, nI_1]
      cases V m <;> cases o
      · rw [if_neg (by decide), if_pos (by decide)]; exact ih (m + 1) (by omega) (by omega)
      · rw [if_pos (by decide), if_neg (by decide)]; exact ⟨_, rfl, rfl⟩
      · rw [if_pos (by decide), if_neg (by decide)]; exact ⟨_, rfl, rfl⟩
      · rw [if_neg (by decide), if_pos (by decide)]; exact ih (m + 1) (by omega) (by omega)
theorem ism_m (h : IBlk N B sz nb own xc xn xo xs xk xb mn mb mk mnb mm ma) (hh : IHist B sz pl dp pv hb hn hv hp qp qd qx qm) (hpl : pl < B) : (∀ m, m < 2 ^ sz pl → f_X12_isMove mb qp mm (nI m) = some true) ∧ f_X12_isMove mb qp mm (nI (2 ^ sz pl)) = some false := by
  have hsz := sz_le h hpl
  obtain ⟨hB, hN, rfl, rfl, rfl, rfl, hbl, hk, hs⟩ := h
  obtain ⟨h1, hdp, h3, rfl, rfl, rfl, rfl, rfl, rfl, hpm⟩ := hh
  have hpw : 2 ^ sz pl ≤ 1024 := pow_le10 (by omega)
  have em : (1 : Int32) <<< ((mm pl) &&& 31) = nI (2 ^ sz pl) := by rw [(hbl pl hpl).2.1, show (1 : Int32) = nI 1 from rfl, shl_nI (by omega) (by omega), Nat.one_mul]
  constructor
  · intro m hm
    unfold f_X12_isMove
    rw [if_neg (nI_ge hpl (by omega)), if_neg (nI_pos (by omega)), if_pos (ix_t (by omega) (by decide)), nI_clamp (by omega), em, if_neg (nI_ge hm (by omega))]
  · unfold f_X12_isMove
    rw [if_neg (nI_ge hpl (by omega)), if_neg (nI_pos (by omega)), if_pos (ix_t (by omega) (by decide)), nI_clamp (by omega), em, if_pos (nI_le (Nat.le_refl _) (by omega))]
theorem move_ok (h : IBlk N B sz nb own xc xn xo xs xk xb mn mb mk mnb mm ma) (hh : IHist B sz pl dp pv hb hn hv hp qp qd qx qm) (ht : ITab N nb own lf words leaf kept) (s1 s2 s3 : Int32) (s4 : Nat → Int32) (s5 : Nat → Int64) :
    ∃ (r u1 u2 u3 : Int32) (u4 : Nat → Int32) (u5 : Nat → Int64), f_X11_move hb hn hv xc xn xs xo s1 s2 s3 xb s4 words s5 = some (r, u1, u2, u3, u4, u5) ∧ f_X12_move mb qp qd qx mm kept ma = some r := by
  unfold f_X11_move f_X12_move
  by_cases hpl : pl < B
  · have hsz := sz_le h hpl
    obtain ⟨i1, i2⟩ := ism_m h hh hpl
    have hi := fun m hm => iswon_ok h hh ht (m := m) hpl hm
    obtain ⟨u1, u2, u3, u4, u5, e1, g1⟩ := to_moves h hh ht hpl s1 s2 s3 s4 s5
    have hN10 : N ≤ 10 := h.2.1
    have hpw : 2 ^ sz pl ≤ 1024 := pow_le10 (by omega)
    have ea : f_X11_allPlayed hb xc = some false := by
      obtain ⟨hB, hN, rfl, rfl, rfl, rfl, hbl, hk, hs⟩ := h
      obtain ⟨h1, hdp, h3, rfl, rfl, rfl, rfl, rfl, rfl, hpm⟩ := hh
      unfold f_X11_allPlayed
      rw [if_pos (nI_lt hpl (by omega))]
    rw [ea, Option.bind_some, if_pos (by decide), count_ok h hh hpl, Option.bind_some, wished_ok h hh hpl, Option.bind_some, e1, Option.bind_some]
    dsimp only
    obtain ⟨r, q1, q2⟩ := move_x (o := own pl) hpw g1 (a1 := hb) (a2 := hn) (a3 := hv) (a4 := xc) (a5 := xn) (a6 := u1) (a7 := u2) (l1 := xs) (l2 := xo) (l3 := xb) (l4 := u4) (l5 := words) i1 i2 hi 5000 0 (Nat.zero_le _) (by omega)
    exact ⟨r, u1, u2, u3, u4, u5, q1, q2⟩
  · obtain ⟨hB, hN, rfl, rfl, rfl, rfl, hbl, hk, hs⟩ := h
    obtain ⟨h1, hdp, h3, rfl, rfl, rfl, rfl, rfl, rfl, hpm⟩ := hh
    unfold f_X11_allPlayed
    rw [if_neg (nI_nlt (by omega) (by omega)), Option.bind_some, if_neg (by decide)]
    refine ⟨_, _, _, _, _, _, rfl, ?_⟩
    · show lp_X12_move_2 _ _ _ _ _ _ _ (4999 + 1) _ _ = _
      rw [lp_X12_move_2]
      unfold f_X12_isMove
      rw [if_pos (nI_le (by omega) (by omega)), Option.bind_some, if_pos (by decide)]
theorem moves_ok (h : IBlk N B sz nb own xc xn xo xs xk xb mn mb mk mnb mm ma) (hh : IHist B sz pl dp pv hb hn hv hp qp qd qx qm) (ht : ITab N nb own lf words leaf kept) (s1 s2 s3 : Int32) (s4 : Nat → Int32) (s5 : Nat → Int64) :
    ∃ (r u1 u2 u3 : Int32) (u4 : Nat → Int32) (u5 : Nat → Int64), f_X11_moves hb hn hv xc xn xs xo s1 s2 s3 xb s4 words s5 = some (r, u1, u2, u3, u4, u5) ∧ f_X12_moves mb qp qd qx mm kept ma = some r := by
  unfold f_X11_moves f_X12_moves
  by_cases hpl : pl < B
  · have hsz := sz_le h hpl
    obtain ⟨i1, i2⟩ := ism_m h hh hpl
    have hi := fun m hm => iswon_ok h hh ht (m := m) hpl hm
    obtain ⟨u1, u2, u3, u4, u5, e1, g1⟩ := to_moves h hh ht hpl s1 s2 s3 s4 s5
    have hN10 : N ≤ 10 := h.2.1
    have hpw : 2 ^ sz pl ≤ 1024 := pow_le10 (by omega)
    have ea : f_X11_allPlayed hb xc = some false ∧ ¬ qp = mb := by
      obtain ⟨hB, hN, rfl, rfl, rfl, rfl, hbl, hk, hs⟩ := h
      obtain ⟨h1, hdp, h3, rfl, rfl, rfl, rfl, rfl, rfl, hpm⟩ := hh
      unfold f_X11_allPlayed
      rw [if_pos (nI_lt hpl (by omega))]
      exact ⟨rfl, by rw [nI_eq (by omega) (by omega)]; omega⟩
    rw [ea.1, Option.bind_some, if_pos (by decide), count_ok h hh hpl, Option.bind_some, wished_ok h hh hpl, Option.bind_some, e1, Option.bind_some, if_neg ea.2]
    dsimp only
    obtain ⟨c', q1, q2⟩ := moves_x (y1 := 0) (o := own pl) hpw g1 (a1 := hb) (a2 := hn) (a3 := hv) (a4 := xc) (a5 := xn) (a6 := u1) (a7 := u2) (l1 := xs) (l2 := xo) (l3 := xb) (l4 := u4) (l5 := words) i1 i2 hi 5000 0 0 (fun x3_28_18 x4_28_19 => some (x3_28_18, u1, u2, u3, u4, u5)) (fun x1_17_8 x2_17_9 => some x1_17_8) (Nat.zero_le _) (by omega) (Nat.le_refl _)
    exact ⟨_, u1, u2, u3, u4, u5, q1, q2⟩
  · obtain ⟨hB, hN, rfl, rfl, rfl, rfl, hbl, hk, hs⟩ := h
    obtain ⟨h1, hdp, h3, rfl, rfl, rfl, rfl, rfl, rfl, hpm⟩ := hh
    unfold f_X11_allPlayed
    rw [if_neg (nI_nlt (by omega) (by omega)), Option.bind_some, if_neg (by decide)]
    refine ⟨_, _, _, _, _, _, rfl, ?_⟩
    · rw [if_pos (by rw [nI_eq (by omega) (by omega)]; omega)]
theorem wins_ok (h : IBlk N B sz nb own xc xn xo xs xk xb mn mb mk mnb mm ma) (hh : IHist B sz pl dp pv hb hn hv hp qp qd qx qm) (ht : ITab N nb own lf words leaf kept) (s1 s2 s3 : Int32) (s4 : Nat → Int32) (s5 : Nat → Int64) (a : Int32) :
    ∃ (r u1 u2 u3 : Int32) (u4 : Nat → Int32) (u5 : Nat → Int64), f_X11_wins hb hn hv xc xn xs s1 s2 s3 xb xo s4 words s5 a = some (r, u1, u2, u3, u4, u5) ∧ f_X12_wins mb qp qd qx mm kept ma a = some r := by
  unfold f_X11_wins f_X12_wins
  rcases ismove_ok h hh a with ⟨j, hpl, hj, rfl, e1, e2⟩ | ⟨e1, e2⟩
  · have hsz := sz_le h hpl
    have hi := iswon_ok h hh ht (m := j) hpl hj
    have hwi := wished_ok h hh hpl
    have hdN := dp_le h hh
    obtain ⟨c', o1, -, g1⟩ := owners_ok h s1 s4
    obtain ⟨hB, hN, rfl, rfl, rfl, rfl, hbl, hk, hs⟩ := h
    obtain ⟨h1, hdp, h3, rfl, rfl, rfl, rfl, rfl, rfl, hpm⟩ := hh
    have hpw : 2 ^ sz pl ≤ 1024 := pow_le10 (by omega)
    have hpd : 2 ^ dp ≤ 1024 := pow_le10 (by omega)
    have hmul : pv * 2 ^ sz pl ≤ 1024 * 1024 := Nat.mul_le_mul (by omega) hpw
    have ev : (nI pv <<< (nI (sz pl) &&& 31)) ||| nI j = nI (pv * 2 ^ sz pl + j) := by rw [shl_nI (by omega) (by omega), or_nI, or_add hj]
    obtain ⟨u1, u2, u3, q1, q2⟩ := wins_with (used := s2) (folded := s3) (work := s5) (f := dp + sz pl) (v := pv * 2 ^ sz pl + j) hN (by omega) (place_lt h3 hj) g1 ht.1
    rw [e1, e2, Option.bind_some, Option.bind_some, if_neg (by decide), if_neg (by decide), hi, Option.bind_some, size_ok hB pl (by omega), Option.bind_some, if_pos hpl, (hbl pl hpl).1, o1, Option.bind_some]
    dsimp only
    rw [ev, nI_add, q1, Option.bind_some]
    dsimp only
    rw [q2, Option.bind_some, hwi, Option.bind_some]
    unfold afterV
    cases gv (mch nb own (-1) 0 (-1)) lf N (N - (dp + sz pl)) (pv * 2 ^ sz pl + j) <;> cases own pl <;> exact ⟨_, _, _, _, _, _, rfl, rfl⟩
  · rw [e1, e2, Option.bind_some, Option.bind_some, if_pos (by decide), if_pos (by decide)]
    exact ⟨_, _, _, _, _, _, rfl, rfl⟩
end SV
