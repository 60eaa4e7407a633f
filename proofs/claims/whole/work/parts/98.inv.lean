/-! what holds between the calls -/
def IForm (N : Nat) (mk : Nat → Int32) (M : Nat) (T : TT) (e : Nat) (x : Ent) (xl : Int32) (xsy xop xcl : Nat → Int32) (mnd mtp : Int32) (mki mle mri : Nat → Int32) : Prop :=
  eF x = 0 ∧ e = eL x + 1 ∧ xl = nI e ∧ mnd = nI M ∧ mtp = nI (eJ x) ∧ TXT (nmbOf N mk) [] [x] e xop xcl xsy ∧ G N (nmbOf N mk) [] [x] M T e 160 ∧ ∀ j, j < M → mki j = nI (T j).1 ∧ mle j = nI (T j).2.1 ∧ mri j = nI (T j).2.2.1
def InvR : InvT := fun xts xtb xc xn xo xs xk xb xl xsc xsy xop xcl xst xw hb hn hv hp ps pb lf lp mt mtb mn mb mk mnb mm ma mnd mtp mki mle mri mleaf mkept mp md mx mmm mw mo fk fpl =>
  ITape xts xtb mt mtb ∧ IPage ps pb mw mo ∧ lf = fk ∧ lp = fpl ∧ ∃ (N B : Nat) (sz nb : Nat → Nat) (own : Nat → Bool) (pl dp pv M : Nat) (T : TT) (e : Nat) (x : Ent), IBlk N B sz nb own xc xn xo xs xk xb mn mb mk mnb mm ma ∧ IHist B sz pl dp pv hb hn hv hp mp md mx mmm ∧ IForm N mk M T e x xl xsy xop xcl mnd mtp mki mle mri ∧ ITab N nb own (fun c => wbit (eU x) c) xw mleaf mkept
theorem g_mono {N M e k k' : Nat} {nmb : Nat → List Nat} {W : List (Nat × Nat)} {D : List Ent} {T : TT} (h : k ≤ k') (hG : G N nmb W D M T e k) : G N nmb W D M T e k' := by
  obtain ⟨g1, g2, g3, g4, g5, g6, g7⟩ := hG
  exact ⟨g1, g2, g3, by omega, by omega, g6, by omega⟩
theorem g_facts {N M e : Nat} {nmb : Nat → List Nat} {T : TT} {x : Ent} (hG : G N nmb [] [x] M T e 160) : M ≤ 160 ∧ e ≤ 160 ∧ eJ x < M ∧ tX T (eJ x) = eX x ∧ tU T (eJ x) = eU x ∧ (eX x).length ≤ 320 ∧ ∀ j, j < M → nodeOK N nmb T j := by
  obtain ⟨g1, g2, g3, g4, g5, g6, g7⟩ := hG
  have hx := g2 x (List.mem_cons_self ..)
  have hp : potD [x] = (eX x).length + (if eC x then 2 else 0) + 0 := rfl
  have h0 : ([] : List (Nat × Nat)).length = 0 := rfl
  exact ⟨by omega, by omega, hx.1, hx.2.2.1, hx.2.2.2.1, by omega, g3⟩
theorem dec_pow : ∀ (N i : Nat), 1 ≤ i → i < 2 ^ (N + 1) → ∃ d p, d ≤ N ∧ p < 2 ^ d ∧ i = 2 ^ d + p
  | 0, i, h1, h2 => by
    have e1 : (2 : Nat) ^ (0 + 1) = 2 := rfl
    have e2 : (2 : Nat) ^ 0 = 1 := rfl
    exact ⟨0, 0, Nat.le_refl _, by decide, by omega⟩
  | N + 1, i, h1, h2 => by
    by_cases h : i < 2 ^ (N + 1)
    · obtain ⟨d, p, q1, q2, q3⟩ := dec_pow N i h1 h
      exact ⟨d, p, by omega, q2, q3⟩
    · have := pow2_succ (N + 1)
      exact ⟨N + 1, i - 2 ^ (N + 1), Nat.le_refl _, by omega, by omega⟩
theorem tab_ok {N B M e : Nat} {nmb : Nat → List Nat} {nb : Nat → Nat} {own : Nat → Bool} {T : TT} {x : Ent} (hN : N ≤ 10) (hB : B ≤ 6) (hG : G N nmb [] [x] M T e 160) {mnb ma mki mle mri : Nat → Int32} (hnb : ∀ k, k < N → mnb k = nI (nb k) ∧ nb k < B) (hba : ∀ b, b < B → ma b = b2i (own b)) (hk : ∀ j, j < M → mki j = nI (T j).1 ∧ mle j = nI (T j).2.1 ∧ mri j = nI (T j).2.2.1) {words : Nat → Int64} (hw : ∀ v, v < tw N → words v = eU x v) (now leaf fold kept : Nat → Int32) :
    ∃ now' leaf' fold' kept', f_X12_values (nI N) (nI M) (nI (eJ x)) mki mle now mri leaf = some (now', leaf') ∧ f_X12_folds (nI N) leaf' fold mnb ma (-1) 0 (-1) = some fold' ∧ f_X12_keeps (nI N) fold' kept = some kept' ∧ ITab N nb own (fun c => wbit (eU x) c) words leaf' kept' := by
  obtain ⟨f1, f2, f3, f4, f5, f6, f7⟩ := g_facts hG
  obtain ⟨now', leaf', q1, q2⟩ := values_ok hN f1 f3 hk f7 now leaf
  rw [f5] at q2
  obtain ⟨fold', q3, q4⟩ := folds_ok (fx := -1) (fv := 0) (tu := -1) (fold := fold) hN hB (lf := fun c => wbit (eU x) c) q2 hnb hba
  have hV : ∀ i, 1 ≤ i → i < 2 ^ (N + 1) → fold' i = b2i (decide (fold' i = 1)) := by
    intro i h1 h2
    obtain ⟨d, p, e1, e2, rfl⟩ := dec_pow N i h1 h2
    rw [q4 d p e1 e2]
    cases gv (mch nb own (-1) 0 (-1)) (fun c => wbit (eU x) c) N (N - d) p <;> rfl
  have hp := pow2_succ N
  have hp2 := pow_le10 hN
  have hp3 : 1 ≤ 2 ^ N := Nat.one_le_two_pow
  obtain ⟨kept', q5, q6, -⟩ := keeps_ok hN hV 5000 1 kept (fun _ k => some k) (Nat.le_refl 1) (by omega) (by omega)
  refine ⟨now', leaf', fold', kept', q1, q3, q5, fun i hi => ?_, q2, fun d p h1 h2 => ?_⟩
  · unfold wbit
    rw [hw _ (tw_cover hi)]
  · have h3 : 2 ^ d ≤ 2 ^ N := pow_le_N h1
    have h4 : 1 ≤ 2 ^ d := Nat.one_le_two_pow
    rw [q6 (2 ^ d + p) (by omega) (by omega), ← hV (2 ^ d + p) (by omega) (by omega), q4 d p h1 h2]
theorem nmb_same {N : Nat} {mk mk' : Nat → Int32} (h : ∀ k, k < N → mk' k = mk k) : nmbOf N mk' = nmbOf N mk := by
  funext k
  unfold nmbOf
  by_cases hk : N ≤ k
  · rw [if_pos hk, if_pos hk]
  · rw [if_neg hk, if_neg hk, h k (by omega)]

theorem p_feed : P_feed InvR := by
  intro xts xtb xc xn xo xs xk xb xl xsc xsy xop xcl xst xw hb hn hv hp ps pb lf lp mt mtb mn mb mk mnb mm ma mnd mtp mki mle mri mleaf mkept mp md mx mmm mw mo fk fpl a1 a2 a3 a4 a5 h
  obtain ⟨h1, h2, h3, h4, N, B, sz, nb, own, pl, dp, pv, M, T, e, x, g1, g2, g3, g4⟩ := h
  obtain ⟨r, u1, u2, w1, w2, q1, q2, q3⟩ := feed_ok a1 a2 a3 a4 a5 h1
  exact ⟨r, u1, u2, w1, w2, q1, q2, q3, h2, h3, h4, N, B, sz, nb, own, pl, dp, pv, M, T, e, x, g1, g2, g3, g4⟩
theorem p_fault : P_fault InvR := by
  intro xts xtb xc xn xo xs xk xb xl xsc xsy xop xcl xst xw hb hn hv hp ps pb lf lp mt mtb mn mb mk mnb mm ma mnd mtp mki mle mri mleaf mkept mp md mx mmm mw mo fk fpl a1 h
  obtain ⟨h1, h2, h3, h4, N, B, sz, nb, own, pl, dp, pv, M, T, e, x, g1, g2, g3, g4⟩ := h
  obtain ⟨r, q1, q2⟩ := fault_ok h3 h4 a1
  exact ⟨r, q1, q2, h1, h2, h3, h4, N, B, sz, nb, own, pl, dp, pv, M, T, e, x, g1, g2, g3, g4⟩
theorem p_turn : P_turn InvR := by
  intro xts xtb xc xn xo xs xk xb xl xsc xsy xop xcl xst xw hb hn hv hp ps pb lf lp mt mtb mn mb mk mnb mm ma mnd mtp mki mle mri mleaf mkept mp md mx mmm mw mo fk fpl h
  obtain ⟨h1, h2, h3, h4, N, B, sz, nb, own, pl, dp, pv, M, T, e, x, g1, g2, g3, g4⟩ := h
  obtain ⟨r, q1, q2, -⟩ := turn_ok g1 g2
  exact ⟨r, q1, q2, h1, h2, h3, h4, N, B, sz, nb, own, pl, dp, pv, M, T, e, x, g1, g2, g3, g4⟩
theorem p_truth : P_truth InvR := by
  intro xts xtb xc xn xo xs xk xb xl xsc xsy xop xcl xst xw hb hn hv hp ps pb lf lp mt mtb mn mb mk mnb mm ma mnd mtp mki mle mri mleaf mkept mp md mx mmm mw mo fk fpl s_names s_used s_folded s_choosers s_work h
  obtain ⟨h1, h2, h3, h4, N, B, sz, nb, own, pl, dp, pv, M, T, e, x, g1, g2, g3, g4⟩ := h
  obtain ⟨r, u1, u2, u3, u4, u5, q1, q2⟩ := truth_ok g1 g2 g4 s_names s_used s_folded s_choosers s_work
  exact ⟨r, u1, u2, u3, u4, u5, q1, q2, h1, h2, h3, h4, N, B, sz, nb, own, pl, dp, pv, M, T, e, x, g1, g2, g3, g4⟩
theorem p_move : P_move InvR := by
  intro xts xtb xc xn xo xs xk xb xl xsc xsy xop xcl xst xw hb hn hv hp ps pb lf lp mt mtb mn mb mk mnb mm ma mnd mtp mki mle mri mleaf mkept mp md mx mmm mw mo fk fpl s_names s_used s_folded s_choosers s_work h
  obtain ⟨h1, h2, h3, h4, N, B, sz, nb, own, pl, dp, pv, M, T, e, x, g1, g2, g3, g4⟩ := h
  obtain ⟨r, u1, u2, u3, u4, u5, q1, q2⟩ := move_ok g1 g2 g4 s_names s_used s_folded s_choosers s_work
  exact ⟨r, u1, u2, u3, u4, u5, q1, q2, h1, h2, h3, h4, N, B, sz, nb, own, pl, dp, pv, M, T, e, x, g1, g2, g3, g4⟩
theorem p_wins : P_wins InvR := by
  intro xts xtb xc xn xo xs xk xb xl xsc xsy xop xcl xst xw hb hn hv hp ps pb lf lp mt mtb mn mb mk mnb mm ma mnd mtp mki mle mri mleaf mkept mp md mx mmm mw mo fk fpl s_names s_used s_folded s_choosers s_work a1 h
  obtain ⟨h1, h2, h3, h4, N, B, sz, nb, own, pl, dp, pv, M, T, e, x, g1, g2, g3, g4⟩ := h
  obtain ⟨r, u1, u2, u3, u4, u5, q1, q2⟩ := wins_ok g1 g2 g4 s_names s_used s_folded s_choosers s_work a1
  exact ⟨r, u1, u2, u3, u4, u5, q1, q2, h1, h2, h3, h4, N, B, sz, nb, own, pl, dp, pv, M, T, e, x, g1, g2, g3, g4⟩
theorem p_moves : P_moves InvR := by
  intro xts xtb xc xn xo xs xk xb xl xsc xsy xop xcl xst xw hb hn hv hp ps pb lf lp mt mtb mn mb mk mnb mm ma mnd mtp mki mle mri mleaf mkept mp md mx mmm mw mo fk fpl s_names s_used s_folded s_choosers s_work h
  obtain ⟨h1, h2, h3, h4, N, B, sz, nb, own, pl, dp, pv, M, T, e, x, g1, g2, g3, g4⟩ := h
  obtain ⟨r, u1, u2, u3, u4, u5, q1, q2⟩ := moves_ok g1 g2 g4 s_names s_used s_folded s_choosers s_work
  exact ⟨r, u1, u2, u3, u4, u5, q1, q2, h1, h2, h3, h4, N, B, sz, nb, own, pl, dp, pv, M, T, e, x, g1, g2, g3, g4⟩
theorem p_play : P_play InvR := by
  intro xts xtb xc xn xo xs xk xb xl xsc xsy xop xcl xst xw hb hn hv hp ps pb lf lp mt mtb mn mb mk mnb mm ma mnd mtp mki mle mri mleaf mkept mp md mx mmm mw mo fk fpl a1 h
  obtain ⟨h1, h2, h3, h4, N, B, sz, nb, own, pl, dp, pv, M, T, e, x, g1, g2, g3, g4⟩ := h
  obtain ⟨r, u1, u2, u3, u4, w1, w2, w3, w4, pl', dp', pv', q1, q2, q3⟩ := play_ok g1 g2 a1
  exact ⟨r, u1, u2, u3, u4, w1, w2, w3, w4, q1, q2, h1, h2, h3, h4, N, B, sz, nb, own, pl', dp', pv', M, T, e, x, g1, q3, g3, g4⟩
theorem p_undo : P_undo InvR := by
  intro xts xtb xc xn xo xs xk xb xl xsc xsy xop xcl xst xw hb hn hv hp ps pb lf lp mt mtb mn mb mk mnb mm ma mnd mtp mki mle mri mleaf mkept mp md mx mmm mw mo fk fpl h
  obtain ⟨h1, h2, h3, h4, N, B, sz, nb, own, pl, dp, pv, M, T, e, x, g1, g2, g3, g4⟩ := h
  obtain ⟨r, u1, u2, u3, w1, w2, w3, pl', dp', pv', q1, q2, q3⟩ := undo_ok g1 g2
  exact ⟨r, u1, u2, u3, w1, w2, w3, q1, q2, h1, h2, h3, h4, N, B, sz, nb, own, pl', dp', pv', M, T, e, x, g1, q3, g3, g4⟩
theorem p_fixed : P_fixed InvR := by
  intro xts xtb xc xn xo xs xk xb xl xsc xsy xop xcl xst xw hb hn hv hp ps pb lf lp mt mtb mn mb mk mnb mm ma mnd mtp mki mle mri mleaf mkept mp md mx mmm mw mo fk fpl s_names s_used s_folded s_choosers s_work z_fold a1 a2 h
  obtain ⟨h1, h2, h3, h4, N, B, sz, nb, own, pl, dp, pv, M, T, e, x, g1, g2, g3, g4⟩ := h
  obtain ⟨r, u1, u2, u3, u4, u5, u6, q1, q2⟩ := fixed_ok g1 g2 g4 s_names s_used s_folded s_choosers s_work z_fold a1 a2
  exact ⟨r, u1, u2, u3, u4, u5, u6, q1, q2, h1, h2, h3, h4, N, B, sz, nb, own, pl, dp, pv, M, T, e, x, g1, g2, g3, g4⟩
theorem p_turned : P_turned InvR := by
  intro xts xtb xc xn xo xs xk xb xl xsc xsy xop xcl xst xw hb hn hv hp ps pb lf lp mt mtb mn mb mk mnb mm ma mnd mtp mki mle mri mleaf mkept mp md mx mmm mw mo fk fpl s_names s_used s_folded s_choosers s_work z_fold a1 h
  obtain ⟨h1, h2, h3, h4, N, B, sz, nb, own, pl, dp, pv, M, T, e, x, g1, g2, g3, g4⟩ := h
  obtain ⟨r, u1, u2, u3, u4, u5, u6, q1, q2⟩ := turned_ok g1 g2 g4 s_names s_used s_folded s_choosers s_work z_fold a1
  exact ⟨r, u1, u2, u3, u4, u5, u6, q1, q2, h1, h2, h3, h4, N, B, sz, nb, own, pl, dp, pv, M, T, e, x, g1, g2, g3, g4⟩
theorem p_models : P_models InvR := by
  intro xts xtb xc xn xo xs xk xb xl xsc xsy xop xcl xst xw hb hn hv hp ps pb lf lp mt mtb mn mb mk mnb mm ma mnd mtp mki mle mri mleaf mkept mp md mx mmm mw mo fk fpl s_names s_used s_choosers s_work h
  obtain ⟨h1, h2, h3, h4, N, B, sz, nb, own, pl, dp, pv, M, T, e, x, g1, g2, g3, g4⟩ := h
  obtain ⟨r, u1, u2, u4, u5, q1, q2⟩ := models_ok g1 g2 g4 s_names s_used s_choosers s_work
  exact ⟨r, u1, u2, u4, u5, q1, q2, h1, h2, h3, h4, N, B, sz, nb, own, pl, dp, pv, M, T, e, x, g1, g2, g3, g4⟩
theorem p_octet : P_octet InvR := by
  intro xts xtb xc xn xo xs xk xb xl xsc xsy xop xcl xst xw hb hn hv hp ps pb lf lp mt mtb mn mb mk mnb mm ma mnd mtp mki mle mri mleaf mkept mp md mx mmm mw mo fk fpl a1 h
  obtain ⟨h1, h2, h3, h4, N, B, sz, nb, own, pl, dp, pv, M, T, e, x, g1, g2, g3, g4⟩ := h
  obtain ⟨r, q1, q2⟩ := octet_ok h2 a1
  exact ⟨r, q1, q2, h1, h2, h3, h4, N, B, sz, nb, own, pl, dp, pv, M, T, e, x, g1, g2, g3, g4⟩
theorem p_look : P_look InvR := by
  intro xts xtb xc xn xo xs xk xb xl xsc xsy xop xcl xst xw hb hn hv hp ps pb lf lp mt mtb mn mb mk mnb mm ma mnd mtp mki mle mri mleaf mkept mp md mx mmm mw mo fk fpl a1 h
  obtain ⟨h1, h2, h3, h4, N, B, sz, nb, own, pl, dp, pv, M, T, e, x, g1, g2, g3, g4⟩ := h
  have ht := h1
  obtain ⟨t, t1, t2, t3, t4⟩ := ht
  obtain ⟨r, q1, q2⟩ := look_ok (ts := nI t) g1 g2 a1
  exact ⟨r, by rw [t2]; exact q1, by rw [t3]; exact q2, h1, h2, h3, h4, N, B, sz, nb, own, pl, dp, pv, M, T, e, x, g1, g2, g3, g4⟩
theorem p_write : P_write InvR := by
  intro xts xtb xc xn xo xs xk xb xl xsc xsy xop xcl xst xw hb hn hv hp ps pb lf lp mt mtb mn mb mk mnb mm ma mnd mtp mki mle mri mleaf mkept mp md mx mmm mw mo fk fpl z_laters z_later h
  obtain ⟨h1, h2, h3, h4, N, B, sz, nb, own, pl, dp, pv, M, T, e, x, g1, g2, g3, g4⟩ := h
  have hb := g1
  have hf := g3
  obtain ⟨b1, b2, b3, b4, b5, b6, b7, b8, b9⟩ := hb
  obtain ⟨f1, f2, f3, f4, f5, f6, f7, f8⟩ := hf
  obtain ⟨k1, k2, k3, k4, k5, k6, k7⟩ := g_facts f7
  obtain ⟨p', q1, q2⟩ := xwrite_ok (f := pb) b2 k2 (fun k hk => ⟨(b8 k hk).1, (b8 k hk).2.2.2.2⟩) f6 f1 f2 k6 ps
  obtain ⟨la, lt, o', q3, q4⟩ := mwrite_ok (wr0 := mw) (la0 := z_laters) (later := z_later) (out := mo) k1 f8 k7 b2 (fun k hk => (b8 k hk).2.2.2.2) k3 (by rw [k4]; exact k6)
  rw [k4] at q3 q4
  rw [b5, f3, f5]
  exact ⟨_, _, _, _, _, _, _, q1, q3, h1, ⟨(eX x).length, k6, rfl, rfl, page_same q2 q4⟩, h3, h4, N, B, sz, nb, own, pl, dp, pv, M, T, e, x, by rw [← b5]; exact g1, g2, by rw [← f3, ← f5]; exact g3, g4⟩
theorem x3_init : ∃ (sym op cl steps : Nat → Int32) (d : Int32) (words st : Nat → Int64), f_X3_init = some (nI 1, nI 1, sym, op, cl, steps, d, words, st) ∧ (∀ v, v < tw 0 → words v = eU (newE 0 (nmbOf 0 (fun _ => 0)) 0 0 49) v) ∧ TXT (nmbOf 0 (fun _ => 0)) [] [newE 0 (nmbOf 0 (fun _ => 0)) 0 0 49] 1 op cl sym := by
  have hR : RC 0 (nmbOf 0 (fun _ => 0)) [] [newE 0 (nmbOf 0 (fun _ => 0)) 0 0 49] 1 1 (upd (fun _ => 0) 0 (nI 49)) (upd (fun _ => 0) 0 0) (upd (fun _ => 0) 0 0) (upd (fun _ => 0) 0 (nI 49)) (fun _ => 0) (upd (fun _ => 0) 0 6) (upd (fun _ => 0) 0 (nI 0)) (upd (fun _ => 0) 0 (nI 0)) (fun _ => 0) :=
    rc_leaf (W := []) (D := []) (M := 0) (e := 0) (a := 49) (by omega) (Or.inr (Or.inr rfl)) ⟨rfl, rfl⟩ ⟨trivial, trivial, ⟨fun _ => 0, fun _ => 0, fun _ => 0, fun i hi => absurd hi (by omega), fun x hx => absurd hx List.not_mem_nil, fun x hx => absurd hx List.not_mem_nil⟩, ⟨fun _ => 0, fun m hm => absurd hm (by omega), fun w => rfl⟩⟩
  obtain ⟨d', st', words', q1, q2⟩ := fill_ok (N := 0) (M := 1) (by omega) (by omega) hR.2.2.2 0 (fun _ => 0) (fun _ => 0)
  refine ⟨_, _, _, upd (fun _ => 0) 0 (nI 49), d', words', st', ?_, q2, hR.2.2.1⟩
  unfold f_X3_init f_X0_init f_X2_init f_X9_init
  rw [Option.bind_some, Option.bind_some, Option.bind_some, show f_X2_addSymbol 0 (fun _ => 0) (fun _ => 0) (fun _ => 0) 49 = _ from addSymbol_ok (e := 0) (by omega) (fun _ => 0) (fun _ => 0) (fun _ => 0) (nI 49), Option.bind_some]
  dsimp only
  rw [show f_X2_addStep 0 (fun _ => 0) 49 = _ from addStep_ok (M := 0) (s := 49) (steps := fun _ => 0) (by omega), Option.bind_some]
  dsimp only
  rw [show f_X9_fill 0 (nI (0 + 1)) (upd (fun _ => 0) 0 (nI 49)) (fun _ => 0) (fun _ => 0) 0 = _ from q1, Option.bind_some]
theorem g_init : G 0 (nmbOf 0 (fun _ => 0)) [] [newE 0 (nmbOf 0 (fun _ => 0)) 0 0 49] 1 (up (fun _ => (0, 0, 0, [], fun _ => 0)) 0 (49, 0, 0, sby (nmbOf 0 (fun _ => 0)) 49, fun w => leafv 0 49 w)) 1 160 :=
  g_mono (by omega) (st_leaf (N := 0) (nmb := nmbOf 0 (fun _ => 0)) (W := []) (D := []) (M := 0) (T := fun _ => (0, 0, 0, [], fun _ => 0)) (e := 0) (k := 0) (a := 49) (fun i _ => nmb_len _ _ i) (Or.inr (Or.inr rfl)) ⟨⟨rfl, rfl⟩, fun x hx => absurd hx List.not_mem_nil, fun j hj => absurd hj (by omega), Nat.le_refl _, Nat.le_refl _, Nat.le_refl _, Nat.le_refl _, Nat.zero_le _⟩ rfl).1.1
theorem p_init : P_init InvR := by
  obtain ⟨sym, op, cl, steps, d, words, st, q1, q2, q3⟩ := x3_init
  have hk : ∀ j, j < 1 → (upd (fun _ => 0) 0 49 : Nat → Int32) j = nI (up (fun _ => (0, 0, 0, [], fun _ => 0)) 0 (49, 0, 0, sby (nmbOf 0 (fun _ => 0)) 49, fun w => leafv 0 49 w) j : Nat × Nat × Nat × List Nat × (Nat → Int64)).1 ∧ (fun _ => 0 : Nat → Int32) j = nI (up (fun _ => (0, 0, 0, [], fun _ => 0)) 0 (49, 0, 0, sby (nmbOf 0 (fun _ => 0)) 49, fun w => leafv 0 49 w) j : Nat × Nat × Nat × List Nat × (Nat → Int64)).2.1 ∧ (fun _ => 0 : Nat → Int32) j = nI (up (fun _ => (0, 0, 0, [], fun _ => 0)) 0 (49, 0, 0, sby (nmbOf 0 (fun _ => 0)) 49, fun w => leafv 0 49 w) j : Nat × Nat × Nat × List Nat × (Nat → Int64)).2.2.1 := by
    intro j hj
    obtain rfl : j = 0 := by omega
    rw [upd_same, up_same]
    exact ⟨rfl, rfl, rfl⟩
  obtain ⟨now', leaf', fold', kept', t1, t2, t3, t4⟩ := tab_ok (N := 0) (B := 0) (nb := fun _ => 0) (own := fun _ => false) (by omega) (by omega) g_init (mnb := fun _ => 0) (ma := fun _ => 0) (fun k hk => absurd hk (by omega)) (fun k hk => absurd hk (by omega)) hk q2 (fun _ => 0) (fun _ => 0) (fun _ => 0) (fun _ => 0)
  have hx : f_X11_init = some (nI 1, nI 1, sym, op, cl, steps, d, words, st, nI 1, nI 1, sym, op, cl, steps, d, words, st) := by
    unfold f_X11_init f_X10_init f_X6_init f_X7_init f_X1_init f_X4_init f_X8_init f_X5_init
    rw [Option.bind_some, Option.bind_some, q1]
    rfl
  have hm : f_X12_init = some (upd (fun _ => 0) 0 49, leaf', fold', kept', now') := by
    unfold f_X12_init
    rw [if_pos (c := ix 0 161) (by decide), show f_X12_values 0 1 0 (upd (fun _ => 0) (0 : Int32).toNatClampNeg 49) (fun _ => 0) (fun _ => 0) (fun _ => 0) (fun _ => 0) = _ from t1, Option.bind_some]
    dsimp only
    rw [show f_X12_folds 0 leaf' (fun _ => 0) (fun _ => 0) (fun _ => 0) (-1) 0 (-1) = _ from t2, Option.bind_some, show f_X12_keeps 0 fold' (fun _ => 0) = _ from t3, Option.bind_some]
    rfl
  refine ⟨_, _, _, _, _, _, _, _, _, _, _, _, _, _, _, _, _, _, _, _, _, _, _, hx, hm, ⟨0, by omega, rfl, rfl, fun k hk => absurd hk (by omega)⟩, ⟨0, by omega, rfl, rfl, fun k hk => absurd hk (by omega)⟩, rfl, rfl, 0, 0, fun _ => 0, fun _ => 0, fun _ => false, 0, 0, 0, 1, _, 1, _, ⟨by omega, by omega, rfl, rfl, rfl, rfl, fun b hb => absurd hb (by omega), fun b hb => absurd hb (by omega), rfl⟩, ⟨by omega, rfl, by decide, rfl, rfl, rfl, rfl, rfl, rfl, fun b hb => absurd hb (by omega)⟩, ⟨rfl, rfl, rfl, rfl, rfl, q3, g_init, hk⟩, t4⟩
