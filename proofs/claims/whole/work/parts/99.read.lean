theorem blk_restore {N B : Nat} {sz nb : Nat → Nat} {own : Nat → Bool} {xc xn : Int32} {xo xs xk xb : Nat → Int32} {mn mb : Int32} {mk mnb mm ma : Nat → Int32} (h : IBlk N B sz nb own xc xn xo xs xk xb mn mb mk mnb mm ma) (s1 s2 s3 s4 d1 d2 d3 d4 : Nat → Int32) :
    IBlk N B sz nb own xc xn xo xs xk xb mn mb (cpy 12 (cpy 12 mk s1) d1) (cpy 12 (cpy 12 mnb s2) d2) (cpy 6 (cpy 6 mm s3) d3) (cpy 6 (fun k => vp_nar .boolean (cpy 6 (fun k => vp_nar .boolean (ma k)) s4 k)) d4) := by
  obtain ⟨b1, b2, b3, b4, b5, b6, b7, b8, b9⟩ := h
  refine ⟨b1, b2, b3, b4, b5, b6, fun b hb => ?_, fun k hk => ?_, b9⟩
  · obtain ⟨c1, c2, c3, c4, c5⟩ := b7 b hb
    rw [cpy_lt (show b < 6 by omega), cpy_lt (show b < 6 by omega), cpy_lt (show b < 6 by omega), cpy_lt (show b < 6 by omega), c4, nar_z, nar_z]
    exact ⟨c1, c2, c3, rfl, c5⟩
  · rw [cpy_lt (show k < 12 by omega), cpy_lt (show k < 12 by omega), cpy_lt (show k < 12 by omega), cpy_lt (show k < 12 by omega)]
    exact b8 k hk
theorem form_restore {N M e : Nat} {mk : Nat → Int32} {T : TT} {x : Ent} {xl mnd mtp : Int32} {xsy xop xcl mki mle mri : Nat → Int32} (hN : N ≤ 10) (h : IForm N mk M T e x xl xsy xop xcl mnd mtp mki mle mri) (s1 s5 s6 s7 d1 d5 d6 d7 : Nat → Int32) :
    IForm N (cpy 12 (cpy 12 mk s1) d1) M T e x xl xsy xop xcl mnd mtp (cpy 161 (cpy 161 mki s5) d5) (cpy 161 (cpy 161 mle s6) d6) (cpy 161 (cpy 161 mri s7) d7) := by
  obtain ⟨f1, f2, f3, f4, f5, f6, f7, f8⟩ := h
  have e1 : nmbOf N (cpy 12 (cpy 12 mk s1) d1) = nmbOf N mk := nmb_same (fun k hk => by rw [cpy_lt (show k < 12 by omega), cpy_lt (show k < 12 by omega)])
  have hM := (g_facts f7).1
  unfold IForm
  rw [e1]
  refine ⟨f1, f2, f3, f4, f5, f6, f7, fun j hj => ?_⟩
  rw [cpy_lt (show j < 161 by omega), cpy_lt (show j < 161 by omega), cpy_lt (show j < 161 by omega), cpy_lt (show j < 161 by omega), cpy_lt (show j < 161 by omega), cpy_lt (show j < 161 by omega)]
  exact f8 j hj
set_option maxHeartbeats 4000000 in
theorem p_read : P_read InvR := by
  intro xts xtb xc xn xo xs xk xb xl xsc xsy xop xcl xst xw hb hn hv hp ps pb lf lp mt mtb mn mb mk mnb mm ma mnd mtp mki mle mri mleaf mkept mp md mx mmm mw mo fk fpl y_state y_scanner_end y_scanner_next y_scanner_start y_scanner_kind y_scanner_code y_draft_blocks_words y_draft_blocks_count y_draft_blocks_names y_draft_formula_length y_draft_formula_stepCount y_builder_waiting y_builder_operands y_builder_openSigns y_builder_openParens y_draft_blocks_nameCodes y_draft_blocks_nameBlocks y_draft_blocks_sizes y_draft_blocks_owners y_builder_operators y_draft_formula_steps y_builder_levels y_builder_firsts y_builder_lasts y_draft_formula_opens y_draft_formula_closes y_builder_operatorPlaces y_draft_formula_symbols y_draft_table_depth y_draft_table_stack y_draft_table_words z_size z_token z_begin z_end z_tokens z_code z_namesWas z_blocksWas z_nodeManyWas z_topWas z_waits z_dones z_opened z_text z_nameCodeWas z_nameBlockWas z_blockManyWas z_blockAllWas z_kindWas z_leftWas z_rightWas z_wait z_done z_now z_fold a1 h
  have h0 := h
  obtain ⟨h1, h2, h3, h4, N, B, sz, nb, own, pl, dp, pv, M, T, e, x, g1, g2, g3, g4⟩ := h
  obtain ⟨t, t1, t2, t3, t4⟩ := h1
  by_cases ha : a1 < 0
  · have q1 : f_X11_read lf lp xts y_state y_scanner_end y_scanner_next y_scanner_start y_scanner_kind y_scanner_code y_draft_blocks_words y_draft_blocks_count y_draft_blocks_names y_draft_formula_length y_draft_formula_stepCount y_builder_waiting y_builder_operands y_builder_openSigns y_builder_openParens xtb y_draft_blocks_nameCodes y_draft_blocks_nameBlocks y_draft_blocks_sizes y_draft_blocks_owners y_builder_operators y_draft_formula_steps y_builder_levels y_builder_firsts y_builder_lasts y_draft_formula_opens y_draft_formula_closes y_builder_operatorPlaces y_draft_formula_symbols y_draft_table_depth y_draft_table_stack y_draft_table_words hb hn hv a1 = some ((-1), lf, lp, xts, y_state, y_scanner_end, y_scanner_next, y_scanner_start, y_scanner_kind, y_scanner_code, y_draft_blocks_words, y_draft_blocks_count, y_draft_blocks_names, y_draft_formula_length, y_draft_formula_stepCount, y_builder_waiting, y_builder_operands, y_builder_openSigns, y_builder_openParens, y_draft_blocks_nameCodes, y_draft_blocks_nameBlocks, y_draft_blocks_sizes, y_draft_blocks_owners, y_builder_operators, y_draft_formula_steps, y_builder_levels, y_builder_firsts, y_builder_lasts, y_draft_formula_opens, y_draft_formula_closes, y_builder_operatorPlaces, y_draft_formula_symbols, y_draft_table_depth, y_draft_table_stack, y_draft_table_words, hb, hn, hv, false, false) := by
      unfold f_X11_read
      rw [if_pos ha]
    have q2 : f_X12_read mt z_size z_token z_begin z_end z_tokens z_code fk fpl mn mb mnd mtp z_namesWas z_blocksWas z_nodeManyWas z_topWas z_waits z_dones z_opened mp md mx mtb z_text z_nameCodeWas mk z_nameBlockWas mnb z_blockManyWas mm z_blockAllWas ma z_kindWas mki z_leftWas mle z_rightWas mri z_wait z_done z_now mleaf z_fold mkept a1 = some ((-1), mt, z_size, z_token, z_begin, z_end, z_tokens, z_code, fk, fpl, mn, mb, mnd, mtp, z_namesWas, z_blocksWas, z_nodeManyWas, z_topWas, z_waits, z_dones, z_opened, mp, md, mx, z_text, z_nameCodeWas, mk, z_nameBlockWas, mnb, z_blockManyWas, mm, z_blockAllWas, ma, z_kindWas, mki, z_leftWas, mle, z_rightWas, mri, z_wait, z_done, z_now, mleaf, z_fold, mkept) := by
      unfold f_X12_read
      rw [if_pos ha]
    exact ⟨_, _, _, _, _, _, _, _, _, _, _, _, _, _, _, _, _, _, _, _, _, _, _, _, _, _, _, _, _, _, _, _, _, _, _, _, _, _, _, _, _, _, _, _, _, _, _, _, _, _, _, _, _, _, _, _, _, _, _, _, _, _, _, _, _, _, _, _, _, _, _, _, _, _, _, _, _, _, _, _, _, _, _, _, q1, q2, fun _ => h0, fun z => absurd z (by decide)⟩
  obtain ⟨n, hn31, rfl⟩ := nI_of ha
  by_cases hle : n ≤ t
  rotate_left
  · have q1 : f_X11_read lf lp xts y_state y_scanner_end y_scanner_next y_scanner_start y_scanner_kind y_scanner_code y_draft_blocks_words y_draft_blocks_count y_draft_blocks_names y_draft_formula_length y_draft_formula_stepCount y_builder_waiting y_builder_operands y_builder_openSigns y_builder_openParens xtb y_draft_blocks_nameCodes y_draft_blocks_nameBlocks y_draft_blocks_sizes y_draft_blocks_owners y_builder_operators y_draft_formula_steps y_builder_levels y_builder_firsts y_builder_lasts y_draft_formula_opens y_draft_formula_closes y_builder_operatorPlaces y_draft_formula_symbols y_draft_table_depth y_draft_table_stack y_draft_table_words hb hn hv (nI n) = some ((-1), lf, lp, xts, y_state, y_scanner_end, y_scanner_next, y_scanner_start, y_scanner_kind, y_scanner_code, y_draft_blocks_words, y_draft_blocks_count, y_draft_blocks_names, y_draft_formula_length, y_draft_formula_stepCount, y_builder_waiting, y_builder_operands, y_builder_openSigns, y_builder_openParens, y_draft_blocks_nameCodes, y_draft_blocks_nameBlocks, y_draft_blocks_sizes, y_draft_blocks_owners, y_builder_operators, y_draft_formula_steps, y_builder_levels, y_builder_firsts, y_builder_lasts, y_draft_formula_opens, y_draft_formula_closes, y_builder_operatorPlaces, y_draft_formula_symbols, y_draft_table_depth, y_draft_table_stack, y_draft_table_words, hb, hn, hv, false, false) := by
      unfold f_X11_read
      rw [if_neg ha, t2, if_neg (nI_ge (by omega) hn31)]
    have q2 : f_X12_read mt z_size z_token z_begin z_end z_tokens z_code fk fpl mn mb mnd mtp z_namesWas z_blocksWas z_nodeManyWas z_topWas z_waits z_dones z_opened mp md mx mtb z_text z_nameCodeWas mk z_nameBlockWas mnb z_blockManyWas mm z_blockAllWas ma z_kindWas mki z_leftWas mle z_rightWas mri z_wait z_done z_now mleaf z_fold mkept (nI n) = some ((-1), mt, z_size, z_token, z_begin, z_end, z_tokens, z_code, fk, fpl, mn, mb, mnd, mtp, z_namesWas, z_blocksWas, z_nodeManyWas, z_topWas, z_waits, z_dones, z_opened, mp, md, mx, z_text, z_nameCodeWas, mk, z_nameBlockWas, mnb, z_blockManyWas, mm, z_blockAllWas, ma, z_kindWas, mki, z_leftWas, mle, z_rightWas, mri, z_wait, z_done, z_now, mleaf, z_fold, mkept) := by
      unfold f_X12_read
      rw [if_neg ha, t3, if_neg (nI_ge (by omega) hn31)]
    exact ⟨_, _, _, _, _, _, _, _, _, _, _, _, _, _, _, _, _, _, _, _, _, _, _, _, _, _, _, _, _, _, _, _, _, _, _, _, _, _, _, _, _, _, _, _, _, _, _, _, _, _, _, _, _, _, _, _, _, _, _, _, _, _, _, _, _, _, _, _, _, _, _, _, _, _, _, _, _, _, _, _, _, _, _, _, q1, q2, fun _ => h0, fun z => absurd z (by decide)⟩

  have hn6 : n ≤ 600 := by omega
  have hxle : nI n ≤ xts := by rw [t2]; exact nI_le hle (by omega)
  have hmle : nI n ≤ mt := by rw [t3]; exact nI_le hle (by omega)
  have hN10 : N ≤ 10 := g1.2.1
  have htx : ∀ k, k < n → xtb k = (cpy n (fun k => vp_nar .byte (mtb k)) z_text) k &&& 255 := by
    intro k hk
    rw [cpy_lt hk, vp_nar_byte, bp_b]
    exact t4 k (by omega)
  obtain ⟨R, H, tk, bg, en, c2, k1, k2, k3, k4⟩ := head_ok hn6 htx mnd mtp z_waits z_dones z_opened z_wait z_done mki mle mri y_state y_scanner_end y_scanner_next y_scanner_start y_scanner_kind y_scanner_code y_draft_blocks_words y_draft_blocks_count y_draft_blocks_names y_draft_formula_length y_draft_formula_stepCount y_builder_waiting y_builder_operands y_builder_openSigns y_builder_openParens z_token z_begin z_code mn mb y_draft_blocks_nameCodes y_draft_blocks_nameBlocks y_draft_blocks_sizes y_draft_blocks_owners y_builder_operators y_draft_formula_steps y_builder_levels y_builder_firsts y_builder_lasts y_draft_formula_opens y_draft_formula_closes y_builder_operatorPlaces y_draft_formula_symbols mk mnb mm ma

  obtain ⟨r1, r2, r3, r4, r5, r6, r7, r8, r9, r10, r11, r12, r13, r14, r15, r16, r17, r18, r19, r20, r21, r22, r23, r24, r25, r26, r27, r28, r29⟩ := R
  obtain ⟨H1, H2, H3, H4, H5, H6, H7, H8, H9, H10, H11, H12, H13, H14⟩ := H
  have hfaultX : ∀ f b : Nat, 1 ≤ f → f ≤ 4 → r1 = nI f → r5 = nI b → f_X11_read lf lp xts y_state y_scanner_end y_scanner_next y_scanner_start y_scanner_kind y_scanner_code y_draft_blocks_words y_draft_blocks_count y_draft_blocks_names y_draft_formula_length y_draft_formula_stepCount y_builder_waiting y_builder_operands y_builder_openSigns y_builder_openParens xtb y_draft_blocks_nameCodes y_draft_blocks_nameBlocks y_draft_blocks_sizes y_draft_blocks_owners y_builder_operators y_draft_formula_steps y_builder_levels y_builder_firsts y_builder_lasts y_draft_formula_opens y_draft_formula_closes y_builder_operatorPlaces y_draft_formula_symbols y_draft_table_depth y_draft_table_stack y_draft_table_words hb hn hv (nI n) = some ((-2), (nI f), (nI b), 0, r2, r3, r4, (nI b), r6, r7, r8, r9, r10, r11, r12, r13, r14, r15, r16, r17, r18, r19, r20, r21, r22, r23, r24, r25, r26, r27, r28, r29, y_draft_table_depth, y_draft_table_stack, y_draft_table_words, hb, hn, hv, true, false) := by
    intro f b f1 f2 e1 e2
    subst e1 e2
    unfold f_X11_read
    rw [if_neg ha, if_pos hxle, k1, Option.bind_some]
    unfold jn f_X6_place
    dsimp only
    rw [if_neg (nI_ne0 (by omega) (by omega)), Option.bind_some, if_neg (nI_ne0 (by omega) (by omega))]

  rcases k4 with ⟨f, b, f1, f2, f3, f4, f5, f6, f7⟩ | ⟨f1, N', B', sz', nb', own', ncs, nbs, szs, ows, wds, cnt, R', b1, b2, b3⟩
  · dsimp only at f3 f4 f5 f6 f7
    subst f5 f6 f7
    have q1 := hfaultX f b f1 f2 f3 f4
    have q2 : f_X12_read mt z_size z_token z_begin z_end z_tokens z_code fk fpl mn mb mnd mtp z_namesWas z_blocksWas z_nodeManyWas z_topWas z_waits z_dones z_opened mp md mx mtb z_text z_nameCodeWas mk z_nameBlockWas mnb z_blockManyWas mm z_blockAllWas ma z_kindWas mki z_leftWas mle z_rightWas mri z_wait z_done z_now mleaf z_fold mkept (nI n) = some ((-2), 0, (nI n), H2, H3, H4, H5, H6, (nI f), (nI b), mn, mb, mnd, mtp, mn, mb, mnd, mtp, z_waits, z_dones, z_opened, mp, md, mx, (cpy n (fun k => vp_nar .byte (mtb k)) z_text), (cpy 12 mk z_nameCodeWas), (cpy 12 (cpy 12 mk z_nameCodeWas) H12), (cpy 12 mnb z_nameBlockWas), (cpy 12 (cpy 12 mnb z_nameBlockWas) H13), (cpy 6 mm z_blockManyWas), (cpy 6 (cpy 6 mm z_blockManyWas) H14), (cpy 6 (fun k => vp_nar .boolean (ma k)) z_blockAllWas), (cpy 6 (fun k => vp_nar .boolean ((cpy 6 (fun k => vp_nar .boolean (ma k)) z_blockAllWas) k)) H11), (cpy 161 mki z_kindWas), (cpy 161 (cpy 161 mki z_kindWas) mki), (cpy 161 mle z_leftWas), (cpy 161 (cpy 161 mle z_leftWas) mle), (cpy 161 mri z_rightWas), (cpy 161 (cpy 161 mri z_rightWas) mri), z_wait, z_done, z_now, mleaf, z_fold, mkept) := by
      unfold f_X12_read
      rw [if_neg ha, if_pos hmle, text_ok hn6, lays_s, Option.bind_some]
      dsimp only
      rw [k2, Option.bind_some]
      dsimp only
      rw [k3, Option.bind_some]
      dsimp only
      rw [if_pos (c := b2i false = 0) (by decide), lays_r, Option.bind_some]
    exact ⟨_, _, _, _, _, _, _, _, _, _, _, _, _, _, _, _, _, _, _, _, _, _, _, _, _, _, _, _, _, _, _, _, _, _, _, _, _, _, _, _, _, _, _, _, _, _, _, _, _, _, _, _, _, _, _, _, _, _, _, _, _, _, _, _, _, _, _, _, _, _, _, _, _, _, _, _, _, _, _, _, _, _, _, _, q1, q2, fun _ => ⟨⟨0, by omega, rfl, rfl, fun k hk => absurd hk (by omega)⟩, h2, rfl, rfl, N, B, sz, nb, own, pl, dp, pv, M, T, e, x, blk_restore g1 _ _ _ _ _ _ _ _, g2, form_restore hN10 g3 _ _ _ _ _ _ _ _, g4⟩, fun z => absurd z (by decide)⟩

  dsimp only at f1 b1 b2
  subst f1
  obtain ⟨m1, m2, m3, m4, m5, m6, m7, m8, m9, m10, m11, m12, m13, m14, m15, m16, m17, m18⟩ := R'
  rcases b3 with ⟨f, b, f1, f2, f3, f4, f5, f6, f7⟩ | ⟨s1, s2, s3, s4, s5, s6, s7, s8, s9, s10, s11, M', T', e', kk', x', s12, s13, s14, s15, s16, s17, s18, s19, s20, s21, s22⟩
  · dsimp only at f3 f4 f5 f6 f7
    subst f5 f6 f7
    have q1 := hfaultX f b f1 f2 f3 f4
    have q2 : f_X12_read mt z_size z_token z_begin z_end z_tokens z_code fk fpl mn mb mnd mtp z_namesWas z_blocksWas z_nodeManyWas z_topWas z_waits z_dones z_opened mp md mx mtb z_text z_nameCodeWas mk z_nameBlockWas mnb z_blockManyWas mm z_blockAllWas ma z_kindWas mki z_leftWas mle z_rightWas mri z_wait z_done z_now mleaf z_fold mkept (nI n) = some ((-2), 0, (nI n), m2, m3, m4, m5, m6, (nI f), (nI b), mn, mb, mnd, mtp, mn, mb, mnd, mtp, m11, m12, m13, mp, md, mx, (cpy n (fun k => vp_nar .byte (mtb k)) z_text), (cpy 12 mk z_nameCodeWas), (cpy 12 (cpy 12 mk z_nameCodeWas) H12), (cpy 12 mnb z_nameBlockWas), (cpy 12 (cpy 12 mnb z_nameBlockWas) H13), (cpy 6 mm z_blockManyWas), (cpy 6 (cpy 6 mm z_blockManyWas) H14), (cpy 6 (fun k => vp_nar .boolean (ma k)) z_blockAllWas), (cpy 6 (fun k => vp_nar .boolean ((cpy 6 (fun k => vp_nar .boolean (ma k)) z_blockAllWas) k)) H11), (cpy 161 mki z_kindWas), (cpy 161 (cpy 161 mki z_kindWas) m16), (cpy 161 mle z_leftWas), (cpy 161 (cpy 161 mle z_leftWas) m17), (cpy 161 mri z_rightWas), (cpy 161 (cpy 161 mri z_rightWas) m18), m14, m15, z_now, mleaf, z_fold, mkept) := by
      unfold f_X12_read
      rw [if_neg ha, if_pos hmle, text_ok hn6, lays_s, Option.bind_some]
      dsimp only
      rw [k2, Option.bind_some]
      dsimp only
      rw [k3, Option.bind_some]
      dsimp only
      rw [if_neg (c := b2i true = 0) (by decide), b2, Option.bind_some]
      dsimp only
      rw [if_pos (c := b2i false = 0) (by decide), lays_r, Option.bind_some]
    exact ⟨_, _, _, _, _, _, _, _, _, _, _, _, _, _, _, _, _, _, _, _, _, _, _, _, _, _, _, _, _, _, _, _, _, _, _, _, _, _, _, _, _, _, _, _, _, _, _, _, _, _, _, _, _, _, _, _, _, _, _, _, _, _, _, _, _, _, _, _, _, _, _, _, _, _, _, _, _, _, _, _, _, _, _, _, q1, q2, fun _ => ⟨⟨0, by omega, rfl, rfl, fun k hk => absurd hk (by omega)⟩, h2, rfl, rfl, N, B, sz, nb, own, pl, dp, pv, M, T, e, x, blk_restore g1 _ _ _ _ _ _ _ _, g2, form_restore hN10 g3 _ _ _ _ _ _ _ _, g4⟩, fun z => absurd z (by decide)⟩

  · dsimp only at s1 s2 s3 s4 s5 s6 s7 s8 s9 s10 s11 s15 s16 s17 s18 s19 s20 s22
    have b1' := b1
    obtain ⟨c1, c2', c3, c4, c5, c6, c7, c8, c9⟩ := b1'
    subst s1 s2 s3 s5 s6 s7 s8
    subst s4 s9 s10 s11 s15 s16 s17 s18
    subst c3 c4 c6
    have hG := g_mono s12 s21
    have hM' := (g_facts hG).1
    obtain ⟨d', st', words', v1, v2⟩ := fill_ok c2' hM' s20 y_draft_table_depth y_draft_table_stack y_draft_table_words
    obtain ⟨now', leaf', fold', kept', w1, w2, w3, w4⟩ := tab_ok (nb := nb') (own := own') c2' c1 hG (fun k hk => ⟨(c8 k hk).2.2.1, (c8 k hk).2.2.2.1⟩) (fun b hb => (c7 b hb).2.2.2.1) s22 v2 z_now mleaf z_fold mkept
    have q1 : f_X11_read lf lp xts y_state y_scanner_end y_scanner_next y_scanner_start y_scanner_kind y_scanner_code y_draft_blocks_words y_draft_blocks_count y_draft_blocks_names y_draft_formula_length y_draft_formula_stepCount y_builder_waiting y_builder_operands y_builder_openSigns y_builder_openParens xtb y_draft_blocks_nameCodes y_draft_blocks_nameBlocks y_draft_blocks_sizes y_draft_blocks_owners y_builder_operators y_draft_formula_steps y_builder_levels y_builder_firsts y_builder_lasts y_draft_formula_opens y_draft_formula_closes y_builder_operatorPlaces y_draft_formula_symbols y_draft_table_depth y_draft_table_stack y_draft_table_words hb hn hv (nI n) = some ((nI B'), 0, (-1), 0, r2, r3, r4, r5, r6, r7, r8, (nI B'), (nI N'), (nI e'), (nI M'), r13, r14, r15, r16, r17, r18, r19, r20, r21, r22, r23, r24, r25, r26, r27, r28, r29, d', st', words', 0, 0, 0, true, true) := by
      unfold f_X11_read
      rw [if_neg ha, if_pos hxle, k1, Option.bind_some]
      unfold jn f_X6_exchange f_X4_clear
      dsimp only
      rw [if_pos (c := (0 : Int32) = 0) rfl, if_pos (c := (0 : Int32) = 0) rfl, Option.bind_some, v1, Option.bind_some]
      dsimp only
      rw [Option.bind_some]
    have q2 : f_X12_read mt z_size z_token z_begin z_end z_tokens z_code fk fpl mn mb mnd mtp z_namesWas z_blocksWas z_nodeManyWas z_topWas z_waits z_dones z_opened mp md mx mtb z_text z_nameCodeWas mk z_nameBlockWas mnb z_blockManyWas mm z_blockAllWas ma z_kindWas mki z_leftWas mle z_rightWas mri z_wait z_done z_now mleaf z_fold mkept (nI n) = some ((nI B'), 0, (nI n), m2, m3, m4, m5, m6, 0, (-1), (nI N'), (nI B'), (nI M'), (nI (eJ x')), mn, mb, mnd, mtp, m11, m12, m13, 0, 0, 0, (cpy n (fun k => vp_nar .byte (mtb k)) z_text), (cpy 12 mk z_nameCodeWas), H12, (cpy 12 mnb z_nameBlockWas), H13, (cpy 6 mm z_blockManyWas), H14, (cpy 6 (fun k => vp_nar .boolean (ma k)) z_blockAllWas), H11, (cpy 161 mki z_kindWas), m16, (cpy 161 mle z_leftWas), m17, (cpy 161 mri z_rightWas), m18, m14, m15, now', leaf', fold', kept') := by
      unfold f_X12_read
      rw [if_neg ha, if_pos hmle, text_ok hn6, lays_s, Option.bind_some]
      dsimp only
      rw [k2, Option.bind_some]
      dsimp only
      rw [k3, Option.bind_some]
      dsimp only
      rw [if_neg (c := b2i true = 0) (by decide), b2, Option.bind_some]
      dsimp only
      rw [if_neg (c := b2i true = 0) (by decide), w1, Option.bind_some]
      dsimp only
      rw [w2, Option.bind_some, w3, Option.bind_some]
    exact ⟨_, _, _, _, _, _, _, _, _, _, _, _, _, _, _, _, _, _, _, _, _, _, _, _, _, _, _, _, _, _, _, _, _, _, _, _, _, _, _, _, _, _, _, _, _, _, _, _, _, _, _, _, _, _, _, _, _, _, _, _, _, _, _, _, _, _, _, _, _, _, _, _, _, _, _, _, _, _, _, _, _, _, _, _, q1, q2, fun z => absurd z (by decide), fun _ => ⟨⟨0, by omega, rfl, rfl, fun k hk => absurd hk (by omega)⟩, h2, rfl, rfl, N', B', sz', nb', own', 0, 0, 0, M', T', e', x', b1, ⟨by omega, rfl, by decide, rfl, rfl, rfl, rfl, rfl, rfl, fun b hb => absurd hb (by omega)⟩, ⟨s13, s14, rfl, rfl, rfl, s19, hG, s22⟩, w4⟩⟩
