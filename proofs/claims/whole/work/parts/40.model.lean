def lp_X12_types_2 (y1_2 : Int32) : Nat → Int32 → Int32 → (Nat → Int32) → (Int32 → Int32 → (Nat → Int32) → Option (Int32 × (Nat → Int32))) → Option (Int32 × (Nat → Int32))
  | 0, _, _, _, _ => none
  | n_2 + 1, x2_2, v_taped_2, v_tape_2, K_2 =>
    if x2_2 < 0 then
    K_2 x2_2 v_taped_2 v_tape_2
    else
    (if ix v_taped_2 600 then
    lp_X12_types_2 y1_2 n_2 (x2_2 + (-1)) (v_taped_2 + (1 : Int32)) (upd v_tape_2 v_taped_2.toNatClampNeg (vp_nar .byte ((y1_2 >>> (((8 : Int32) * x2_2) &&& 31)).toInt8.toInt32))) K_2
    else none)
def f_X12_types (v_taped : Int32) (v_tape : Nat → Int32) (a1 : Int32) : Option (Int32 × (Nat → Int32)) :=
  lp_X12_types_2 a1 5000 3 v_taped v_tape (fun x2_2_3 v_taped_2_4 v_tape_2_5 => 
  some (v_taped_2_4, v_tape_2_5))
set_option maxHeartbeats 4000000 in
set_option maxRecDepth 100000 in
theorem c_X12_types (l : Launch) (g : GT) (h : Nat) (h_tape : Nat) (v_taped : Int32) (h_text : Nat) (v_size : Int32) (v_token : Int32) (v_begin : Int32) (v_end : Int32) (v_tokens : Int32) (v_code : Int32) (v_faultKind : Int32) (v_faultPlace : Int32) (v_names : Int32) (v_blocks : Int32) (h_nameCode : Nat) (h_nameBlock : Nat) (h_blockMany : Nat) (h_blockAll : Nat) (v_nodeMany : Int32) (v_top : Int32) (h_kind : Nat) (h_left : Nat) (h_right : Nat) (v_namesWas : Int32) (v_blocksWas : Int32) (v_nodeManyWas : Int32) (v_topWas : Int32) (h_nameCodeWas : Nat) (h_nameBlockWas : Nat) (h_blockManyWas : Nat) (h_blockAllWas : Nat) (h_kindWas : Nat) (h_leftWas : Nat) (h_rightWas : Nat) (h_wait : Nat) (h_done : Nat) (v_waits : Int32) (v_dones : Int32) (v_opened : Int32) (h_leaf : Nat) (h_fold : Nat) (h_kept : Nat) (h_now : Nat) (v_played : Int32) (v_depth : Int32) (v_prefix : Int32) (h_moveMade : Nat) (h_out : Nat) (v_written : Int32) (h_later : Nat) (v_laters : Int32) (v_tape : Nat → Int32) (a1 : Int32) (u_taped : Int32) (u_tape : Nat → Int32) (hf : f_X12_types v_taped v_tape a1 = some (u_taped, u_tape)) : Con l g yX12_types cX12_types 3 none ({ frames := 0, cells := 0, slots := 0, locals := 0 }) [.ref h, .int a1] [oX12 h h_tape v_taped h_text v_size v_token v_begin v_end v_tokens v_code v_faultKind v_faultPlace v_names v_blocks h_nameCode h_nameBlock h_blockMany h_blockAll v_nodeMany v_top h_kind h_left h_right v_namesWas v_blocksWas v_nodeManyWas v_topWas h_nameCodeWas h_nameBlockWas h_blockManyWas h_blockAllWas h_kindWas h_leftWas h_rightWas h_wait h_done v_waits v_dones v_opened h_leaf h_fold h_kept h_now v_played v_depth v_prefix h_moveMade h_out v_written h_later v_laters, aB g h_tape 600 v_tape] none [oX12 h h_tape u_taped h_text v_size v_token v_begin v_end v_tokens v_code v_faultKind v_faultPlace v_names v_blocks h_nameCode h_nameBlock h_blockMany h_blockAll v_nodeMany v_top h_kind h_left h_right v_namesWas v_blocksWas v_nodeManyWas v_topWas h_nameCodeWas h_nameBlockWas h_blockManyWas h_blockAllWas h_kindWas h_leftWas h_rightWas h_wait h_done v_waits v_dones v_opened h_leaf h_fold h_kept h_now v_played v_depth v_prefix h_moveMade h_out v_written h_later v_laters, aB g h_tape 600 u_tape] := by
  refine Con.of (by decide) (Nat.le_of_ble_eq_true rfl) ?_
  intro p e s m below meth c A ls hAe X hP hD hS hl
  obtain ⟨hx, hb, hml, hr, hown, hts, hlk, hnm, hA, hG, hZ⟩ := id X
  have hown : s.vm.findClass RX12 = some m.cls := hown
  have hl : lv_has ls 3 [(0, .ref h), (1, .int a1)] := hl
  unfold f_X12_types at hf
  refine lv_iconst (v := 3) hx hb dX12_types_0 (by decide) ?_
  refine lv_istore_n (lv' := [(2, .int 3), (0, .ref h), (1, .int a1)]) hx hb dX12_types_1 rfl hl (by decide) rfl (fun ls hl => ?_)
  have L_2 : ∀ (n : Nat) (x2_2 : Int32) (v_taped_2 : Int32) (v_tape_2 : Nat → Int32) (H : Heap) (locs : List Loc) (ls : Array Slot) (K_2 : Int32 → Int32 → (Nat → Int32) → Option (Int32 × (Nat → Int32))), va_P g.1 vwCl [oX12 h h_tape v_taped_2 h_text v_size v_token v_begin v_end v_tokens v_code v_faultKind v_faultPlace v_names v_blocks h_nameCode h_nameBlock h_blockMany h_blockAll v_nodeMany v_top h_kind h_left h_right v_namesWas v_blocksWas v_nodeManyWas v_topWas h_nameCodeWas h_nameBlockWas h_blockManyWas h_blockAllWas h_kindWas h_leftWas h_rightWas h_wait h_done v_waits v_dones v_opened h_leaf h_fold h_kept h_now v_played v_depth v_prefix h_moveMade h_out v_written h_later v_laters, aB g h_tape 600 v_tape_2] H → va_D A [oX12 h h_tape v_taped_2 h_text v_size v_token v_begin v_end v_tokens v_code v_faultKind v_faultPlace v_names v_blocks h_nameCode h_nameBlock h_blockMany h_blockAll v_nodeMany v_top h_kind h_left h_right v_namesWas v_blocksWas v_nodeManyWas v_topWas h_nameCodeWas h_nameBlockWas h_blockManyWas h_blockAllWas h_kindWas h_leftWas h_rightWas h_wait h_done v_waits v_dones v_opened h_leaf h_fold h_kept h_now v_played v_depth v_prefix h_moveMade h_out v_written h_later v_laters, aB g h_tape 600 v_tape_2] → va_S A s.heap H locs → lv_has ls 3 [(0, .ref h), (1, .int a1), (2, .int x2_2)] → (∀ (z_x2_2 : Int32) (z_v_taped_2 : Int32) (z_v_tape_2 : Nat → Int32) (H : Heap) (locs : List Loc) (ls : Array Slot), va_P g.1 vwCl [oX12 h h_tape z_v_taped_2 h_text v_size v_token v_begin v_end v_tokens v_code v_faultKind v_faultPlace v_names v_blocks h_nameCode h_nameBlock h_blockMany h_blockAll v_nodeMany v_top h_kind h_left h_right v_namesWas v_blocksWas v_nodeManyWas v_topWas h_nameCodeWas h_nameBlockWas h_blockManyWas h_blockAllWas h_kindWas h_leftWas h_rightWas h_wait h_done v_waits v_dones v_opened h_leaf h_fold h_kept h_now v_played v_depth v_prefix h_moveMade h_out v_written h_later v_laters, aB g h_tape 600 z_v_tape_2] H → va_D A [oX12 h h_tape z_v_taped_2 h_text v_size v_token v_begin v_end v_tokens v_code v_faultKind v_faultPlace v_names v_blocks h_nameCode h_nameBlock h_blockMany h_blockAll v_nodeMany v_top h_kind h_left h_right v_namesWas v_blocksWas v_nodeManyWas v_topWas h_nameCodeWas h_nameBlockWas h_blockManyWas h_blockAllWas h_kindWas h_leftWas h_rightWas h_wait h_done v_waits v_dones v_opened h_leaf h_fold h_kept h_now v_played v_depth v_prefix h_moveMade h_out v_written h_later v_laters, aB g h_tape 600 z_v_tape_2] → va_S A s.heap H locs → lv_has ls 3 [(0, .ref h), (1, .int a1), (2, .int z_x2_2)] → K_2 z_x2_2 z_v_taped_2 z_v_tape_2 = some (u_taped, u_tape) → W p l e ({ frames := 0, cells := 0, slots := 0, locals := 0 }) s m [.ref h, .int a1].toArray below meth c H locs 0 0 (MQ below (fun _ => QW g [oX12 h h_tape v_taped h_text v_size v_token v_begin v_end v_tokens v_code v_faultKind v_faultPlace v_names v_blocks h_nameCode h_nameBlock h_blockMany h_blockAll v_nodeMany v_top h_kind h_left h_right v_namesWas v_blocksWas v_nodeManyWas v_topWas h_nameCodeWas h_nameBlockWas h_blockManyWas h_blockAllWas h_kindWas h_leftWas h_rightWas h_wait h_done v_waits v_dones v_opened h_leaf h_fold h_kept h_now v_played v_depth v_prefix h_moveMade h_out v_written h_later v_laters, aB g h_tape 600 v_tape] s.heap.size none [oX12 h h_tape u_taped h_text v_size v_token v_begin v_end v_tokens v_code v_faultKind v_faultPlace v_names v_blocks h_nameCode h_nameBlock h_blockMany h_blockAll v_nodeMany v_top h_kind h_left h_right v_namesWas v_blocksWas v_nodeManyWas v_topWas h_nameCodeWas h_nameBlockWas h_blockManyWas h_blockAllWas h_kindWas h_leftWas h_rightWas h_wait h_done v_waits v_dones v_opened h_leaf h_fold h_kept h_now v_played v_depth v_prefix h_moveMade h_out v_written h_later v_laters, aB g h_tape 600 u_tape]) [.ref h, .int a1].toArray s 0 0 (va_A [oX12 h h_tape v_taped h_text v_size v_token v_begin v_end v_tokens v_code v_faultKind v_faultPlace v_names v_blocks h_nameCode h_nameBlock h_blockMany h_blockAll v_nodeMany v_top h_kind h_left h_right v_namesWas v_blocksWas v_nodeManyWas v_topWas h_nameCodeWas h_nameBlockWas h_blockManyWas h_blockAllWas h_kindWas h_leftWas h_rightWas h_wait h_done v_waits v_dones v_opened h_leaf h_fold h_kept h_now v_played v_depth v_prefix h_moveMade h_out v_written h_later v_laters, aB g h_tape 600 v_tape] s.heap.size)) (F0 m 38 ls [])) → lp_X12_types_2 a1 n x2_2 v_taped_2 v_tape_2 K_2 = some (u_taped, u_tape) → W p l e ({ frames := 0, cells := 0, slots := 0, locals := 0 }) s m [.ref h, .int a1].toArray below meth c H locs 0 0 (MQ below (fun _ => QW g [oX12 h h_tape v_taped h_text v_size v_token v_begin v_end v_tokens v_code v_faultKind v_faultPlace v_names v_blocks h_nameCode h_nameBlock h_blockMany h_blockAll v_nodeMany v_top h_kind h_left h_right v_namesWas v_blocksWas v_nodeManyWas v_topWas h_nameCodeWas h_nameBlockWas h_blockManyWas h_blockAllWas h_kindWas h_leftWas h_rightWas h_wait h_done v_waits v_dones v_opened h_leaf h_fold h_kept h_now v_played v_depth v_prefix h_moveMade h_out v_written h_later v_laters, aB g h_tape 600 v_tape] s.heap.size none [oX12 h h_tape u_taped h_text v_size v_token v_begin v_end v_tokens v_code v_faultKind v_faultPlace v_names v_blocks h_nameCode h_nameBlock h_blockMany h_blockAll v_nodeMany v_top h_kind h_left h_right v_namesWas v_blocksWas v_nodeManyWas v_topWas h_nameCodeWas h_nameBlockWas h_blockManyWas h_blockAllWas h_kindWas h_leftWas h_rightWas h_wait h_done v_waits v_dones v_opened h_leaf h_fold h_kept h_now v_played v_depth v_prefix h_moveMade h_out v_written h_later v_laters, aB g h_tape 600 u_tape]) [.ref h, .int a1].toArray s 0 0 (va_A [oX12 h h_tape v_taped h_text v_size v_token v_begin v_end v_tokens v_code v_faultKind v_faultPlace v_names v_blocks h_nameCode h_nameBlock h_blockMany h_blockAll v_nodeMany v_top h_kind h_left h_right v_namesWas v_blocksWas v_nodeManyWas v_topWas h_nameCodeWas h_nameBlockWas h_blockManyWas h_blockAllWas h_kindWas h_leftWas h_rightWas h_wait h_done v_waits v_dones v_opened h_leaf h_fold h_kept h_now v_played v_depth v_prefix h_moveMade h_out v_written h_later v_laters, aB g h_tape 600 v_tape] s.heap.size)) (F0 m 2 ls []) := by
    intro n
    induction n with
    | zero =>
      intro x2_2 v_taped_2 v_tape_2 H locs ls K_2 hP hD hS hl hk hf
      have hf : (none : Option (Int32 × (Nat → Int32))) = some _ := hf
      cases hf
    | succ n_2 ih_2 =>
      intro x2_2 v_taped_2 v_tape_2 H locs ls K_2 hP hD hS hl hk_2 hf
      refine lv_iload_n hx hb dX12_types_2 rfl (lv_at hl 2 rfl) ?_
      refine lv_if_lt (tgt := 38) hx hb dX12_types_3 (by decide) (fun c_6 => ?_) (fun c_6 => ?_)
      · have hf := ift hf c_6
        exact hk_2 x2_2 v_taped_2 v_tape_2 H locs ls hP hD hS (lv_sub hl [0, 1, 2] rfl) hf
      · have hf := iff_ hf c_6
        refine lv_aload_n hx hb dX12_types_6 rfl (lv_at hl 0 rfl) ?_
        refine gf_X12_7 X rfl hP 0 rfl rfl dX12_types_7 ?_
        refine lv_aload_n hx hb dX12_types_10 rfl (lv_at hl 0 rfl) ?_
        refine gf_X12_107 X rfl hP 0 rfl rfl dX12_types_11 ?_
        refine lv_iload_n hx hb dX12_types_14 rfl (lv_at hl 1 rfl) ?_
        refine lv_bipush (v := 8) hx hb dX12_types_15 (by decide) ?_
        refine lv_iload_n hx hb dX12_types_17 rfl (lv_at hl 2 rfl) ?_
        refine lv_imul hx hb dX12_types_18 ?_
        refine lv_ishr hx hb dX12_types_19 ?_
        refine lv_i2b (v := (a1 >>> (((8 : Int32) * x2_2) &&& 31)).toInt8.toInt32) hx hb dX12_types_20 rfl ?_
        obtain ⟨hi_7, hf⟩ := ifs hf
        refine va_bast (D := g.1) hx hb hG.1 hP hD hS 1 0 rfl rfl (ix_in hi_7) dX12_types_21 (fun H locs hP hD hS => ?_)
        have hP : va_P g.1 vwCl [oX12 h h_tape v_taped_2 h_text v_size v_token v_begin v_end v_tokens v_code v_faultKind v_faultPlace v_names v_blocks h_nameCode h_nameBlock h_blockMany h_blockAll v_nodeMany v_top h_kind h_left h_right v_namesWas v_blocksWas v_nodeManyWas v_topWas h_nameCodeWas h_nameBlockWas h_blockManyWas h_blockAllWas h_kindWas h_leftWas h_rightWas h_wait h_done v_waits v_dones v_opened h_leaf h_fold h_kept h_now v_played v_depth v_prefix h_moveMade h_out v_written h_later v_laters, aB g h_tape 600 (upd v_tape_2 v_taped_2.toNatClampNeg (vp_nar .byte ((a1 >>> (((8 : Int32) * x2_2) &&& 31)).toInt8.toInt32)))] H := hP
        have hD : va_D A [oX12 h h_tape v_taped_2 h_text v_size v_token v_begin v_end v_tokens v_code v_faultKind v_faultPlace v_names v_blocks h_nameCode h_nameBlock h_blockMany h_blockAll v_nodeMany v_top h_kind h_left h_right v_namesWas v_blocksWas v_nodeManyWas v_topWas h_nameCodeWas h_nameBlockWas h_blockManyWas h_blockAllWas h_kindWas h_leftWas h_rightWas h_wait h_done v_waits v_dones v_opened h_leaf h_fold h_kept h_now v_played v_depth v_prefix h_moveMade h_out v_written h_later v_laters, aB g h_tape 600 (upd v_tape_2 v_taped_2.toNatClampNeg (vp_nar .byte ((a1 >>> (((8 : Int32) * x2_2) &&& 31)).toInt8.toInt32)))] := hD
        refine lv_aload_n hx hb dX12_types_22 rfl (lv_at hl 0 rfl) ?_
        refine lv_aload_n hx hb dX12_types_23 rfl (lv_at hl 0 rfl) ?_
        refine gf_X12_107 X rfl hP 0 rfl rfl dX12_types_24 ?_
        refine lv_iconst (v := 1) hx hb dX12_types_27 (by decide) ?_
        refine lv_iadd hx hb dX12_types_28 ?_
        refine pf_X12_107 X rfl hP hD hS 0 rfl (Nat.le_of_ble_eq_true rfl) dX12_types_29 (fun H locs hP hD hS => ?_)
        have hP : va_P g.1 vwCl [oX12 h h_tape (v_taped_2 + (1 : Int32)) h_text v_size v_token v_begin v_end v_tokens v_code v_faultKind v_faultPlace v_names v_blocks h_nameCode h_nameBlock h_blockMany h_blockAll v_nodeMany v_top h_kind h_left h_right v_namesWas v_blocksWas v_nodeManyWas v_topWas h_nameCodeWas h_nameBlockWas h_blockManyWas h_blockAllWas h_kindWas h_leftWas h_rightWas h_wait h_done v_waits v_dones v_opened h_leaf h_fold h_kept h_now v_played v_depth v_prefix h_moveMade h_out v_written h_later v_laters, aB g h_tape 600 (upd v_tape_2 v_taped_2.toNatClampNeg (vp_nar .byte ((a1 >>> (((8 : Int32) * x2_2) &&& 31)).toInt8.toInt32)))] H := hP
        have hD : va_D A [oX12 h h_tape (v_taped_2 + (1 : Int32)) h_text v_size v_token v_begin v_end v_tokens v_code v_faultKind v_faultPlace v_names v_blocks h_nameCode h_nameBlock h_blockMany h_blockAll v_nodeMany v_top h_kind h_left h_right v_namesWas v_blocksWas v_nodeManyWas v_topWas h_nameCodeWas h_nameBlockWas h_blockManyWas h_blockAllWas h_kindWas h_leftWas h_rightWas h_wait h_done v_waits v_dones v_opened h_leaf h_fold h_kept h_now v_played v_depth v_prefix h_moveMade h_out v_written h_later v_laters, aB g h_tape 600 (upd v_tape_2 v_taped_2.toNatClampNeg (vp_nar .byte ((a1 >>> (((8 : Int32) * x2_2) &&& 31)).toInt8.toInt32)))] := hD
        refine lv_iinc (v := x2_2 + (-1)) (lv' := [(2, .int (x2_2 + (-1))), (0, .ref h), (1, .int a1)]) hx hb dX12_types_32 hl (k := 2) rfl rfl (by decide) rfl (fun ls hl => ?_)
        refine lv_goto (tgt := 2) hx hb dX12_types_35 (by decide) ?_
        exact ih_2 (x2_2 + (-1)) (v_taped_2 + (1 : Int32)) (upd v_tape_2 v_taped_2.toNatClampNeg (vp_nar .byte ((a1 >>> (((8 : Int32) * x2_2) &&& 31)).toInt8.toInt32))) H locs ls K_2 hP hD hS (lv_sub hl [1, 2, 0] rfl) hk_2 hf
  refine L_2 _ _ _ _ _ _ ls _ hP hD hS (lv_sub hl [1, 2, 0] rfl) (fun x2_2_3 v_taped_2_4 v_tape_2_5 H locs ls hP hD hS hl hf => ?_) hf
  cases hf
  exact ret_v X hAe hP hD hS rfl dX12_types_38
def f_X12_feed (v_taped : Int32) (v_tape : Nat → Int32) (a1 : Int32) (a2 : Int32) (a3 : Int32) (a4 : Int32) (a5 : Int32) : Option (Int32 × Int32 × (Nat → Int32)) :=
  if v_taped + (20 : Int32) ≤ 600 then
  ((f_X12_types v_taped v_tape a1).bind fun (v_taped_2, v_tape_3) =>
  (f_X12_types v_taped_2 v_tape_3 a2).bind fun (v_taped_5, v_tape_6) =>
  (f_X12_types v_taped_5 v_tape_6 a3).bind fun (v_taped_8, v_tape_9) =>
  (f_X12_types v_taped_8 v_tape_9 a4).bind fun (v_taped_11, v_tape_12) =>
  (f_X12_types v_taped_11 v_tape_12 a5).bind fun (v_taped_14, v_tape_15) =>
  some (v_taped_14, v_taped_14, v_tape_15))
  else
  some ((-1), v_taped, v_tape)
set_option maxHeartbeats 4000000 in
set_option maxRecDepth 100000 in
theorem c_X12_feed (l : Launch) (g : GT) (h : Nat) (h_tape : Nat) (v_taped : Int32) (h_text : Nat) (v_size : Int32) (v_token : Int32) (v_begin : Int32) (v_end : Int32) (v_tokens : Int32) (v_code : Int32) (v_faultKind : Int32) (v_faultPlace : Int32) (v_names : Int32) (v_blocks : Int32) (h_nameCode : Nat) (h_nameBlock : Nat) (h_blockMany : Nat) (h_blockAll : Nat) (v_nodeMany : Int32) (v_top : Int32) (h_kind : Nat) (h_left : Nat) (h_right : Nat) (v_namesWas : Int32) (v_blocksWas : Int32) (v_nodeManyWas : Int32) (v_topWas : Int32) (h_nameCodeWas : Nat) (h_nameBlockWas : Nat) (h_blockManyWas : Nat) (h_blockAllWas : Nat) (h_kindWas : Nat) (h_leftWas : Nat) (h_rightWas : Nat) (h_wait : Nat) (h_done : Nat) (v_waits : Int32) (v_dones : Int32) (v_opened : Int32) (h_leaf : Nat) (h_fold : Nat) (h_kept : Nat) (h_now : Nat) (v_played : Int32) (v_depth : Int32) (v_prefix : Int32) (h_moveMade : Nat) (h_out : Nat) (v_written : Int32) (h_later : Nat) (v_laters : Int32) (v_tape : Nat → Int32) (a1 : Int32) (a2 : Int32) (a3 : Int32) (a4 : Int32) (a5 : Int32) (r_ : Int32) (u_taped : Int32) (u_tape : Nat → Int32) (hf : f_X12_feed v_taped v_tape a1 a2 a3 a4 a5 = some (r_, u_taped, u_tape)) : Con l g yX12_feed cX12_feed 6 (some .int) ({ frames := 1, cells := 0, slots := 0, locals := 22 }) [.ref h, .int a1, .int a2, .int a3, .int a4, .int a5] [oX12 h h_tape v_taped h_text v_size v_token v_begin v_end v_tokens v_code v_faultKind v_faultPlace v_names v_blocks h_nameCode h_nameBlock h_blockMany h_blockAll v_nodeMany v_top h_kind h_left h_right v_namesWas v_blocksWas v_nodeManyWas v_topWas h_nameCodeWas h_nameBlockWas h_blockManyWas h_blockAllWas h_kindWas h_leftWas h_rightWas h_wait h_done v_waits v_dones v_opened h_leaf h_fold h_kept h_now v_played v_depth v_prefix h_moveMade h_out v_written h_later v_laters, aB g h_tape 600 v_tape] (some (.int r_)) [oX12 h h_tape u_taped h_text v_size v_token v_begin v_end v_tokens v_code v_faultKind v_faultPlace v_names v_blocks h_nameCode h_nameBlock h_blockMany h_blockAll v_nodeMany v_top h_kind h_left h_right v_namesWas v_blocksWas v_nodeManyWas v_topWas h_nameCodeWas h_nameBlockWas h_blockManyWas h_blockAllWas h_kindWas h_leftWas h_rightWas h_wait h_done v_waits v_dones v_opened h_leaf h_fold h_kept h_now v_played v_depth v_prefix h_moveMade h_out v_written h_later v_laters, aB g h_tape 600 u_tape] := by
  refine Con.of (by decide) (Nat.le_of_ble_eq_true rfl) ?_
  intro p e s m below meth c A ls hAe X hP hD hS hl
  obtain ⟨hx, hb, hml, hr, hown, hts, hlk, hnm, hA, hG, hZ⟩ := id X
  have hown : s.vm.findClass RX12 = some m.cls := hown
  have hl : lv_has ls 6 [(0, .ref h), (1, .int a1), (2, .int a2), (3, .int a3), (4, .int a4), (5, .int a5)] := hl
  unfold f_X12_feed at hf
  refine lv_aload_n hx hb dX12_feed_0 rfl (lv_at hl 0 rfl) ?_
  refine gf_X12_107 X rfl hP 0 rfl rfl dX12_feed_1 ?_
  refine lv_bipush (v := 20) hx hb dX12_feed_4 (by decide) ?_
  refine lv_iadd hx hb dX12_feed_6 ?_
  refine lv_sipush (v := 600) hx hb dX12_feed_7 (by decide) ?_
  refine lv_icmp_le (tgt := 15) hx hb dX12_feed_10 (by decide) (fun c_1 => ?_) (fun c_1 => ?_)
  · have hf := ift hf c_1
    refine lv_aload_n hx hb dX12_feed_15 rfl (lv_at hl 0 rfl) ?_
    refine lv_iload_n hx hb dX12_feed_16 rfl (lv_at hl 1 rfl) ?_
    obtain ⟨⟨v_taped_2, v_tape_3⟩, hf_4, hf⟩ := obind hf
    refine gcV (rest := []) (wn := [oX12 h h_tape v_taped_2 h_text v_size v_token v_begin v_end v_tokens v_code v_faultKind v_faultPlace v_names v_blocks h_nameCode h_nameBlock h_blockMany h_blockAll v_nodeMany v_top h_kind h_left h_right v_namesWas v_blocksWas v_nodeManyWas v_topWas h_nameCodeWas h_nameBlockWas h_blockManyWas h_blockAllWas h_kindWas h_leftWas h_rightWas h_wait h_done v_waits v_dones v_opened h_leaf h_fold h_kept h_now v_played v_depth v_prefix h_moveMade h_out v_written h_later v_laters, aB g h_tape 600 v_tape_3]) X hP hD hS hl (c_X12_types l g h h_tape v_taped h_text v_size v_token v_begin v_end v_tokens v_code v_faultKind v_faultPlace v_names v_blocks h_nameCode h_nameBlock h_blockMany h_blockAll v_nodeMany v_top h_kind h_left h_right v_namesWas v_blocksWas v_nodeManyWas v_topWas h_nameCodeWas h_nameBlockWas h_blockManyWas h_blockAllWas h_kindWas h_leftWas h_rightWas h_wait h_done v_waits v_dones v_opened h_leaf h_fold h_kept h_now v_played v_depth v_prefix h_moveMade h_out v_written h_later v_laters v_tape a1 v_taped_2 v_tape_3 hf_4) [0, 1] rfl rfl rfl [.inr 0, .inr 1] rfl rfl cd_X12_types rfl im_X12_types se_X12_types ml_X12_110 0 rfl rfl rfl rfl rfl ⟨(Nat.le_of_ble_eq_true rfl), (Nat.le_of_ble_eq_true rfl)⟩ rfl (Nat.le_of_ble_eq_true rfl) dX12_feed_17 ⟨(Nat.le_of_ble_eq_true rfl), (Nat.le_of_ble_eq_true rfl)⟩ (fun H locs hP hD hS => ?_)
    refine lv_aload_n hx hb dX12_feed_20 rfl (lv_at hl 0 rfl) ?_
    refine lv_iload_n hx hb dX12_feed_21 rfl (lv_at hl 2 rfl) ?_
    obtain ⟨⟨v_taped_5, v_tape_6⟩, hf_7, hf⟩ := obind hf
    refine gcV (rest := []) (wn := [oX12 h h_tape v_taped_5 h_text v_size v_token v_begin v_end v_tokens v_code v_faultKind v_faultPlace v_names v_blocks h_nameCode h_nameBlock h_blockMany h_blockAll v_nodeMany v_top h_kind h_left h_right v_namesWas v_blocksWas v_nodeManyWas v_topWas h_nameCodeWas h_nameBlockWas h_blockManyWas h_blockAllWas h_kindWas h_leftWas h_rightWas h_wait h_done v_waits v_dones v_opened h_leaf h_fold h_kept h_now v_played v_depth v_prefix h_moveMade h_out v_written h_later v_laters, aB g h_tape 600 v_tape_6]) X hP hD hS hl (c_X12_types l g h h_tape v_taped_2 h_text v_size v_token v_begin v_end v_tokens v_code v_faultKind v_faultPlace v_names v_blocks h_nameCode h_nameBlock h_blockMany h_blockAll v_nodeMany v_top h_kind h_left h_right v_namesWas v_blocksWas v_nodeManyWas v_topWas h_nameCodeWas h_nameBlockWas h_blockManyWas h_blockAllWas h_kindWas h_leftWas h_rightWas h_wait h_done v_waits v_dones v_opened h_leaf h_fold h_kept h_now v_played v_depth v_prefix h_moveMade h_out v_written h_later v_laters v_tape_3 a2 v_taped_5 v_tape_6 hf_7) [0, 1] rfl rfl rfl [.inr 0, .inr 1] rfl rfl cd_X12_types rfl im_X12_types se_X12_types ml_X12_110 0 rfl rfl rfl rfl rfl ⟨(Nat.le_of_ble_eq_true rfl), (Nat.le_of_ble_eq_true rfl)⟩ rfl (Nat.le_of_ble_eq_true rfl) dX12_feed_22 ⟨(Nat.le_of_ble_eq_true rfl), (Nat.le_of_ble_eq_true rfl)⟩ (fun H locs hP hD hS => ?_)
    refine lv_aload_n hx hb dX12_feed_25 rfl (lv_at hl 0 rfl) ?_
    refine lv_iload_n hx hb dX12_feed_26 rfl (lv_at hl 3 rfl) ?_
    obtain ⟨⟨v_taped_8, v_tape_9⟩, hf_10, hf⟩ := obind hf
    refine gcV (rest := []) (wn := [oX12 h h_tape v_taped_8 h_text v_size v_token v_begin v_end v_tokens v_code v_faultKind v_faultPlace v_names v_blocks h_nameCode h_nameBlock h_blockMany h_blockAll v_nodeMany v_top h_kind h_left h_right v_namesWas v_blocksWas v_nodeManyWas v_topWas h_nameCodeWas h_nameBlockWas h_blockManyWas h_blockAllWas h_kindWas h_leftWas h_rightWas h_wait h_done v_waits v_dones v_opened h_leaf h_fold h_kept h_now v_played v_depth v_prefix h_moveMade h_out v_written h_later v_laters, aB g h_tape 600 v_tape_9]) X hP hD hS hl (c_X12_types l g h h_tape v_taped_5 h_text v_size v_token v_begin v_end v_tokens v_code v_faultKind v_faultPlace v_names v_blocks h_nameCode h_nameBlock h_blockMany h_blockAll v_nodeMany v_top h_kind h_left h_right v_namesWas v_blocksWas v_nodeManyWas v_topWas h_nameCodeWas h_nameBlockWas h_blockManyWas h_blockAllWas h_kindWas h_leftWas h_rightWas h_wait h_done v_waits v_dones v_opened h_leaf h_fold h_kept h_now v_played v_depth v_prefix h_moveMade h_out v_written h_later v_laters v_tape_6 a3 v_taped_8 v_tape_9 hf_10) [0, 1] rfl rfl rfl [.inr 0, .inr 1] rfl rfl cd_X12_types rfl im_X12_types se_X12_types ml_X12_110 0 rfl rfl rfl rfl rfl ⟨(Nat.le_of_ble_eq_true rfl), (Nat.le_of_ble_eq_true rfl)⟩ rfl (Nat.le_of_ble_eq_true rfl) dX12_feed_27 ⟨(Nat.le_of_ble_eq_true rfl), (Nat.le_of_ble_eq_true rfl)⟩ (fun H locs hP hD hS => ?_)
    refine lv_aload_n hx hb dX12_feed_30 rfl (lv_at hl 0 rfl) ?_
    refine lv_iload hx hb dX12_feed_31 (lv_at hl 4 rfl) ?_
    obtain ⟨⟨v_taped_11, v_tape_12⟩, hf_13, hf⟩ := obind hf
    refine gcV (rest := []) (wn := [oX12 h h_tape v_taped_11 h_text v_size v_token v_begin v_end v_tokens v_code v_faultKind v_faultPlace v_names v_blocks h_nameCode h_nameBlock h_blockMany h_blockAll v_nodeMany v_top h_kind h_left h_right v_namesWas v_blocksWas v_nodeManyWas v_topWas h_nameCodeWas h_nameBlockWas h_blockManyWas h_blockAllWas h_kindWas h_leftWas h_rightWas h_wait h_done v_waits v_dones v_opened h_leaf h_fold h_kept h_now v_played v_depth v_prefix h_moveMade h_out v_written h_later v_laters, aB g h_tape 600 v_tape_12]) X hP hD hS hl (c_X12_types l g h h_tape v_taped_8 h_text v_size v_token v_begin v_end v_tokens v_code v_faultKind v_faultPlace v_names v_blocks h_nameCode h_nameBlock h_blockMany h_blockAll v_nodeMany v_top h_kind h_left h_right v_namesWas v_blocksWas v_nodeManyWas v_topWas h_nameCodeWas h_nameBlockWas h_blockManyWas h_blockAllWas h_kindWas h_leftWas h_rightWas h_wait h_done v_waits v_dones v_opened h_leaf h_fold h_kept h_now v_played v_depth v_prefix h_moveMade h_out v_written h_later v_laters v_tape_9 a4 v_taped_11 v_tape_12 hf_13) [0, 1] rfl rfl rfl [.inr 0, .inr 1] rfl rfl cd_X12_types rfl im_X12_types se_X12_types ml_X12_110 0 rfl rfl rfl rfl rfl ⟨(Nat.le_of_ble_eq_true rfl), (Nat.le_of_ble_eq_true rfl)⟩ rfl (Nat.le_of_ble_eq_true rfl) dX12_feed_33 ⟨(Nat.le_of_ble_eq_true rfl), (Nat.le_of_ble_eq_true rfl)⟩ (fun H locs hP hD hS => ?_)
    refine lv_aload_n hx hb dX12_feed_36 rfl (lv_at hl 0 rfl) ?_
    refine lv_iload hx hb dX12_feed_37 (lv_at hl 5 rfl) ?_
    obtain ⟨⟨v_taped_14, v_tape_15⟩, hf_16, hf⟩ := obind hf
    refine gcV (rest := []) (wn := [oX12 h h_tape v_taped_14 h_text v_size v_token v_begin v_end v_tokens v_code v_faultKind v_faultPlace v_names v_blocks h_nameCode h_nameBlock h_blockMany h_blockAll v_nodeMany v_top h_kind h_left h_right v_namesWas v_blocksWas v_nodeManyWas v_topWas h_nameCodeWas h_nameBlockWas h_blockManyWas h_blockAllWas h_kindWas h_leftWas h_rightWas h_wait h_done v_waits v_dones v_opened h_leaf h_fold h_kept h_now v_played v_depth v_prefix h_moveMade h_out v_written h_later v_laters, aB g h_tape 600 v_tape_15]) X hP hD hS hl (c_X12_types l g h h_tape v_taped_11 h_text v_size v_token v_begin v_end v_tokens v_code v_faultKind v_faultPlace v_names v_blocks h_nameCode h_nameBlock h_blockMany h_blockAll v_nodeMany v_top h_kind h_left h_right v_namesWas v_blocksWas v_nodeManyWas v_topWas h_nameCodeWas h_nameBlockWas h_blockManyWas h_blockAllWas h_kindWas h_leftWas h_rightWas h_wait h_done v_waits v_dones v_opened h_leaf h_fold h_kept h_now v_played v_depth v_prefix h_moveMade h_out v_written h_later v_laters v_tape_12 a5 v_taped_14 v_tape_15 hf_16) [0, 1] rfl rfl rfl [.inr 0, .inr 1] rfl rfl cd_X12_types rfl im_X12_types se_X12_types ml_X12_110 0 rfl rfl rfl rfl rfl ⟨(Nat.le_of_ble_eq_true rfl), (Nat.le_of_ble_eq_true rfl)⟩ rfl (Nat.le_of_ble_eq_true rfl) dX12_feed_39 ⟨(Nat.le_of_ble_eq_true rfl), (Nat.le_of_ble_eq_true rfl)⟩ (fun H locs hP hD hS => ?_)
    refine lv_aload_n hx hb dX12_feed_42 rfl (lv_at hl 0 rfl) ?_
    refine gf_X12_107 X rfl hP 0 rfl rfl dX12_feed_43 ?_
    cases hf
    exact ret_i X hAe hP hD hS rfl dX12_feed_46
  · have hf := iff_ hf c_1
    refine lv_iconst (v := (-1)) hx hb dX12_feed_13 (by decide) ?_
    cases hf
    exact ret_i X hAe hP hD hS rfl dX12_feed_14
def f_X12_at (v_size : Int32) (v_text : Nat → Int32) (a1 : Int32) : Option (Int32) :=
  if v_size ≤ a1 then
  some 0
  else
  (if ix a1 601 then
  some ((v_text a1.toNatClampNeg) &&& (255 : Int32))
  else none)
set_option maxHeartbeats 4000000 in
set_option maxRecDepth 100000 in
theorem c_X12_at (l : Launch) (g : GT) (h : Nat) (h_tape : Nat) (v_taped : Int32) (h_text : Nat) (v_size : Int32) (v_token : Int32) (v_begin : Int32) (v_end : Int32) (v_tokens : Int32) (v_code : Int32) (v_faultKind : Int32) (v_faultPlace : Int32) (v_names : Int32) (v_blocks : Int32) (h_nameCode : Nat) (h_nameBlock : Nat) (h_blockMany : Nat) (h_blockAll : Nat) (v_nodeMany : Int32) (v_top : Int32) (h_kind : Nat) (h_left : Nat) (h_right : Nat) (v_namesWas : Int32) (v_blocksWas : Int32) (v_nodeManyWas : Int32) (v_topWas : Int32) (h_nameCodeWas : Nat) (h_nameBlockWas : Nat) (h_blockManyWas : Nat) (h_blockAllWas : Nat) (h_kindWas : Nat) (h_leftWas : Nat) (h_rightWas : Nat) (h_wait : Nat) (h_done : Nat) (v_waits : Int32) (v_dones : Int32) (v_opened : Int32) (h_leaf : Nat) (h_fold : Nat) (h_kept : Nat) (h_now : Nat) (v_played : Int32) (v_depth : Int32) (v_prefix : Int32) (h_moveMade : Nat) (h_out : Nat) (v_written : Int32) (h_later : Nat) (v_laters : Int32) (v_text : Nat → Int32) (a1 : Int32) (r_ : Int32) (hf : f_X12_at v_size v_text a1 = some r_) : Con l g yX12_at cX12_at 2 (some .int) ({ frames := 0, cells := 0, slots := 0, locals := 0 }) [.ref h, .int a1] [oX12 h h_tape v_taped h_text v_size v_token v_begin v_end v_tokens v_code v_faultKind v_faultPlace v_names v_blocks h_nameCode h_nameBlock h_blockMany h_blockAll v_nodeMany v_top h_kind h_left h_right v_namesWas v_blocksWas v_nodeManyWas v_topWas h_nameCodeWas h_nameBlockWas h_blockManyWas h_blockAllWas h_kindWas h_leftWas h_rightWas h_wait h_done v_waits v_dones v_opened h_leaf h_fold h_kept h_now v_played v_depth v_prefix h_moveMade h_out v_written h_later v_laters, aB g h_text 601 v_text] (some (.int r_)) [oX12 h h_tape v_taped h_text v_size v_token v_begin v_end v_tokens v_code v_faultKind v_faultPlace v_names v_blocks h_nameCode h_nameBlock h_blockMany h_blockAll v_nodeMany v_top h_kind h_left h_right v_namesWas v_blocksWas v_nodeManyWas v_topWas h_nameCodeWas h_nameBlockWas h_blockManyWas h_blockAllWas h_kindWas h_leftWas h_rightWas h_wait h_done v_waits v_dones v_opened h_leaf h_fold h_kept h_now v_played v_depth v_prefix h_moveMade h_out v_written h_later v_laters, aB g h_text 601 v_text] := by
  refine Con.of (by decide) (Nat.le_of_ble_eq_true rfl) ?_
  intro p e s m below meth c A ls hAe X hP hD hS hl
  obtain ⟨hx, hb, hml, hr, hown, hts, hlk, hnm, hA, hG, hZ⟩ := id X
  have hown : s.vm.findClass RX12 = some m.cls := hown
  have hl : lv_has ls 2 [(0, .ref h), (1, .int a1)] := hl
  unfold f_X12_at at hf
  refine lv_iload_n hx hb dX12_at_0 rfl (lv_at hl 1 rfl) ?_
  refine lv_aload_n hx hb dX12_at_1 rfl (lv_at hl 0 rfl) ?_
  refine gf_X12_114 X rfl hP 0 rfl rfl dX12_at_2 ?_
  refine lv_icmp_ge (tgt := 21) hx hb dX12_at_5 (by decide) (fun c_1 => ?_) (fun c_1 => ?_)
  · have hf := ift hf c_1
    refine lv_iconst (v := 0) hx hb dX12_at_21 (by decide) ?_
    cases hf
    exact ret_i X hAe hP hD hS rfl dX12_at_22
  · have hf := iff_ hf c_1
    refine lv_aload_n hx hb dX12_at_8 rfl (lv_at hl 0 rfl) ?_
    refine gf_X12_13 X rfl hP 0 rfl rfl dX12_at_9 ?_
    refine lv_iload_n hx hb dX12_at_12 rfl (lv_at hl 1 rfl) ?_
    obtain ⟨hi_2, hf⟩ := ifs hf
    refine va_bald (D := g.1) hx hb hG.1 hP 1 0 rfl rfl (ix_in hi_2) dX12_at_13 ?_
    refine lv_sipush (v := 255) hx hb dX12_at_14 (by decide) ?_
    refine lv_iand hx hb dX12_at_17 ?_
    refine lv_goto (tgt := 22) hx hb dX12_at_18 (by decide) ?_
    cases hf
    exact ret_i X hAe hP hD hS rfl dX12_at_22
def f_X12_isSmall (a1 : Int32) : Option (Bool) :=
  if a1 < 97 then
  some false
  else
  (if 122 < a1 then
  some false
  else
  some true)
set_option maxHeartbeats 4000000 in
set_option maxRecDepth 100000 in
theorem c_X12_isSmall (l : Launch) (g : GT) (a1 : Int32) (r_ : Bool) (hf : f_X12_isSmall a1 = some r_) : Con l g yX12_isSmall cX12_isSmall 1 (some .boolean) ({ frames := 0, cells := 0, slots := 0, locals := 0 }) [.int a1] [] (some (.int (b2i r_))) [] := by
  refine Con.of (by decide) (Nat.le_of_ble_eq_true rfl) ?_
  intro p e s m below meth c A ls hAe X hP hD hS hl
  obtain ⟨hx, hb, hml, hr, hown, hts, hlk, hnm, hA, hG, hZ⟩ := id X
  have hown : s.vm.findClass RX12 = some m.cls := hown
  have hl : lv_has ls 1 [(0, .int a1)] := hl
  unfold f_X12_isSmall at hf
  refine lv_iload_n hx hb dX12_isSmall_0 rfl (lv_at hl 0 rfl) ?_
  refine lv_bipush (v := 97) hx hb dX12_isSmall_1 (by decide) ?_
  refine lv_icmp_lt (tgt := 16) hx hb dX12_isSmall_3 (by decide) (fun c_1 => ?_) (fun c_1 => ?_)
  · have hf := ift hf c_1
    refine lv_iconst (v := 0) hx hb dX12_isSmall_16 (by decide) ?_
    cases hf
    exact ret_z (v := false) X hAe hP hD hS rfl dX12_isSmall_17
  · have hf := iff_ hf c_1
    refine lv_iload_n hx hb dX12_isSmall_6 rfl (lv_at hl 0 rfl) ?_
    refine lv_bipush (v := 122) hx hb dX12_isSmall_7 (by decide) ?_
    refine lv_icmp_gt (tgt := 16) hx hb dX12_isSmall_9 (by decide) (fun c_2 => ?_) (fun c_2 => ?_)
    · have hf := ift hf c_2
      refine lv_iconst (v := 0) hx hb dX12_isSmall_16 (by decide) ?_
      cases hf
      exact ret_z (v := false) X hAe hP hD hS rfl dX12_isSmall_17
    · have hf := iff_ hf c_2
      refine lv_iconst (v := 1) hx hb dX12_isSmall_12 (by decide) ?_
      refine lv_goto (tgt := 17) hx hb dX12_isSmall_13 (by decide) ?_
      cases hf
      exact ret_z (v := true) X hAe hP hD hS rfl dX12_isSmall_17
def f_X12_isDigit (a1 : Int32) : Option (Bool) :=
  if a1 < 48 then
  some false
  else
  (if 57 < a1 then
  some false
  else
  some true)
set_option maxHeartbeats 4000000 in
set_option maxRecDepth 100000 in
theorem c_X12_isDigit (l : Launch) (g : GT) (a1 : Int32) (r_ : Bool) (hf : f_X12_isDigit a1 = some r_) : Con l g yX12_isDigit cX12_isDigit 1 (some .boolean) ({ frames := 0, cells := 0, slots := 0, locals := 0 }) [.int a1] [] (some (.int (b2i r_))) [] := by
  refine Con.of (by decide) (Nat.le_of_ble_eq_true rfl) ?_
  intro p e s m below meth c A ls hAe X hP hD hS hl
  obtain ⟨hx, hb, hml, hr, hown, hts, hlk, hnm, hA, hG, hZ⟩ := id X
  have hown : s.vm.findClass RX12 = some m.cls := hown
  have hl : lv_has ls 1 [(0, .int a1)] := hl
  unfold f_X12_isDigit at hf
  refine lv_iload_n hx hb dX12_isDigit_0 rfl (lv_at hl 0 rfl) ?_
  refine lv_bipush (v := 48) hx hb dX12_isDigit_1 (by decide) ?_
  refine lv_icmp_lt (tgt := 16) hx hb dX12_isDigit_3 (by decide) (fun c_1 => ?_) (fun c_1 => ?_)
  · have hf := ift hf c_1
    refine lv_iconst (v := 0) hx hb dX12_isDigit_16 (by decide) ?_
    cases hf
    exact ret_z (v := false) X hAe hP hD hS rfl dX12_isDigit_17
  · have hf := iff_ hf c_1
    refine lv_iload_n hx hb dX12_isDigit_6 rfl (lv_at hl 0 rfl) ?_
    refine lv_bipush (v := 57) hx hb dX12_isDigit_7 (by decide) ?_
    refine lv_icmp_gt (tgt := 16) hx hb dX12_isDigit_9 (by decide) (fun c_2 => ?_) (fun c_2 => ?_)
    · have hf := ift hf c_2
      refine lv_iconst (v := 0) hx hb dX12_isDigit_16 (by decide) ?_
      cases hf
      exact ret_z (v := false) X hAe hP hD hS rfl dX12_isDigit_17
    · have hf := iff_ hf c_2
      refine lv_iconst (v := 1) hx hb dX12_isDigit_12 (by decide) ?_
      refine lv_goto (tgt := 17) hx hb dX12_isDigit_13 (by decide) ?_
      cases hf
      exact ret_z (v := true) X hAe hP hD hS rfl dX12_isDigit_17
def f_X12_isWordByte (a1 : Int32) : Option (Bool) :=
  (f_X12_isSmall a1).bind fun r_1 =>
  if b2i r_1 = 0 then
  ((f_X12_isDigit a1).bind fun r_4 =>
  if b2i r_4 = 0 then
  (if a1 < 65 then
  some false
  else
  (if 90 < a1 then
  some false
  else
  some true))
  else
  some true)
  else
  some true
set_option maxHeartbeats 4000000 in
set_option maxRecDepth 100000 in
theorem c_X12_isWordByte (l : Launch) (g : GT) (a1 : Int32) (r_ : Bool) (hf : f_X12_isWordByte a1 = some r_) : Con l g yX12_isWordByte cX12_isWordByte 1 (some .boolean) ({ frames := 1, cells := 0, slots := 0, locals := 20 }) [.int a1] [] (some (.int (b2i r_))) [] := by
  refine Con.of (by decide) (Nat.le_of_ble_eq_true rfl) ?_
  intro p e s m below meth c A ls hAe X hP hD hS hl
  obtain ⟨hx, hb, hml, hr, hown, hts, hlk, hnm, hA, hG, hZ⟩ := id X
  have hown : s.vm.findClass RX12 = some m.cls := hown
  have hl : lv_has ls 1 [(0, .int a1)] := hl
  unfold f_X12_isWordByte at hf
  refine lv_iload_n hx hb dX12_isWordByte_0 rfl (lv_at hl 0 rfl) ?_
  obtain ⟨r_1, hf_2, hf⟩ := obind hf
  refine gcS (rest := []) (wn := []) X hP hD hS hl (c_X12_isSmall l g a1 r_1 hf_2) [] rfl rfl rfl [] rfl rfl cd_X12_isSmall rfl st_X12_isSmall ml_X12_117 rfl rfl ⟨(Nat.le_of_ble_eq_true rfl), (Nat.le_of_ble_eq_true rfl)⟩ rfl (Nat.le_of_ble_eq_true rfl) dX12_isWordByte_1 ⟨(Nat.le_of_ble_eq_true rfl), (Nat.le_of_ble_eq_true rfl)⟩ (fun H locs hP hD hS => ?_)
  refine lv_if_ne (tgt := 26) hx hb dX12_isWordByte_4 (by decide) (fun c_3 => ?_) (fun c_3 => ?_)
  · have hf := iff_ hf c_3
    refine lv_iconst (v := 1) hx hb dX12_isWordByte_26 (by decide) ?_
    refine lv_goto (tgt := 31) hx hb dX12_isWordByte_27 (by decide) ?_
    cases hf
    exact ret_z (v := true) X hAe hP hD hS rfl dX12_isWordByte_31
  · have hf := ift hf c_3
    refine lv_iload_n hx hb dX12_isWordByte_7 rfl (lv_at hl 0 rfl) ?_
    obtain ⟨r_4, hf_5, hf⟩ := obind hf
    refine gcS (rest := []) (wn := []) X hP hD hS hl (c_X12_isDigit l g a1 r_4 hf_5) [] rfl rfl rfl [] rfl rfl cd_X12_isDigit rfl st_X12_isDigit ml_X12_121 rfl rfl ⟨(Nat.le_of_ble_eq_true rfl), (Nat.le_of_ble_eq_true rfl)⟩ rfl (Nat.le_of_ble_eq_true rfl) dX12_isWordByte_8 ⟨(Nat.le_of_ble_eq_true rfl), (Nat.le_of_ble_eq_true rfl)⟩ (fun H locs hP hD hS => ?_)
    refine lv_if_ne (tgt := 26) hx hb dX12_isWordByte_11 (by decide) (fun c_6 => ?_) (fun c_6 => ?_)
    · have hf := iff_ hf c_6
      refine lv_iconst (v := 1) hx hb dX12_isWordByte_26 (by decide) ?_
      refine lv_goto (tgt := 31) hx hb dX12_isWordByte_27 (by decide) ?_
      cases hf
      exact ret_z (v := true) X hAe hP hD hS rfl dX12_isWordByte_31
    · have hf := ift hf c_6
      refine lv_iload_n hx hb dX12_isWordByte_14 rfl (lv_at hl 0 rfl) ?_
      refine lv_bipush (v := 65) hx hb dX12_isWordByte_15 (by decide) ?_
      refine lv_icmp_lt (tgt := 30) hx hb dX12_isWordByte_17 (by decide) (fun c_7 => ?_) (fun c_7 => ?_)
      · have hf := ift hf c_7
        refine lv_iconst (v := 0) hx hb dX12_isWordByte_30 (by decide) ?_
        cases hf
        exact ret_z (v := false) X hAe hP hD hS rfl dX12_isWordByte_31
      · have hf := iff_ hf c_7
        refine lv_iload_n hx hb dX12_isWordByte_20 rfl (lv_at hl 0 rfl) ?_
        refine lv_bipush (v := 90) hx hb dX12_isWordByte_21 (by decide) ?_
        refine lv_icmp_gt (tgt := 30) hx hb dX12_isWordByte_23 (by decide) (fun c_8 => ?_) (fun c_8 => ?_)
        · have hf := ift hf c_8
          refine lv_iconst (v := 0) hx hb dX12_isWordByte_30 (by decide) ?_
          cases hf
          exact ret_z (v := false) X hAe hP hD hS rfl dX12_isWordByte_31
        · have hf := iff_ hf c_8
          refine lv_iconst (v := 1) hx hb dX12_isWordByte_26 (by decide) ?_
          refine lv_goto (tgt := 31) hx hb dX12_isWordByte_27 (by decide) ?_
          cases hf
          exact ret_z (v := true) X hAe hP hD hS rfl dX12_isWordByte_31
def f_X12_word (v_size : Int32) (v_token : Int32) (v_code : Int32) (v_text : Nat → Int32) (a1 : Int32) (a2 : Int32) : Option (Int32 × Int32) :=
  (f_X12_at v_size v_text a1).bind fun r_1 =>
  (f_X12_at v_size v_text (a1 + (1 : Int32))).bind fun r_3 =>
  jn (κ := Option (Int32 × Int32)) ((f_X12_isSmall r_1).bind fun r_5 =>
  jn (κ := Option (Int32 × Int32)) (jn (κ := Option (Int32 × Int32)) (if a2 = 3 then
  (if r_1 = 97 then
  (if r_3 = 108 then
  ((f_X12_at v_size v_text (a1 + (2 : Int32))).bind fun r_10 =>
  if r_10 = 108 then
  some (97, v_code)
  else
  some (63, v_code))
  else
  some (63, v_code))
  else
  some (63, v_code))
  else
  some (63, v_code)) fun j_157 =>
  if a2 = 4 then
  (if r_1 = 115 then
  (if r_3 = 111 then
  ((f_X12_at v_size v_text (a1 + (2 : Int32))).bind fun r_16 =>
  if r_16 = 109 then
  ((f_X12_at v_size v_text (a1 + (3 : Int32))).bind fun r_19 =>
  if r_19 = 101 then
  some (115, v_code)
  else
  j_157)
  else
  j_157)
  else
  j_157)
  else
  j_157)
  else
  j_157) fun j_106 =>
  if b2i r_5 = 0 then
  j_106
  else
  (jn (κ := Option (Int32 × Int32)) (if a2 = 1 then
  some (110, r_1)
  else
  some (110, r_1 + ((256 : Int32) * ((r_3 - (48 : Int32)) + (1 : Int32))))) fun j_71 =>
  if a2 = 1 then
  j_71
  else
  (if a2 = 2 then
  ((f_X12_isDigit r_3).bind fun r_26 =>
  if b2i r_26 = 0 then
  j_106
  else
  j_71)
  else
  j_106))) fun j_46 =>
  if a2 = 1 then
  (if r_1 = 48 then
  some (r_1, v_code)
  else
  (if r_1 = 49 then
  some (r_1, v_code)
  else
  j_46))
  else
  j_46
set_option maxHeartbeats 4000000 in
set_option maxRecDepth 100000 in
theorem c_X12_word (l : Launch) (g : GT) (h : Nat) (h_tape : Nat) (v_taped : Int32) (h_text : Nat) (v_size : Int32) (v_token : Int32) (v_begin : Int32) (v_end : Int32) (v_tokens : Int32) (v_code : Int32) (v_faultKind : Int32) (v_faultPlace : Int32) (v_names : Int32) (v_blocks : Int32) (h_nameCode : Nat) (h_nameBlock : Nat) (h_blockMany : Nat) (h_blockAll : Nat) (v_nodeMany : Int32) (v_top : Int32) (h_kind : Nat) (h_left : Nat) (h_right : Nat) (v_namesWas : Int32) (v_blocksWas : Int32) (v_nodeManyWas : Int32) (v_topWas : Int32) (h_nameCodeWas : Nat) (h_nameBlockWas : Nat) (h_blockManyWas : Nat) (h_blockAllWas : Nat) (h_kindWas : Nat) (h_leftWas : Nat) (h_rightWas : Nat) (h_wait : Nat) (h_done : Nat) (v_waits : Int32) (v_dones : Int32) (v_opened : Int32) (h_leaf : Nat) (h_fold : Nat) (h_kept : Nat) (h_now : Nat) (v_played : Int32) (v_depth : Int32) (v_prefix : Int32) (h_moveMade : Nat) (h_out : Nat) (v_written : Int32) (h_later : Nat) (v_laters : Int32) (v_text : Nat → Int32) (a1 : Int32) (a2 : Int32) (u_token : Int32) (u_code : Int32) (hf : f_X12_word v_size v_token v_code v_text a1 a2 = some (u_token, u_code)) : Con l g yX12_word cX12_word 5 none ({ frames := 1, cells := 0, slots := 0, locals := 21 }) [.ref h, .int a1, .int a2] [oX12 h h_tape v_taped h_text v_size v_token v_begin v_end v_tokens v_code v_faultKind v_faultPlace v_names v_blocks h_nameCode h_nameBlock h_blockMany h_blockAll v_nodeMany v_top h_kind h_left h_right v_namesWas v_blocksWas v_nodeManyWas v_topWas h_nameCodeWas h_nameBlockWas h_blockManyWas h_blockAllWas h_kindWas h_leftWas h_rightWas h_wait h_done v_waits v_dones v_opened h_leaf h_fold h_kept h_now v_played v_depth v_prefix h_moveMade h_out v_written h_later v_laters, aB g h_text 601 v_text] none [oX12 h h_tape v_taped h_text v_size u_token v_begin v_end v_tokens u_code v_faultKind v_faultPlace v_names v_blocks h_nameCode h_nameBlock h_blockMany h_blockAll v_nodeMany v_top h_kind h_left h_right v_namesWas v_blocksWas v_nodeManyWas v_topWas h_nameCodeWas h_nameBlockWas h_blockManyWas h_blockAllWas h_kindWas h_leftWas h_rightWas h_wait h_done v_waits v_dones v_opened h_leaf h_fold h_kept h_now v_played v_depth v_prefix h_moveMade h_out v_written h_later v_laters, aB g h_text 601 v_text] := by
  refine Con.of (by decide) (Nat.le_of_ble_eq_true rfl) ?_
  intro p e s m below meth c A ls hAe X hP hD hS hl
  obtain ⟨hx, hb, hml, hr, hown, hts, hlk, hnm, hA, hG, hZ⟩ := id X
  have hown : s.vm.findClass RX12 = some m.cls := hown
  have hl : lv_has ls 5 [(0, .ref h), (1, .int a1), (2, .int a2)] := hl
  unfold f_X12_word at hf
  refine lv_aload_n hx hb dX12_word_0 rfl (lv_at hl 0 rfl) ?_
  refine lv_iload_n hx hb dX12_word_1 rfl (lv_at hl 1 rfl) ?_
  obtain ⟨r_1, hf_2, hf⟩ := obind hf
  refine gcV (rest := []) (wn := [oX12 h h_tape v_taped h_text v_size v_token v_begin v_end v_tokens v_code v_faultKind v_faultPlace v_names v_blocks h_nameCode h_nameBlock h_blockMany h_blockAll v_nodeMany v_top h_kind h_left h_right v_namesWas v_blocksWas v_nodeManyWas v_topWas h_nameCodeWas h_nameBlockWas h_blockManyWas h_blockAllWas h_kindWas h_leftWas h_rightWas h_wait h_done v_waits v_dones v_opened h_leaf h_fold h_kept h_now v_played v_depth v_prefix h_moveMade h_out v_written h_later v_laters, aB g h_text 601 v_text]) X hP hD hS hl (c_X12_at l g h h_tape v_taped h_text v_size v_token v_begin v_end v_tokens v_code v_faultKind v_faultPlace v_names v_blocks h_nameCode h_nameBlock h_blockMany h_blockAll v_nodeMany v_top h_kind h_left h_right v_namesWas v_blocksWas v_nodeManyWas v_topWas h_nameCodeWas h_nameBlockWas h_blockManyWas h_blockAllWas h_kindWas h_leftWas h_rightWas h_wait h_done v_waits v_dones v_opened h_leaf h_fold h_kept h_now v_played v_depth v_prefix h_moveMade h_out v_written h_later v_laters v_text a1 r_1 hf_2) [0, 1] rfl rfl rfl [.inr 0, .inr 1] rfl rfl cd_X12_at rfl im_X12_at se_X12_at ml_X12_127 0 rfl rfl rfl rfl rfl ⟨(Nat.le_of_ble_eq_true rfl), (Nat.le_of_ble_eq_true rfl)⟩ rfl (Nat.le_of_ble_eq_true rfl) dX12_word_2 ⟨(Nat.le_of_ble_eq_true rfl), (Nat.le_of_ble_eq_true rfl)⟩ (fun H locs hP hD hS => ?_)
  refine lv_istore_n (lv' := [(3, .int r_1), (0, .ref h), (1, .int a1), (2, .int a2)]) hx hb dX12_word_5 rfl hl (by decide) rfl (fun ls hl => ?_)
  refine lv_aload_n hx hb dX12_word_6 rfl (lv_at hl 1 rfl) ?_
  refine lv_iload_n hx hb dX12_word_7 rfl (lv_at hl 2 rfl) ?_
  refine lv_iconst (v := 1) hx hb dX12_word_8 (by decide) ?_
  refine lv_iadd hx hb dX12_word_9 ?_
  obtain ⟨r_3, hf_4, hf⟩ := obind hf
  refine gcV (rest := []) (wn := [oX12 h h_tape v_taped h_text v_size v_token v_begin v_end v_tokens v_code v_faultKind v_faultPlace v_names v_blocks h_nameCode h_nameBlock h_blockMany h_blockAll v_nodeMany v_top h_kind h_left h_right v_namesWas v_blocksWas v_nodeManyWas v_topWas h_nameCodeWas h_nameBlockWas h_blockManyWas h_blockAllWas h_kindWas h_leftWas h_rightWas h_wait h_done v_waits v_dones v_opened h_leaf h_fold h_kept h_now v_played v_depth v_prefix h_moveMade h_out v_written h_later v_laters, aB g h_text 601 v_text]) X hP hD hS hl (c_X12_at l g h h_tape v_taped h_text v_size v_token v_begin v_end v_tokens v_code v_faultKind v_faultPlace v_names v_blocks h_nameCode h_nameBlock h_blockMany h_blockAll v_nodeMany v_top h_kind h_left h_right v_namesWas v_blocksWas v_nodeManyWas v_topWas h_nameCodeWas h_nameBlockWas h_blockManyWas h_blockAllWas h_kindWas h_leftWas h_rightWas h_wait h_done v_waits v_dones v_opened h_leaf h_fold h_kept h_now v_played v_depth v_prefix h_moveMade h_out v_written h_later v_laters v_text (a1 + (1 : Int32)) r_3 hf_4) [0, 1] rfl rfl rfl [.inr 0, .inr 1] rfl rfl cd_X12_at rfl im_X12_at se_X12_at ml_X12_127 0 rfl rfl rfl rfl rfl ⟨(Nat.le_of_ble_eq_true rfl), (Nat.le_of_ble_eq_true rfl)⟩ rfl (Nat.le_of_ble_eq_true rfl) dX12_word_10 ⟨(Nat.le_of_ble_eq_true rfl), (Nat.le_of_ble_eq_true rfl)⟩ (fun H locs hP hD hS => ?_)
  refine lv_istore (lv' := [(4, .int r_3), (3, .int r_1), (0, .ref h), (1, .int a1), (2, .int a2)]) hx hb dX12_word_13 hl (by decide) rfl (fun ls hl => ?_)
  refine lv_aload_n hx hb dX12_word_15 rfl (lv_at hl 2 rfl) ?_
  refine lv_bipush (v := 63) hx hb dX12_word_16 (by decide) ?_
  refine pf_X12_140 X rfl hP hD hS 0 rfl (Nat.le_of_ble_eq_true rfl) dX12_word_18 (fun H locs hP hD hS => ?_)
  have hP : va_P g.1 vwCl [oX12 h h_tape v_taped h_text v_size 63 v_begin v_end v_tokens v_code v_faultKind v_faultPlace v_names v_blocks h_nameCode h_nameBlock h_blockMany h_blockAll v_nodeMany v_top h_kind h_left h_right v_namesWas v_blocksWas v_nodeManyWas v_topWas h_nameCodeWas h_nameBlockWas h_blockManyWas h_blockAllWas h_kindWas h_leftWas h_rightWas h_wait h_done v_waits v_dones v_opened h_leaf h_fold h_kept h_now v_played v_depth v_prefix h_moveMade h_out v_written h_later v_laters, aB g h_text 601 v_text] H := hP
  have hD : va_D A [oX12 h h_tape v_taped h_text v_size 63 v_begin v_end v_tokens v_code v_faultKind v_faultPlace v_names v_blocks h_nameCode h_nameBlock h_blockMany h_blockAll v_nodeMany v_top h_kind h_left h_right v_namesWas v_blocksWas v_nodeManyWas v_topWas h_nameCodeWas h_nameBlockWas h_blockManyWas h_blockAllWas h_kindWas h_leftWas h_rightWas h_wait h_done v_waits v_dones v_opened h_leaf h_fold h_kept h_now v_played v_depth v_prefix h_moveMade h_out v_written h_later v_laters, aB g h_text 601 v_text] := hD
  refine lv_iload_n hx hb dX12_word_21 rfl (lv_at hl 4 rfl) ?_
  refine lv_iconst (v := 1) hx hb dX12_word_22 (by decide) ?_
  refine jn_elim hf (fun j_46 hj_46 hf => ?_)
  have J_46 : ∀  (H : Heap) (locs : List Loc) (ls : Array Slot), va_P g.1 vwCl [oX12 h h_tape v_taped h_text v_size 63 v_begin v_end v_tokens v_code v_faultKind v_faultPlace v_names v_blocks h_nameCode h_nameBlock h_blockMany h_blockAll v_nodeMany v_top h_kind h_left h_right v_namesWas v_blocksWas v_nodeManyWas v_topWas h_nameCodeWas h_nameBlockWas h_blockManyWas h_blockAllWas h_kindWas h_leftWas h_rightWas h_wait h_done v_waits v_dones v_opened h_leaf h_fold h_kept h_now v_played v_depth v_prefix h_moveMade h_out v_written h_later v_laters, aB g h_text 601 v_text] H → va_D A [oX12 h h_tape v_taped h_text v_size 63 v_begin v_end v_tokens v_code v_faultKind v_faultPlace v_names v_blocks h_nameCode h_nameBlock h_blockMany h_blockAll v_nodeMany v_top h_kind h_left h_right v_namesWas v_blocksWas v_nodeManyWas v_topWas h_nameCodeWas h_nameBlockWas h_blockManyWas h_blockAllWas h_kindWas h_leftWas h_rightWas h_wait h_done v_waits v_dones v_opened h_leaf h_fold h_kept h_now v_played v_depth v_prefix h_moveMade h_out v_written h_later v_laters, aB g h_text 601 v_text] → va_S A s.heap H locs → lv_has ls 5 [(0, .ref h), (1, .int a1), (2, .int a2), (3, .int r_1), (4, .int r_3)] → j_46  = some (u_token, u_code) → W p l e ({ frames := 1, cells := 0, slots := 0, locals := 21 }) s m [.ref h, .int a1, .int a2].toArray below meth c H locs 0 0 (MQ below (fun _ => QW g [oX12 h h_tape v_taped h_text v_size v_token v_begin v_end v_tokens v_code v_faultKind v_faultPlace v_names v_blocks h_nameCode h_nameBlock h_blockMany h_blockAll v_nodeMany v_top h_kind h_left h_right v_namesWas v_blocksWas v_nodeManyWas v_topWas h_nameCodeWas h_nameBlockWas h_blockManyWas h_blockAllWas h_kindWas h_leftWas h_rightWas h_wait h_done v_waits v_dones v_opened h_leaf h_fold h_kept h_now v_played v_depth v_prefix h_moveMade h_out v_written h_later v_laters, aB g h_text 601 v_text] s.heap.size none [oX12 h h_tape v_taped h_text v_size u_token v_begin v_end v_tokens u_code v_faultKind v_faultPlace v_names v_blocks h_nameCode h_nameBlock h_blockMany h_blockAll v_nodeMany v_top h_kind h_left h_right v_namesWas v_blocksWas v_nodeManyWas v_topWas h_nameCodeWas h_nameBlockWas h_blockManyWas h_blockAllWas h_kindWas h_leftWas h_rightWas h_wait h_done v_waits v_dones v_opened h_leaf h_fold h_kept h_now v_played v_depth v_prefix h_moveMade h_out v_written h_later v_laters, aB g h_text 601 v_text]) [.ref h, .int a1, .int a2].toArray s 0 0 (va_A [oX12 h h_tape v_taped h_text v_size v_token v_begin v_end v_tokens v_code v_faultKind v_faultPlace v_names v_blocks h_nameCode h_nameBlock h_blockMany h_blockAll v_nodeMany v_top h_kind h_left h_right v_namesWas v_blocksWas v_nodeManyWas v_topWas h_nameCodeWas h_nameBlockWas h_blockManyWas h_blockAllWas h_kindWas h_leftWas h_rightWas h_wait h_done v_waits v_dones v_opened h_leaf h_fold h_kept h_now v_played v_depth v_prefix h_moveMade h_out v_written h_later v_laters, aB g h_text 601 v_text] s.heap.size)) (F0 m 46 ls []) := by
    intro  H locs ls hP hD hS hl hf
    rw [hj_46] at hf
    refine lv_iload_n hx hb dX12_word_46 rfl (lv_at hl 3 rfl) ?_
    obtain ⟨r_5, hf_6, hf⟩ := obind hf
    refine gcS (rest := []) (wn := [oX12 h h_tape v_taped h_text v_size 63 v_begin v_end v_tokens v_code v_faultKind v_faultPlace v_names v_blocks h_nameCode h_nameBlock h_blockMany h_blockAll v_nodeMany v_top h_kind h_left h_right v_namesWas v_blocksWas v_nodeManyWas v_topWas h_nameCodeWas h_nameBlockWas h_blockManyWas h_blockAllWas h_kindWas h_leftWas h_rightWas h_wait h_done v_waits v_dones v_opened h_leaf h_fold h_kept h_now v_played v_depth v_prefix h_moveMade h_out v_written h_later v_laters, aB g h_text 601 v_text]) X hP hD hS hl (c_X12_isSmall l g r_1 r_5 hf_6) [] rfl rfl rfl [.inl 0, .inl 1] rfl rfl cd_X12_isSmall rfl st_X12_isSmall ml_X12_117 rfl rfl ⟨(Nat.le_of_ble_eq_true rfl), (Nat.le_of_ble_eq_true rfl)⟩ rfl (Nat.le_of_ble_eq_true rfl) dX12_word_47 ⟨(Nat.le_of_ble_eq_true rfl), (Nat.le_of_ble_eq_true rfl)⟩ (fun H locs hP hD hS => ?_)
    refine jn_elim hf (fun j_106 hj_106 hf => ?_)
    have J_106 : ∀  (H : Heap) (locs : List Loc) (ls : Array Slot), va_P g.1 vwCl [oX12 h h_tape v_taped h_text v_size 63 v_begin v_end v_tokens v_code v_faultKind v_faultPlace v_names v_blocks h_nameCode h_nameBlock h_blockMany h_blockAll v_nodeMany v_top h_kind h_left h_right v_namesWas v_blocksWas v_nodeManyWas v_topWas h_nameCodeWas h_nameBlockWas h_blockManyWas h_blockAllWas h_kindWas h_leftWas h_rightWas h_wait h_done v_waits v_dones v_opened h_leaf h_fold h_kept h_now v_played v_depth v_prefix h_moveMade h_out v_written h_later v_laters, aB g h_text 601 v_text] H → va_D A [oX12 h h_tape v_taped h_text v_size 63 v_begin v_end v_tokens v_code v_faultKind v_faultPlace v_names v_blocks h_nameCode h_nameBlock h_blockMany h_blockAll v_nodeMany v_top h_kind h_left h_right v_namesWas v_blocksWas v_nodeManyWas v_topWas h_nameCodeWas h_nameBlockWas h_blockManyWas h_blockAllWas h_kindWas h_leftWas h_rightWas h_wait h_done v_waits v_dones v_opened h_leaf h_fold h_kept h_now v_played v_depth v_prefix h_moveMade h_out v_written h_later v_laters, aB g h_text 601 v_text] → va_S A s.heap H locs → lv_has ls 5 [(0, .ref h), (1, .int a1), (2, .int a2), (3, .int r_1), (4, .int r_3)] → j_106  = some (u_token, u_code) → W p l e ({ frames := 1, cells := 0, slots := 0, locals := 21 }) s m [.ref h, .int a1, .int a2].toArray below meth c H locs 0 0 (MQ below (fun _ => QW g [oX12 h h_tape v_taped h_text v_size v_token v_begin v_end v_tokens v_code v_faultKind v_faultPlace v_names v_blocks h_nameCode h_nameBlock h_blockMany h_blockAll v_nodeMany v_top h_kind h_left h_right v_namesWas v_blocksWas v_nodeManyWas v_topWas h_nameCodeWas h_nameBlockWas h_blockManyWas h_blockAllWas h_kindWas h_leftWas h_rightWas h_wait h_done v_waits v_dones v_opened h_leaf h_fold h_kept h_now v_played v_depth v_prefix h_moveMade h_out v_written h_later v_laters, aB g h_text 601 v_text] s.heap.size none [oX12 h h_tape v_taped h_text v_size u_token v_begin v_end v_tokens u_code v_faultKind v_faultPlace v_names v_blocks h_nameCode h_nameBlock h_blockMany h_blockAll v_nodeMany v_top h_kind h_left h_right v_namesWas v_blocksWas v_nodeManyWas v_topWas h_nameCodeWas h_nameBlockWas h_blockManyWas h_blockAllWas h_kindWas h_leftWas h_rightWas h_wait h_done v_waits v_dones v_opened h_leaf h_fold h_kept h_now v_played v_depth v_prefix h_moveMade h_out v_written h_later v_laters, aB g h_text 601 v_text]) [.ref h, .int a1, .int a2].toArray s 0 0 (va_A [oX12 h h_tape v_taped h_text v_size v_token v_begin v_end v_tokens v_code v_faultKind v_faultPlace v_names v_blocks h_nameCode h_nameBlock h_blockMany h_blockAll v_nodeMany v_top h_kind h_left h_right v_namesWas v_blocksWas v_nodeManyWas v_topWas h_nameCodeWas h_nameBlockWas h_blockManyWas h_blockAllWas h_kindWas h_leftWas h_rightWas h_wait h_done v_waits v_dones v_opened h_leaf h_fold h_kept h_now v_played v_depth v_prefix h_moveMade h_out v_written h_later v_laters, aB g h_text 601 v_text] s.heap.size)) (F0 m 106 ls []) := by
      intro  H locs ls hP hD hS hl hf
      rw [hj_106] at hf
      refine lv_iload_n hx hb dX12_word_106 rfl (lv_at hl 2 rfl) ?_
      refine lv_iconst (v := 4) hx hb dX12_word_107 (by decide) ?_
      refine jn_elim hf (fun j_157 hj_157 hf => ?_)
      have J_157 : ∀  (H : Heap) (locs : List Loc) (ls : Array Slot), va_P g.1 vwCl [oX12 h h_tape v_taped h_text v_size 63 v_begin v_end v_tokens v_code v_faultKind v_faultPlace v_names v_blocks h_nameCode h_nameBlock h_blockMany h_blockAll v_nodeMany v_top h_kind h_left h_right v_namesWas v_blocksWas v_nodeManyWas v_topWas h_nameCodeWas h_nameBlockWas h_blockManyWas h_blockAllWas h_kindWas h_leftWas h_rightWas h_wait h_done v_waits v_dones v_opened h_leaf h_fold h_kept h_now v_played v_depth v_prefix h_moveMade h_out v_written h_later v_laters, aB g h_text 601 v_text] H → va_D A [oX12 h h_tape v_taped h_text v_size 63 v_begin v_end v_tokens v_code v_faultKind v_faultPlace v_names v_blocks h_nameCode h_nameBlock h_blockMany h_blockAll v_nodeMany v_top h_kind h_left h_right v_namesWas v_blocksWas v_nodeManyWas v_topWas h_nameCodeWas h_nameBlockWas h_blockManyWas h_blockAllWas h_kindWas h_leftWas h_rightWas h_wait h_done v_waits v_dones v_opened h_leaf h_fold h_kept h_now v_played v_depth v_prefix h_moveMade h_out v_written h_later v_laters, aB g h_text 601 v_text] → va_S A s.heap H locs → lv_has ls 5 [(0, .ref h), (1, .int a1), (2, .int a2), (3, .int r_1), (4, .int r_3)] → j_157  = some (u_token, u_code) → W p l e ({ frames := 1, cells := 0, slots := 0, locals := 21 }) s m [.ref h, .int a1, .int a2].toArray below meth c H locs 0 0 (MQ below (fun _ => QW g [oX12 h h_tape v_taped h_text v_size v_token v_begin v_end v_tokens v_code v_faultKind v_faultPlace v_names v_blocks h_nameCode h_nameBlock h_blockMany h_blockAll v_nodeMany v_top h_kind h_left h_right v_namesWas v_blocksWas v_nodeManyWas v_topWas h_nameCodeWas h_nameBlockWas h_blockManyWas h_blockAllWas h_kindWas h_leftWas h_rightWas h_wait h_done v_waits v_dones v_opened h_leaf h_fold h_kept h_now v_played v_depth v_prefix h_moveMade h_out v_written h_later v_laters, aB g h_text 601 v_text] s.heap.size none [oX12 h h_tape v_taped h_text v_size u_token v_begin v_end v_tokens u_code v_faultKind v_faultPlace v_names v_blocks h_nameCode h_nameBlock h_blockMany h_blockAll v_nodeMany v_top h_kind h_left h_right v_namesWas v_blocksWas v_nodeManyWas v_topWas h_nameCodeWas h_nameBlockWas h_blockManyWas h_blockAllWas h_kindWas h_leftWas h_rightWas h_wait h_done v_waits v_dones v_opened h_leaf h_fold h_kept h_now v_played v_depth v_prefix h_moveMade h_out v_written h_later v_laters, aB g h_text 601 v_text]) [.ref h, .int a1, .int a2].toArray s 0 0 (va_A [oX12 h h_tape v_taped h_text v_size v_token v_begin v_end v_tokens v_code v_faultKind v_faultPlace v_names v_blocks h_nameCode h_nameBlock h_blockMany h_blockAll v_nodeMany v_top h_kind h_left h_right v_namesWas v_blocksWas v_nodeManyWas v_topWas h_nameCodeWas h_nameBlockWas h_blockManyWas h_blockAllWas h_kindWas h_leftWas h_rightWas h_wait h_done v_waits v_dones v_opened h_leaf h_fold h_kept h_now v_played v_depth v_prefix h_moveMade h_out v_written h_later v_laters, aB g h_text 601 v_text] s.heap.size)) (F0 m 157 ls []) := by
        intro  H locs ls hP hD hS hl hf
        rw [hj_157] at hf
        refine lv_iload_n hx hb dX12_word_157 rfl (lv_at hl 2 rfl) ?_
        refine lv_iconst (v := 3) hx hb dX12_word_158 (by decide) ?_
        refine lv_icmp_ne (tgt := 193) hx hb dX12_word_159 (by decide) (fun c_7 => ?_) (fun c_7 => ?_)
        · have hf := iff_ hf c_7
          cases hf
          exact ret_v X hAe hP hD hS rfl dX12_word_193
        · have hf := ift hf c_7
          refine lv_iload_n hx hb dX12_word_162 rfl (lv_at hl 3 rfl) ?_
          refine lv_bipush (v := 97) hx hb dX12_word_163 (by decide) ?_
          refine lv_icmp_ne (tgt := 193) hx hb dX12_word_165 (by decide) (fun c_8 => ?_) (fun c_8 => ?_)
          · have hf := iff_ hf c_8
            cases hf
            exact ret_v X hAe hP hD hS rfl dX12_word_193
          · have hf := ift hf c_8
            refine lv_iload hx hb dX12_word_168 (lv_at hl 4 rfl) ?_
            refine lv_bipush (v := 108) hx hb dX12_word_170 (by decide) ?_
            refine lv_icmp_ne (tgt := 193) hx hb dX12_word_172 (by decide) (fun c_9 => ?_) (fun c_9 => ?_)
            · have hf := iff_ hf c_9
              cases hf
              exact ret_v X hAe hP hD hS rfl dX12_word_193
            · have hf := ift hf c_9
              refine lv_aload_n hx hb dX12_word_175 rfl (lv_at hl 0 rfl) ?_
              refine lv_iload_n hx hb dX12_word_176 rfl (lv_at hl 1 rfl) ?_
              refine lv_iconst (v := 2) hx hb dX12_word_177 (by decide) ?_
              refine lv_iadd hx hb dX12_word_178 ?_
              obtain ⟨r_10, hf_11, hf⟩ := obind hf
              refine gcV (rest := []) (wn := [oX12 h h_tape v_taped h_text v_size 63 v_begin v_end v_tokens v_code v_faultKind v_faultPlace v_names v_blocks h_nameCode h_nameBlock h_blockMany h_blockAll v_nodeMany v_top h_kind h_left h_right v_namesWas v_blocksWas v_nodeManyWas v_topWas h_nameCodeWas h_nameBlockWas h_blockManyWas h_blockAllWas h_kindWas h_leftWas h_rightWas h_wait h_done v_waits v_dones v_opened h_leaf h_fold h_kept h_now v_played v_depth v_prefix h_moveMade h_out v_written h_later v_laters, aB g h_text 601 v_text]) X hP hD hS hl (c_X12_at l g h h_tape v_taped h_text v_size 63 v_begin v_end v_tokens v_code v_faultKind v_faultPlace v_names v_blocks h_nameCode h_nameBlock h_blockMany h_blockAll v_nodeMany v_top h_kind h_left h_right v_namesWas v_blocksWas v_nodeManyWas v_topWas h_nameCodeWas h_nameBlockWas h_blockManyWas h_blockAllWas h_kindWas h_leftWas h_rightWas h_wait h_done v_waits v_dones v_opened h_leaf h_fold h_kept h_now v_played v_depth v_prefix h_moveMade h_out v_written h_later v_laters v_text (a1 + (2 : Int32)) r_10 hf_11) [0, 1] rfl rfl rfl [.inr 0, .inr 1] rfl rfl cd_X12_at rfl im_X12_at se_X12_at ml_X12_127 0 rfl rfl rfl rfl rfl ⟨(Nat.le_of_ble_eq_true rfl), (Nat.le_of_ble_eq_true rfl)⟩ rfl (Nat.le_of_ble_eq_true rfl) dX12_word_179 ⟨(Nat.le_of_ble_eq_true rfl), (Nat.le_of_ble_eq_true rfl)⟩ (fun H locs hP hD hS => ?_)
              refine lv_bipush (v := 108) hx hb dX12_word_182 (by decide) ?_
              refine lv_icmp_ne (tgt := 193) hx hb dX12_word_184 (by decide) (fun c_12 => ?_) (fun c_12 => ?_)
              · have hf := iff_ hf c_12
                cases hf
                exact ret_v X hAe hP hD hS rfl dX12_word_193
              · have hf := ift hf c_12
                refine lv_aload_n hx hb dX12_word_187 rfl (lv_at hl 0 rfl) ?_
                refine lv_bipush (v := 97) hx hb dX12_word_188 (by decide) ?_
                refine pf_X12_140 X rfl hP hD hS 0 rfl (Nat.le_of_ble_eq_true rfl) dX12_word_190 (fun H locs hP hD hS => ?_)
                have hP : va_P g.1 vwCl [oX12 h h_tape v_taped h_text v_size 97 v_begin v_end v_tokens v_code v_faultKind v_faultPlace v_names v_blocks h_nameCode h_nameBlock h_blockMany h_blockAll v_nodeMany v_top h_kind h_left h_right v_namesWas v_blocksWas v_nodeManyWas v_topWas h_nameCodeWas h_nameBlockWas h_blockManyWas h_blockAllWas h_kindWas h_leftWas h_rightWas h_wait h_done v_waits v_dones v_opened h_leaf h_fold h_kept h_now v_played v_depth v_prefix h_moveMade h_out v_written h_later v_laters, aB g h_text 601 v_text] H := hP
                have hD : va_D A [oX12 h h_tape v_taped h_text v_size 97 v_begin v_end v_tokens v_code v_faultKind v_faultPlace v_names v_blocks h_nameCode h_nameBlock h_blockMany h_blockAll v_nodeMany v_top h_kind h_left h_right v_namesWas v_blocksWas v_nodeManyWas v_topWas h_nameCodeWas h_nameBlockWas h_blockManyWas h_blockAllWas h_kindWas h_leftWas h_rightWas h_wait h_done v_waits v_dones v_opened h_leaf h_fold h_kept h_now v_played v_depth v_prefix h_moveMade h_out v_written h_later v_laters, aB g h_text 601 v_text] := hD
                cases hf
                exact ret_v X hAe hP hD hS rfl dX12_word_193
      refine lv_icmp_ne (tgt := 157) hx hb dX12_word_108 (by decide) (fun c_13 => ?_) (fun c_13 => ?_)
      · have hf := iff_ hf c_13
        exact J_157  _ _ ls hP hD hS (lv_sub hl [0, 1, 2, 3, 4] rfl) hf
      · have hf := ift hf c_13
        refine lv_iload_n hx hb dX12_word_111 rfl (lv_at hl 3 rfl) ?_
        refine lv_bipush (v := 115) hx hb dX12_word_112 (by decide) ?_
        refine lv_icmp_ne (tgt := 157) hx hb dX12_word_114 (by decide) (fun c_14 => ?_) (fun c_14 => ?_)
        · have hf := iff_ hf c_14
          exact J_157  _ _ ls hP hD hS (lv_sub hl [0, 1, 2, 3, 4] rfl) hf
        · have hf := ift hf c_14
          refine lv_iload hx hb dX12_word_117 (lv_at hl 4 rfl) ?_
          refine lv_bipush (v := 111) hx hb dX12_word_119 (by decide) ?_
          refine lv_icmp_ne (tgt := 157) hx hb dX12_word_121 (by decide) (fun c_15 => ?_) (fun c_15 => ?_)
          · have hf := iff_ hf c_15
            exact J_157  _ _ ls hP hD hS (lv_sub hl [0, 1, 2, 3, 4] rfl) hf
          · have hf := ift hf c_15
            refine lv_aload_n hx hb dX12_word_124 rfl (lv_at hl 0 rfl) ?_
            refine lv_iload_n hx hb dX12_word_125 rfl (lv_at hl 1 rfl) ?_
            refine lv_iconst (v := 2) hx hb dX12_word_126 (by decide) ?_
            refine lv_iadd hx hb dX12_word_127 ?_
            obtain ⟨r_16, hf_17, hf⟩ := obind hf
            refine gcV (rest := []) (wn := [oX12 h h_tape v_taped h_text v_size 63 v_begin v_end v_tokens v_code v_faultKind v_faultPlace v_names v_blocks h_nameCode h_nameBlock h_blockMany h_blockAll v_nodeMany v_top h_kind h_left h_right v_namesWas v_blocksWas v_nodeManyWas v_topWas h_nameCodeWas h_nameBlockWas h_blockManyWas h_blockAllWas h_kindWas h_leftWas h_rightWas h_wait h_done v_waits v_dones v_opened h_leaf h_fold h_kept h_now v_played v_depth v_prefix h_moveMade h_out v_written h_later v_laters, aB g h_text 601 v_text]) X hP hD hS hl (c_X12_at l g h h_tape v_taped h_text v_size 63 v_begin v_end v_tokens v_code v_faultKind v_faultPlace v_names v_blocks h_nameCode h_nameBlock h_blockMany h_blockAll v_nodeMany v_top h_kind h_left h_right v_namesWas v_blocksWas v_nodeManyWas v_topWas h_nameCodeWas h_nameBlockWas h_blockManyWas h_blockAllWas h_kindWas h_leftWas h_rightWas h_wait h_done v_waits v_dones v_opened h_leaf h_fold h_kept h_now v_played v_depth v_prefix h_moveMade h_out v_written h_later v_laters v_text (a1 + (2 : Int32)) r_16 hf_17) [0, 1] rfl rfl rfl [.inr 0, .inr 1] rfl rfl cd_X12_at rfl im_X12_at se_X12_at ml_X12_127 0 rfl rfl rfl rfl rfl ⟨(Nat.le_of_ble_eq_true rfl), (Nat.le_of_ble_eq_true rfl)⟩ rfl (Nat.le_of_ble_eq_true rfl) dX12_word_128 ⟨(Nat.le_of_ble_eq_true rfl), (Nat.le_of_ble_eq_true rfl)⟩ (fun H locs hP hD hS => ?_)
            refine lv_bipush (v := 109) hx hb dX12_word_131 (by decide) ?_
            refine lv_icmp_ne (tgt := 157) hx hb dX12_word_133 (by decide) (fun c_18 => ?_) (fun c_18 => ?_)
            · have hf := iff_ hf c_18
              exact J_157  _ _ ls hP hD hS (lv_sub hl [0, 1, 2, 3, 4] rfl) hf
            · have hf := ift hf c_18
              refine lv_aload_n hx hb dX12_word_136 rfl (lv_at hl 0 rfl) ?_
              refine lv_iload_n hx hb dX12_word_137 rfl (lv_at hl 1 rfl) ?_
              refine lv_iconst (v := 3) hx hb dX12_word_138 (by decide) ?_
              refine lv_iadd hx hb dX12_word_139 ?_
              obtain ⟨r_19, hf_20, hf⟩ := obind hf
              refine gcV (rest := []) (wn := [oX12 h h_tape v_taped h_text v_size 63 v_begin v_end v_tokens v_code v_faultKind v_faultPlace v_names v_blocks h_nameCode h_nameBlock h_blockMany h_blockAll v_nodeMany v_top h_kind h_left h_right v_namesWas v_blocksWas v_nodeManyWas v_topWas h_nameCodeWas h_nameBlockWas h_blockManyWas h_blockAllWas h_kindWas h_leftWas h_rightWas h_wait h_done v_waits v_dones v_opened h_leaf h_fold h_kept h_now v_played v_depth v_prefix h_moveMade h_out v_written h_later v_laters, aB g h_text 601 v_text]) X hP hD hS hl (c_X12_at l g h h_tape v_taped h_text v_size 63 v_begin v_end v_tokens v_code v_faultKind v_faultPlace v_names v_blocks h_nameCode h_nameBlock h_blockMany h_blockAll v_nodeMany v_top h_kind h_left h_right v_namesWas v_blocksWas v_nodeManyWas v_topWas h_nameCodeWas h_nameBlockWas h_blockManyWas h_blockAllWas h_kindWas h_leftWas h_rightWas h_wait h_done v_waits v_dones v_opened h_leaf h_fold h_kept h_now v_played v_depth v_prefix h_moveMade h_out v_written h_later v_laters v_text (a1 + (3 : Int32)) r_19 hf_20) [0, 1] rfl rfl rfl [.inr 0, .inr 1] rfl rfl cd_X12_at rfl im_X12_at se_X12_at ml_X12_127 0 rfl rfl rfl rfl rfl ⟨(Nat.le_of_ble_eq_true rfl), (Nat.le_of_ble_eq_true rfl)⟩ rfl (Nat.le_of_ble_eq_true rfl) dX12_word_140 ⟨(Nat.le_of_ble_eq_true rfl), (Nat.le_of_ble_eq_true rfl)⟩ (fun H locs hP hD hS => ?_)
              refine lv_bipush (v := 101) hx hb dX12_word_143 (by decide) ?_
              refine lv_icmp_ne (tgt := 157) hx hb dX12_word_145 (by decide) (fun c_21 => ?_) (fun c_21 => ?_)
              · have hf := iff_ hf c_21
                exact J_157  _ _ ls hP hD hS (lv_sub hl [0, 1, 2, 3, 4] rfl) hf
              · have hf := ift hf c_21
                refine lv_aload_n hx hb dX12_word_148 rfl (lv_at hl 0 rfl) ?_
                refine lv_bipush (v := 115) hx hb dX12_word_149 (by decide) ?_
                refine pf_X12_140 X rfl hP hD hS 0 rfl (Nat.le_of_ble_eq_true rfl) dX12_word_151 (fun H locs hP hD hS => ?_)
                have hP : va_P g.1 vwCl [oX12 h h_tape v_taped h_text v_size 115 v_begin v_end v_tokens v_code v_faultKind v_faultPlace v_names v_blocks h_nameCode h_nameBlock h_blockMany h_blockAll v_nodeMany v_top h_kind h_left h_right v_namesWas v_blocksWas v_nodeManyWas v_topWas h_nameCodeWas h_nameBlockWas h_blockManyWas h_blockAllWas h_kindWas h_leftWas h_rightWas h_wait h_done v_waits v_dones v_opened h_leaf h_fold h_kept h_now v_played v_depth v_prefix h_moveMade h_out v_written h_later v_laters, aB g h_text 601 v_text] H := hP
                have hD : va_D A [oX12 h h_tape v_taped h_text v_size 115 v_begin v_end v_tokens v_code v_faultKind v_faultPlace v_names v_blocks h_nameCode h_nameBlock h_blockMany h_blockAll v_nodeMany v_top h_kind h_left h_right v_namesWas v_blocksWas v_nodeManyWas v_topWas h_nameCodeWas h_nameBlockWas h_blockManyWas h_blockAllWas h_kindWas h_leftWas h_rightWas h_wait h_done v_waits v_dones v_opened h_leaf h_fold h_kept h_now v_played v_depth v_prefix h_moveMade h_out v_written h_later v_laters, aB g h_text 601 v_text] := hD
                refine lv_goto (tgt := 193) hx hb dX12_word_154 (by decide) ?_
                cases hf
                exact ret_v X hAe hP hD hS rfl dX12_word_193
    refine lv_if_eq (tgt := 106) hx hb dX12_word_50 (by decide) (fun c_22 => ?_) (fun c_22 => ?_)
    · have hf := ift hf c_22
      exact J_106  _ _ ls hP hD hS (lv_sub hl [0, 1, 2, 3, 4] rfl) hf
    · have hf := iff_ hf c_22
      refine lv_iload_n hx hb dX12_word_53 rfl (lv_at hl 2 rfl) ?_
      refine lv_iconst (v := 1) hx hb dX12_word_54 (by decide) ?_
      refine jn_elim hf (fun j_71 hj_71 hf => ?_)
      have J_71 : ∀  (H : Heap) (locs : List Loc) (ls : Array Slot), va_P g.1 vwCl [oX12 h h_tape v_taped h_text v_size 63 v_begin v_end v_tokens v_code v_faultKind v_faultPlace v_names v_blocks h_nameCode h_nameBlock h_blockMany h_blockAll v_nodeMany v_top h_kind h_left h_right v_namesWas v_blocksWas v_nodeManyWas v_topWas h_nameCodeWas h_nameBlockWas h_blockManyWas h_blockAllWas h_kindWas h_leftWas h_rightWas h_wait h_done v_waits v_dones v_opened h_leaf h_fold h_kept h_now v_played v_depth v_prefix h_moveMade h_out v_written h_later v_laters, aB g h_text 601 v_text] H → va_D A [oX12 h h_tape v_taped h_text v_size 63 v_begin v_end v_tokens v_code v_faultKind v_faultPlace v_names v_blocks h_nameCode h_nameBlock h_blockMany h_blockAll v_nodeMany v_top h_kind h_left h_right v_namesWas v_blocksWas v_nodeManyWas v_topWas h_nameCodeWas h_nameBlockWas h_blockManyWas h_blockAllWas h_kindWas h_leftWas h_rightWas h_wait h_done v_waits v_dones v_opened h_leaf h_fold h_kept h_now v_played v_depth v_prefix h_moveMade h_out v_written h_later v_laters, aB g h_text 601 v_text] → va_S A s.heap H locs → lv_has ls 5 [(0, .ref h), (1, .int a1), (2, .int a2), (3, .int r_1), (4, .int r_3)] → j_71  = some (u_token, u_code) → W p l e ({ frames := 1, cells := 0, slots := 0, locals := 21 }) s m [.ref h, .int a1, .int a2].toArray below meth c H locs 0 0 (MQ below (fun _ => QW g [oX12 h h_tape v_taped h_text v_size v_token v_begin v_end v_tokens v_code v_faultKind v_faultPlace v_names v_blocks h_nameCode h_nameBlock h_blockMany h_blockAll v_nodeMany v_top h_kind h_left h_right v_namesWas v_blocksWas v_nodeManyWas v_topWas h_nameCodeWas h_nameBlockWas h_blockManyWas h_blockAllWas h_kindWas h_leftWas h_rightWas h_wait h_done v_waits v_dones v_opened h_leaf h_fold h_kept h_now v_played v_depth v_prefix h_moveMade h_out v_written h_later v_laters, aB g h_text 601 v_text] s.heap.size none [oX12 h h_tape v_taped h_text v_size u_token v_begin v_end v_tokens u_code v_faultKind v_faultPlace v_names v_blocks h_nameCode h_nameBlock h_blockMany h_blockAll v_nodeMany v_top h_kind h_left h_right v_namesWas v_blocksWas v_nodeManyWas v_topWas h_nameCodeWas h_nameBlockWas h_blockManyWas h_blockAllWas h_kindWas h_leftWas h_rightWas h_wait h_done v_waits v_dones v_opened h_leaf h_fold h_kept h_now v_played v_depth v_prefix h_moveMade h_out v_written h_later v_laters, aB g h_text 601 v_text]) [.ref h, .int a1, .int a2].toArray s 0 0 (va_A [oX12 h h_tape v_taped h_text v_size v_token v_begin v_end v_tokens v_code v_faultKind v_faultPlace v_names v_blocks h_nameCode h_nameBlock h_blockMany h_blockAll v_nodeMany v_top h_kind h_left h_right v_namesWas v_blocksWas v_nodeManyWas v_topWas h_nameCodeWas h_nameBlockWas h_blockManyWas h_blockAllWas h_kindWas h_leftWas h_rightWas h_wait h_done v_waits v_dones v_opened h_leaf h_fold h_kept h_now v_played v_depth v_prefix h_moveMade h_out v_written h_later v_laters, aB g h_text 601 v_text] s.heap.size)) (F0 m 71 ls []) := by
        intro  H locs ls hP hD hS hl hf
        rw [hj_71] at hf
        refine lv_aload_n hx hb dX12_word_71 rfl (lv_at hl 0 rfl) ?_
        refine lv_bipush (v := 110) hx hb dX12_word_72 (by decide) ?_
        refine pf_X12_140 X rfl hP hD hS 0 rfl (Nat.le_of_ble_eq_true rfl) dX12_word_74 (fun H locs hP hD hS => ?_)
        have hP : va_P g.1 vwCl [oX12 h h_tape v_taped h_text v_size 110 v_begin v_end v_tokens v_code v_faultKind v_faultPlace v_names v_blocks h_nameCode h_nameBlock h_blockMany h_blockAll v_nodeMany v_top h_kind h_left h_right v_namesWas v_blocksWas v_nodeManyWas v_topWas h_nameCodeWas h_nameBlockWas h_blockManyWas h_blockAllWas h_kindWas h_leftWas h_rightWas h_wait h_done v_waits v_dones v_opened h_leaf h_fold h_kept h_now v_played v_depth v_prefix h_moveMade h_out v_written h_later v_laters, aB g h_text 601 v_text] H := hP
        have hD : va_D A [oX12 h h_tape v_taped h_text v_size 110 v_begin v_end v_tokens v_code v_faultKind v_faultPlace v_names v_blocks h_nameCode h_nameBlock h_blockMany h_blockAll v_nodeMany v_top h_kind h_left h_right v_namesWas v_blocksWas v_nodeManyWas v_topWas h_nameCodeWas h_nameBlockWas h_blockManyWas h_blockAllWas h_kindWas h_leftWas h_rightWas h_wait h_done v_waits v_dones v_opened h_leaf h_fold h_kept h_now v_played v_depth v_prefix h_moveMade h_out v_written h_later v_laters, aB g h_text 601 v_text] := hD
        refine lv_aload_n hx hb dX12_word_77 rfl (lv_at hl 0 rfl) ?_
        refine lv_iload_n hx hb dX12_word_78 rfl (lv_at hl 2 rfl) ?_
        refine lv_iconst (v := 1) hx hb dX12_word_79 (by decide) ?_
        refine lv_icmp_ne (tgt := 87) hx hb dX12_word_80 (by decide) (fun c_23 => ?_) (fun c_23 => ?_)
        · have hf := iff_ hf c_23
          refine lv_iload_n hx hb dX12_word_87 rfl (lv_at hl 3 rfl) ?_
          refine lv_sipush (v := 256) hx hb dX12_word_88 (by decide) ?_
          refine lv_iload hx hb dX12_word_91 (lv_at hl 4 rfl) ?_
          refine lv_bipush (v := 48) hx hb dX12_word_93 (by decide) ?_
          refine lv_isub hx hb dX12_word_95 ?_
          refine lv_iconst (v := 1) hx hb dX12_word_96 (by decide) ?_
          refine lv_iadd hx hb dX12_word_97 ?_
          refine lv_imul hx hb dX12_word_98 ?_
          refine lv_iadd hx hb dX12_word_99 ?_
          refine pf_X12_147 X rfl hP hD hS 0 rfl (Nat.le_of_ble_eq_true rfl) dX12_word_100 (fun H locs hP hD hS => ?_)
          have hP : va_P g.1 vwCl [oX12 h h_tape v_taped h_text v_size 110 v_begin v_end v_tokens (r_1 + ((256 : Int32) * ((r_3 - (48 : Int32)) + (1 : Int32)))) v_faultKind v_faultPlace v_names v_blocks h_nameCode h_nameBlock h_blockMany h_blockAll v_nodeMany v_top h_kind h_left h_right v_namesWas v_blocksWas v_nodeManyWas v_topWas h_nameCodeWas h_nameBlockWas h_blockManyWas h_blockAllWas h_kindWas h_leftWas h_rightWas h_wait h_done v_waits v_dones v_opened h_leaf h_fold h_kept h_now v_played v_depth v_prefix h_moveMade h_out v_written h_later v_laters, aB g h_text 601 v_text] H := hP
          have hD : va_D A [oX12 h h_tape v_taped h_text v_size 110 v_begin v_end v_tokens (r_1 + ((256 : Int32) * ((r_3 - (48 : Int32)) + (1 : Int32)))) v_faultKind v_faultPlace v_names v_blocks h_nameCode h_nameBlock h_blockMany h_blockAll v_nodeMany v_top h_kind h_left h_right v_namesWas v_blocksWas v_nodeManyWas v_topWas h_nameCodeWas h_nameBlockWas h_blockManyWas h_blockAllWas h_kindWas h_leftWas h_rightWas h_wait h_done v_waits v_dones v_opened h_leaf h_fold h_kept h_now v_played v_depth v_prefix h_moveMade h_out v_written h_later v_laters, aB g h_text 601 v_text] := hD
          refine lv_goto (tgt := 193) hx hb dX12_word_103 (by decide) ?_
          cases hf
          exact ret_v X hAe hP hD hS rfl dX12_word_193
        · have hf := ift hf c_23
          refine lv_iload_n hx hb dX12_word_83 rfl (lv_at hl 3 rfl) ?_
          refine lv_goto (tgt := 100) hx hb dX12_word_84 (by decide) ?_
          refine pf_X12_147 X rfl hP hD hS 0 rfl (Nat.le_of_ble_eq_true rfl) dX12_word_100 (fun H locs hP hD hS => ?_)
          have hP : va_P g.1 vwCl [oX12 h h_tape v_taped h_text v_size 110 v_begin v_end v_tokens r_1 v_faultKind v_faultPlace v_names v_blocks h_nameCode h_nameBlock h_blockMany h_blockAll v_nodeMany v_top h_kind h_left h_right v_namesWas v_blocksWas v_nodeManyWas v_topWas h_nameCodeWas h_nameBlockWas h_blockManyWas h_blockAllWas h_kindWas h_leftWas h_rightWas h_wait h_done v_waits v_dones v_opened h_leaf h_fold h_kept h_now v_played v_depth v_prefix h_moveMade h_out v_written h_later v_laters, aB g h_text 601 v_text] H := hP
          have hD : va_D A [oX12 h h_tape v_taped h_text v_size 110 v_begin v_end v_tokens r_1 v_faultKind v_faultPlace v_names v_blocks h_nameCode h_nameBlock h_blockMany h_blockAll v_nodeMany v_top h_kind h_left h_right v_namesWas v_blocksWas v_nodeManyWas v_topWas h_nameCodeWas h_nameBlockWas h_blockManyWas h_blockAllWas h_kindWas h_leftWas h_rightWas h_wait h_done v_waits v_dones v_opened h_leaf h_fold h_kept h_now v_played v_depth v_prefix h_moveMade h_out v_written h_later v_laters, aB g h_text 601 v_text] := hD
          refine lv_goto (tgt := 193) hx hb dX12_word_103 (by decide) ?_
          cases hf
          exact ret_v X hAe hP hD hS rfl dX12_word_193
      refine lv_icmp_eq (tgt := 71) hx hb dX12_word_55 (by decide) (fun c_24 => ?_) (fun c_24 => ?_)
      · have hf := ift hf c_24
        exact J_71  _ _ ls hP hD hS (lv_sub hl [0, 1, 2, 3, 4] rfl) hf
      · have hf := iff_ hf c_24
        refine lv_iload_n hx hb dX12_word_58 rfl (lv_at hl 2 rfl) ?_
        refine lv_iconst (v := 2) hx hb dX12_word_59 (by decide) ?_
        refine lv_icmp_ne (tgt := 106) hx hb dX12_word_60 (by decide) (fun c_25 => ?_) (fun c_25 => ?_)
        · have hf := iff_ hf c_25
          exact J_106  _ _ ls hP hD hS (lv_sub hl [0, 1, 2, 3, 4] rfl) hf
        · have hf := ift hf c_25
          refine lv_iload hx hb dX12_word_63 (lv_at hl 4 rfl) ?_
          obtain ⟨r_26, hf_27, hf⟩ := obind hf
          refine gcS (rest := []) (wn := [oX12 h h_tape v_taped h_text v_size 63 v_begin v_end v_tokens v_code v_faultKind v_faultPlace v_names v_blocks h_nameCode h_nameBlock h_blockMany h_blockAll v_nodeMany v_top h_kind h_left h_right v_namesWas v_blocksWas v_nodeManyWas v_topWas h_nameCodeWas h_nameBlockWas h_blockManyWas h_blockAllWas h_kindWas h_leftWas h_rightWas h_wait h_done v_waits v_dones v_opened h_leaf h_fold h_kept h_now v_played v_depth v_prefix h_moveMade h_out v_written h_later v_laters, aB g h_text 601 v_text]) X hP hD hS hl (c_X12_isDigit l g r_3 r_26 hf_27) [] rfl rfl rfl [.inl 0, .inl 1] rfl rfl cd_X12_isDigit rfl st_X12_isDigit ml_X12_121 rfl rfl ⟨(Nat.le_of_ble_eq_true rfl), (Nat.le_of_ble_eq_true rfl)⟩ rfl (Nat.le_of_ble_eq_true rfl) dX12_word_65 ⟨(Nat.le_of_ble_eq_true rfl), (Nat.le_of_ble_eq_true rfl)⟩ (fun H locs hP hD hS => ?_)
          refine lv_if_eq (tgt := 106) hx hb dX12_word_68 (by decide) (fun c_28 => ?_) (fun c_28 => ?_)
          · have hf := ift hf c_28
            exact J_106  _ _ ls hP hD hS (lv_sub hl [0, 1, 2, 3, 4] rfl) hf
          · have hf := iff_ hf c_28
            exact J_71  _ _ ls hP hD hS (lv_sub hl [0, 1, 2, 3, 4] rfl) hf
  refine lv_icmp_ne (tgt := 46) hx hb dX12_word_23 (by decide) (fun c_29 => ?_) (fun c_29 => ?_)
  · have hf := iff_ hf c_29
    exact J_46  _ _ ls hP hD hS (lv_sub hl [2, 3, 4, 1, 0] rfl) hf
  · have hf := ift hf c_29
    refine lv_iload_n hx hb dX12_word_26 rfl (lv_at hl 1 rfl) ?_
    refine lv_bipush (v := 48) hx hb dX12_word_27 (by decide) ?_
    refine lv_icmp_eq (tgt := 38) hx hb dX12_word_29 (by decide) (fun c_30 => ?_) (fun c_30 => ?_)
    · have hf := ift hf c_30
      refine lv_aload_n hx hb dX12_word_38 rfl (lv_at hl 2 rfl) ?_
      refine lv_iload_n hx hb dX12_word_39 rfl (lv_at hl 1 rfl) ?_
      refine pf_X12_140 X rfl hP hD hS 0 rfl (Nat.le_of_ble_eq_true rfl) dX12_word_40 (fun H locs hP hD hS => ?_)
      have hP : va_P g.1 vwCl [oX12 h h_tape v_taped h_text v_size r_1 v_begin v_end v_tokens v_code v_faultKind v_faultPlace v_names v_blocks h_nameCode h_nameBlock h_blockMany h_blockAll v_nodeMany v_top h_kind h_left h_right v_namesWas v_blocksWas v_nodeManyWas v_topWas h_nameCodeWas h_nameBlockWas h_blockManyWas h_blockAllWas h_kindWas h_leftWas h_rightWas h_wait h_done v_waits v_dones v_opened h_leaf h_fold h_kept h_now v_played v_depth v_prefix h_moveMade h_out v_written h_later v_laters, aB g h_text 601 v_text] H := hP
      have hD : va_D A [oX12 h h_tape v_taped h_text v_size r_1 v_begin v_end v_tokens v_code v_faultKind v_faultPlace v_names v_blocks h_nameCode h_nameBlock h_blockMany h_blockAll v_nodeMany v_top h_kind h_left h_right v_namesWas v_blocksWas v_nodeManyWas v_topWas h_nameCodeWas h_nameBlockWas h_blockManyWas h_blockAllWas h_kindWas h_leftWas h_rightWas h_wait h_done v_waits v_dones v_opened h_leaf h_fold h_kept h_now v_played v_depth v_prefix h_moveMade h_out v_written h_later v_laters, aB g h_text 601 v_text] := hD
      refine lv_goto (tgt := 193) hx hb dX12_word_43 (by decide) ?_
      cases hf
      exact ret_v X hAe hP hD hS rfl dX12_word_193
    · have hf := iff_ hf c_30
      refine lv_iload_n hx hb dX12_word_32 rfl (lv_at hl 1 rfl) ?_
      refine lv_bipush (v := 49) hx hb dX12_word_33 (by decide) ?_
      refine lv_icmp_ne (tgt := 46) hx hb dX12_word_35 (by decide) (fun c_31 => ?_) (fun c_31 => ?_)
      · have hf := iff_ hf c_31
        exact J_46  _ _ ls hP hD hS (lv_sub hl [2, 3, 4, 1, 0] rfl) hf
      · have hf := ift hf c_31
        refine lv_aload_n hx hb dX12_word_38 rfl (lv_at hl 2 rfl) ?_
        refine lv_iload_n hx hb dX12_word_39 rfl (lv_at hl 1 rfl) ?_
        refine pf_X12_140 X rfl hP hD hS 0 rfl (Nat.le_of_ble_eq_true rfl) dX12_word_40 (fun H locs hP hD hS => ?_)
        have hP : va_P g.1 vwCl [oX12 h h_tape v_taped h_text v_size r_1 v_begin v_end v_tokens v_code v_faultKind v_faultPlace v_names v_blocks h_nameCode h_nameBlock h_blockMany h_blockAll v_nodeMany v_top h_kind h_left h_right v_namesWas v_blocksWas v_nodeManyWas v_topWas h_nameCodeWas h_nameBlockWas h_blockManyWas h_blockAllWas h_kindWas h_leftWas h_rightWas h_wait h_done v_waits v_dones v_opened h_leaf h_fold h_kept h_now v_played v_depth v_prefix h_moveMade h_out v_written h_later v_laters, aB g h_text 601 v_text] H := hP
        have hD : va_D A [oX12 h h_tape v_taped h_text v_size r_1 v_begin v_end v_tokens v_code v_faultKind v_faultPlace v_names v_blocks h_nameCode h_nameBlock h_blockMany h_blockAll v_nodeMany v_top h_kind h_left h_right v_namesWas v_blocksWas v_nodeManyWas v_topWas h_nameCodeWas h_nameBlockWas h_blockManyWas h_blockAllWas h_kindWas h_leftWas h_rightWas h_wait h_done v_waits v_dones v_opened h_leaf h_fold h_kept h_now v_played v_depth v_prefix h_moveMade h_out v_written h_later v_laters, aB g h_text 601 v_text] := hD
        refine lv_goto (tgt := 193) hx hb dX12_word_43 (by decide) ?_
        cases hf
        exact ret_v X hAe hP hD hS rfl dX12_word_193
def lp_X12_next_5 (v_size_5f : Int32) (v_token_5f : Int32) (v_begin_5f : Int32) (v_end_5f : Int32) (v_tokens_5f : Int32) (v_code_5f : Int32) (v_text_5f : Nat → Int32) : Nat → Int32 → (Int32 → Option (Int32 × Int32 × Int32 × Int32 × Int32)) → Option (Int32 × Int32 × Int32 × Int32 × Int32)
  | 0, _, _ => none
  | n_5 + 1, x1_5, K_5 =>
    if v_size_5f ≤ x1_5 then
    K_5 x1_5
    else
    ((f_X12_at v_size_5f v_text_5f x1_5).bind fun r_2 =>
    if r_2 = 32 then
    lp_X12_next_5 v_size_5f v_token_5f v_begin_5f v_end_5f v_tokens_5f v_code_5f v_text_5f n_5 (x1_5 + (1 : Int32)) K_5
    else
    ((f_X12_at v_size_5f v_text_5f x1_5).bind fun r_5 =>
    if r_5 = 10 then
    lp_X12_next_5 v_size_5f v_token_5f v_begin_5f v_end_5f v_tokens_5f v_code_5f v_text_5f n_5 (x1_5 + (1 : Int32)) K_5
    else
    K_5 x1_5))
def lp_X12_next_47 (y1_47 : Int32) (v_size_47f : Int32) (v_token_47f : Int32) (v_begin_47f : Int32) (v_end_47f : Int32) (v_tokens_47f : Int32) (v_code_47f : Int32) (v_text_47f : Nat → Int32) : Nat → Int32 → (Int32 → Option (Int32 × Int32 × Int32 × Int32 × Int32)) → Option (Int32 × Int32 × Int32 × Int32 × Int32)
  | 0, _, _ => none
  | n_47 + 1, x2_47, K_47 =>
    (f_X12_at v_size_47f v_text_47f x2_47).bind fun r_16 =>
    (f_X12_isWordByte r_16).bind fun r_18 =>
    if b2i r_18 = 0 then
    K_47 x2_47
    else
    lp_X12_next_47 y1_47 v_size_47f v_token_47f v_begin_47f v_end_47f v_tokens_47f v_code_47f v_text_47f n_47 (x2_47 + (1 : Int32)) K_47
def f_X12_next (v_size : Int32) (v_token : Int32) (v_begin : Int32) (v_end : Int32) (v_tokens : Int32) (v_code : Int32) (v_text : Nat → Int32) : Option (Int32 × Int32 × Int32 × Int32 × Int32) :=
  lp_X12_next_5 v_size v_token v_begin v_end v_tokens v_code v_text 5000 v_end (fun x1_5_8 => 
  lp_X12_next_47 x1_5_8 v_size v_token x1_5_8 v_end v_tokens v_code v_text 5000 x1_5_8 (fun x2_47_21 => 
  if x1_5_8 < v_size then
  (if x2_47_21 ≤ x1_5_8 then
  ((f_X12_at v_size v_text x1_5_8).bind fun r_29 =>
  jn (κ := Int32 → Option (Int32 × Int32 × Int32 × Int32 × Int32)) (fun (s0_195 : Int32) =>
  if s0_195 = 0 then
  some (63, x1_5_8, x1_5_8 + (1 : Int32), v_tokens + (1 : Int32), v_code)
  else
  some (r_29, x1_5_8, x1_5_8 + (1 : Int32), v_tokens + (1 : Int32), v_code)) fun j_195 =>
  jn (κ := Option (Int32 × Int32 × Int32 × Int32 × Int32)) (j_195 1) fun j_190 =>
  if r_29 = 40 then
  j_190
  else
  (if r_29 = 41 then
  j_190
  else
  (if r_29 = 33 then
  j_190
  else
  (if r_29 = 38 then
  j_190
  else
  (if r_29 = 124 then
  j_190
  else
  (if r_29 = 94 then
  j_190
  else
  (if r_29 = 62 then
  j_190
  else
  (if r_29 = 61 then
  j_190
  else
  (if r_29 = 59 then
  j_190
  else
  (if r_29 = 58 then
  j_190
  else
  j_195 0))))))))))
  else
  ((f_X12_word v_size v_token v_code v_text x1_5_8 (x2_47_21 - x1_5_8)).bind fun (v_token_42, v_code_43) =>
  some (v_token_42, x1_5_8, x2_47_21, v_tokens + (1 : Int32), v_code_43)))
  else
  some (0, x1_5_8, x1_5_8, v_tokens + (1 : Int32), v_code)))
set_option maxHeartbeats 4000000 in
set_option maxRecDepth 100000 in
theorem c_X12_next (l : Launch) (g : GT) (h : Nat) (h_tape : Nat) (v_taped : Int32) (h_text : Nat) (v_size : Int32) (v_token : Int32) (v_begin : Int32) (v_end : Int32) (v_tokens : Int32) (v_code : Int32) (v_faultKind : Int32) (v_faultPlace : Int32) (v_names : Int32) (v_blocks : Int32) (h_nameCode : Nat) (h_nameBlock : Nat) (h_blockMany : Nat) (h_blockAll : Nat) (v_nodeMany : Int32) (v_top : Int32) (h_kind : Nat) (h_left : Nat) (h_right : Nat) (v_namesWas : Int32) (v_blocksWas : Int32) (v_nodeManyWas : Int32) (v_topWas : Int32) (h_nameCodeWas : Nat) (h_nameBlockWas : Nat) (h_blockManyWas : Nat) (h_blockAllWas : Nat) (h_kindWas : Nat) (h_leftWas : Nat) (h_rightWas : Nat) (h_wait : Nat) (h_done : Nat) (v_waits : Int32) (v_dones : Int32) (v_opened : Int32) (h_leaf : Nat) (h_fold : Nat) (h_kept : Nat) (h_now : Nat) (v_played : Int32) (v_depth : Int32) (v_prefix : Int32) (h_moveMade : Nat) (h_out : Nat) (v_written : Int32) (h_later : Nat) (v_laters : Int32) (v_text : Nat → Int32) (u_token : Int32) (u_begin : Int32) (u_end : Int32) (u_tokens : Int32) (u_code : Int32) (hf : f_X12_next v_size v_token v_begin v_end v_tokens v_code v_text = some (u_token, u_begin, u_end, u_tokens, u_code)) : Con l g yX12_next cX12_next 5 none ({ frames := 2, cells := 0, slots := 0, locals := 45 }) [.ref h] [oX12 h h_tape v_taped h_text v_size v_token v_begin v_end v_tokens v_code v_faultKind v_faultPlace v_names v_blocks h_nameCode h_nameBlock h_blockMany h_blockAll v_nodeMany v_top h_kind h_left h_right v_namesWas v_blocksWas v_nodeManyWas v_topWas h_nameCodeWas h_nameBlockWas h_blockManyWas h_blockAllWas h_kindWas h_leftWas h_rightWas h_wait h_done v_waits v_dones v_opened h_leaf h_fold h_kept h_now v_played v_depth v_prefix h_moveMade h_out v_written h_later v_laters, aB g h_text 601 v_text] none [oX12 h h_tape v_taped h_text v_size u_token u_begin u_end u_tokens u_code v_faultKind v_faultPlace v_names v_blocks h_nameCode h_nameBlock h_blockMany h_blockAll v_nodeMany v_top h_kind h_left h_right v_namesWas v_blocksWas v_nodeManyWas v_topWas h_nameCodeWas h_nameBlockWas h_blockManyWas h_blockAllWas h_kindWas h_leftWas h_rightWas h_wait h_done v_waits v_dones v_opened h_leaf h_fold h_kept h_now v_played v_depth v_prefix h_moveMade h_out v_written h_later v_laters, aB g h_text 601 v_text] := by
  refine Con.of (by decide) (Nat.le_of_ble_eq_true rfl) ?_
  intro p e s m below meth c A ls hAe X hP hD hS hl
  obtain ⟨hx, hb, hml, hr, hown, hts, hlk, hnm, hA, hG, hZ⟩ := id X
  have hown : s.vm.findClass RX12 = some m.cls := hown
  have hl : lv_has ls 5 [(0, .ref h)] := hl
  unfold f_X12_next at hf
  refine lv_aload_n hx hb dX12_next_0 rfl (lv_at hl 0 rfl) ?_
  refine gf_X12_124 X rfl hP 0 rfl rfl dX12_next_1 ?_
  refine lv_istore_n (lv' := [(1, .int v_end), (0, .ref h)]) hx hb dX12_next_4 rfl hl (by decide) rfl (fun ls hl => ?_)
  have L_5 : ∀ (n : Nat) (x1_5 : Int32) (H : Heap) (locs : List Loc) (ls : Array Slot) (K_5 : Int32 → Option (Int32 × Int32 × Int32 × Int32 × Int32)), va_P g.1 vwCl [oX12 h h_tape v_taped h_text v_size v_token v_begin v_end v_tokens v_code v_faultKind v_faultPlace v_names v_blocks h_nameCode h_nameBlock h_blockMany h_blockAll v_nodeMany v_top h_kind h_left h_right v_namesWas v_blocksWas v_nodeManyWas v_topWas h_nameCodeWas h_nameBlockWas h_blockManyWas h_blockAllWas h_kindWas h_leftWas h_rightWas h_wait h_done v_waits v_dones v_opened h_leaf h_fold h_kept h_now v_played v_depth v_prefix h_moveMade h_out v_written h_later v_laters, aB g h_text 601 v_text] H → va_D A [oX12 h h_tape v_taped h_text v_size v_token v_begin v_end v_tokens v_code v_faultKind v_faultPlace v_names v_blocks h_nameCode h_nameBlock h_blockMany h_blockAll v_nodeMany v_top h_kind h_left h_right v_namesWas v_blocksWas v_nodeManyWas v_topWas h_nameCodeWas h_nameBlockWas h_blockManyWas h_blockAllWas h_kindWas h_leftWas h_rightWas h_wait h_done v_waits v_dones v_opened h_leaf h_fold h_kept h_now v_played v_depth v_prefix h_moveMade h_out v_written h_later v_laters, aB g h_text 601 v_text] → va_S A s.heap H locs → lv_has ls 5 [(0, .ref h), (1, .int x1_5)] → (∀ (z_x1_5 : Int32) (H : Heap) (locs : List Loc) (ls : Array Slot), va_P g.1 vwCl [oX12 h h_tape v_taped h_text v_size v_token v_begin v_end v_tokens v_code v_faultKind v_faultPlace v_names v_blocks h_nameCode h_nameBlock h_blockMany h_blockAll v_nodeMany v_top h_kind h_left h_right v_namesWas v_blocksWas v_nodeManyWas v_topWas h_nameCodeWas h_nameBlockWas h_blockManyWas h_blockAllWas h_kindWas h_leftWas h_rightWas h_wait h_done v_waits v_dones v_opened h_leaf h_fold h_kept h_now v_played v_depth v_prefix h_moveMade h_out v_written h_later v_laters, aB g h_text 601 v_text] H → va_D A [oX12 h h_tape v_taped h_text v_size v_token v_begin v_end v_tokens v_code v_faultKind v_faultPlace v_names v_blocks h_nameCode h_nameBlock h_blockMany h_blockAll v_nodeMany v_top h_kind h_left h_right v_namesWas v_blocksWas v_nodeManyWas v_topWas h_nameCodeWas h_nameBlockWas h_blockManyWas h_blockAllWas h_kindWas h_leftWas h_rightWas h_wait h_done v_waits v_dones v_opened h_leaf h_fold h_kept h_now v_played v_depth v_prefix h_moveMade h_out v_written h_later v_laters, aB g h_text 601 v_text] → va_S A s.heap H locs → lv_has ls 5 [(0, .ref h), (1, .int z_x1_5)] → K_5 z_x1_5 = some (u_token, u_begin, u_end, u_tokens, u_code) → W p l e ({ frames := 2, cells := 0, slots := 0, locals := 45 }) s m [.ref h].toArray below meth c H locs 0 0 (MQ below (fun _ => QW g [oX12 h h_tape v_taped h_text v_size v_token v_begin v_end v_tokens v_code v_faultKind v_faultPlace v_names v_blocks h_nameCode h_nameBlock h_blockMany h_blockAll v_nodeMany v_top h_kind h_left h_right v_namesWas v_blocksWas v_nodeManyWas v_topWas h_nameCodeWas h_nameBlockWas h_blockManyWas h_blockAllWas h_kindWas h_leftWas h_rightWas h_wait h_done v_waits v_dones v_opened h_leaf h_fold h_kept h_now v_played v_depth v_prefix h_moveMade h_out v_written h_later v_laters, aB g h_text 601 v_text] s.heap.size none [oX12 h h_tape v_taped h_text v_size u_token u_begin u_end u_tokens u_code v_faultKind v_faultPlace v_names v_blocks h_nameCode h_nameBlock h_blockMany h_blockAll v_nodeMany v_top h_kind h_left h_right v_namesWas v_blocksWas v_nodeManyWas v_topWas h_nameCodeWas h_nameBlockWas h_blockManyWas h_blockAllWas h_kindWas h_leftWas h_rightWas h_wait h_done v_waits v_dones v_opened h_leaf h_fold h_kept h_now v_played v_depth v_prefix h_moveMade h_out v_written h_later v_laters, aB g h_text 601 v_text]) [.ref h].toArray s 0 0 (va_A [oX12 h h_tape v_taped h_text v_size v_token v_begin v_end v_tokens v_code v_faultKind v_faultPlace v_names v_blocks h_nameCode h_nameBlock h_blockMany h_blockAll v_nodeMany v_top h_kind h_left h_right v_namesWas v_blocksWas v_nodeManyWas v_topWas h_nameCodeWas h_nameBlockWas h_blockManyWas h_blockAllWas h_kindWas h_leftWas h_rightWas h_wait h_done v_waits v_dones v_opened h_leaf h_fold h_kept h_now v_played v_depth v_prefix h_moveMade h_out v_written h_later v_laters, aB g h_text 601 v_text] s.heap.size)) (F0 m 40 ls [])) → lp_X12_next_5 v_size v_token v_begin v_end v_tokens v_code v_text n x1_5 K_5 = some (u_token, u_begin, u_end, u_tokens, u_code) → W p l e ({ frames := 2, cells := 0, slots := 0, locals := 45 }) s m [.ref h].toArray below meth c H locs 0 0 (MQ below (fun _ => QW g [oX12 h h_tape v_taped h_text v_size v_token v_begin v_end v_tokens v_code v_faultKind v_faultPlace v_names v_blocks h_nameCode h_nameBlock h_blockMany h_blockAll v_nodeMany v_top h_kind h_left h_right v_namesWas v_blocksWas v_nodeManyWas v_topWas h_nameCodeWas h_nameBlockWas h_blockManyWas h_blockAllWas h_kindWas h_leftWas h_rightWas h_wait h_done v_waits v_dones v_opened h_leaf h_fold h_kept h_now v_played v_depth v_prefix h_moveMade h_out v_written h_later v_laters, aB g h_text 601 v_text] s.heap.size none [oX12 h h_tape v_taped h_text v_size u_token u_begin u_end u_tokens u_code v_faultKind v_faultPlace v_names v_blocks h_nameCode h_nameBlock h_blockMany h_blockAll v_nodeMany v_top h_kind h_left h_right v_namesWas v_blocksWas v_nodeManyWas v_topWas h_nameCodeWas h_nameBlockWas h_blockManyWas h_blockAllWas h_kindWas h_leftWas h_rightWas h_wait h_done v_waits v_dones v_opened h_leaf h_fold h_kept h_now v_played v_depth v_prefix h_moveMade h_out v_written h_later v_laters, aB g h_text 601 v_text]) [.ref h].toArray s 0 0 (va_A [oX12 h h_tape v_taped h_text v_size v_token v_begin v_end v_tokens v_code v_faultKind v_faultPlace v_names v_blocks h_nameCode h_nameBlock h_blockMany h_blockAll v_nodeMany v_top h_kind h_left h_right v_namesWas v_blocksWas v_nodeManyWas v_topWas h_nameCodeWas h_nameBlockWas h_blockManyWas h_blockAllWas h_kindWas h_leftWas h_rightWas h_wait h_done v_waits v_dones v_opened h_leaf h_fold h_kept h_now v_played v_depth v_prefix h_moveMade h_out v_written h_later v_laters, aB g h_text 601 v_text] s.heap.size)) (F0 m 5 ls []) := by
    intro n
    induction n with
    | zero =>
      intro x1_5 H locs ls K_5 hP hD hS hl hk hf
      have hf : (none : Option (Int32 × Int32 × Int32 × Int32 × Int32)) = some _ := hf
      cases hf
    | succ n_5 ih_5 =>
      intro x1_5 H locs ls K_5 hP hD hS hl hk_5 hf
      refine lv_iload_n hx hb dX12_next_5 rfl (lv_at hl 1 rfl) ?_
      refine lv_aload_n hx hb dX12_next_6 rfl (lv_at hl 0 rfl) ?_
      refine gf_X12_114 X rfl hP 0 rfl rfl dX12_next_7 ?_
      refine lv_icmp_ge (tgt := 40) hx hb dX12_next_10 (by decide) (fun c_9 => ?_) (fun c_9 => ?_)
      · have hf := ift hf c_9
        exact hk_5 x1_5 H locs ls hP hD hS (lv_sub hl [0, 1] rfl) hf
      · have hf := iff_ hf c_9
        refine lv_aload_n hx hb dX12_next_13 rfl (lv_at hl 0 rfl) ?_
        refine lv_iload_n hx hb dX12_next_14 rfl (lv_at hl 1 rfl) ?_
        obtain ⟨r_10, hf_11, hf⟩ := obind hf
        refine gcV (rest := []) (wn := [oX12 h h_tape v_taped h_text v_size v_token v_begin v_end v_tokens v_code v_faultKind v_faultPlace v_names v_blocks h_nameCode h_nameBlock h_blockMany h_blockAll v_nodeMany v_top h_kind h_left h_right v_namesWas v_blocksWas v_nodeManyWas v_topWas h_nameCodeWas h_nameBlockWas h_blockManyWas h_blockAllWas h_kindWas h_leftWas h_rightWas h_wait h_done v_waits v_dones v_opened h_leaf h_fold h_kept h_now v_played v_depth v_prefix h_moveMade h_out v_written h_later v_laters, aB g h_text 601 v_text]) X hP hD hS hl (c_X12_at l g h h_tape v_taped h_text v_size v_token v_begin v_end v_tokens v_code v_faultKind v_faultPlace v_names v_blocks h_nameCode h_nameBlock h_blockMany h_blockAll v_nodeMany v_top h_kind h_left h_right v_namesWas v_blocksWas v_nodeManyWas v_topWas h_nameCodeWas h_nameBlockWas h_blockManyWas h_blockAllWas h_kindWas h_leftWas h_rightWas h_wait h_done v_waits v_dones v_opened h_leaf h_fold h_kept h_now v_played v_depth v_prefix h_moveMade h_out v_written h_later v_laters v_text x1_5 r_10 hf_11) [0, 1] rfl rfl rfl [.inr 0, .inr 1] rfl rfl cd_X12_at rfl im_X12_at se_X12_at ml_X12_127 0 rfl rfl rfl rfl rfl ⟨(Nat.le_of_ble_eq_true rfl), (Nat.le_of_ble_eq_true rfl)⟩ rfl (Nat.le_of_ble_eq_true rfl) dX12_next_15 ⟨(Nat.le_of_ble_eq_true rfl), (Nat.le_of_ble_eq_true rfl)⟩ (fun H locs hP hD hS => ?_)
        refine lv_bipush (v := 32) hx hb dX12_next_18 (by decide) ?_
        refine lv_icmp_eq (tgt := 33) hx hb dX12_next_20 (by decide) (fun c_12 => ?_) (fun c_12 => ?_)
        · have hf := ift hf c_12
          refine lv_iload_n hx hb dX12_next_33 rfl (lv_at hl 1 rfl) ?_
          refine lv_iconst (v := 1) hx hb dX12_next_34 (by decide) ?_
          refine lv_iadd hx hb dX12_next_35 ?_
          refine lv_istore_n (lv' := [(1, .int (x1_5 + (1 : Int32))), (0, .ref h)]) hx hb dX12_next_36 rfl hl (by decide) rfl (fun ls hl => ?_)
          refine lv_goto (tgt := 5) hx hb dX12_next_37 (by decide) ?_
          exact ih_5 (x1_5 + (1 : Int32)) H locs ls K_5 hP hD hS (lv_sub hl [1, 0] rfl) hk_5 hf
        · have hf := iff_ hf c_12
          refine lv_aload_n hx hb dX12_next_23 rfl (lv_at hl 0 rfl) ?_
          refine lv_iload_n hx hb dX12_next_24 rfl (lv_at hl 1 rfl) ?_
          obtain ⟨r_13, hf_14, hf⟩ := obind hf
          refine gcV (rest := []) (wn := [oX12 h h_tape v_taped h_text v_size v_token v_begin v_end v_tokens v_code v_faultKind v_faultPlace v_names v_blocks h_nameCode h_nameBlock h_blockMany h_blockAll v_nodeMany v_top h_kind h_left h_right v_namesWas v_blocksWas v_nodeManyWas v_topWas h_nameCodeWas h_nameBlockWas h_blockManyWas h_blockAllWas h_kindWas h_leftWas h_rightWas h_wait h_done v_waits v_dones v_opened h_leaf h_fold h_kept h_now v_played v_depth v_prefix h_moveMade h_out v_written h_later v_laters, aB g h_text 601 v_text]) X hP hD hS hl (c_X12_at l g h h_tape v_taped h_text v_size v_token v_begin v_end v_tokens v_code v_faultKind v_faultPlace v_names v_blocks h_nameCode h_nameBlock h_blockMany h_blockAll v_nodeMany v_top h_kind h_left h_right v_namesWas v_blocksWas v_nodeManyWas v_topWas h_nameCodeWas h_nameBlockWas h_blockManyWas h_blockAllWas h_kindWas h_leftWas h_rightWas h_wait h_done v_waits v_dones v_opened h_leaf h_fold h_kept h_now v_played v_depth v_prefix h_moveMade h_out v_written h_later v_laters v_text x1_5 r_13 hf_14) [0, 1] rfl rfl rfl [.inr 0, .inr 1] rfl rfl cd_X12_at rfl im_X12_at se_X12_at ml_X12_127 0 rfl rfl rfl rfl rfl ⟨(Nat.le_of_ble_eq_true rfl), (Nat.le_of_ble_eq_true rfl)⟩ rfl (Nat.le_of_ble_eq_true rfl) dX12_next_25 ⟨(Nat.le_of_ble_eq_true rfl), (Nat.le_of_ble_eq_true rfl)⟩ (fun H locs hP hD hS => ?_)
          refine lv_bipush (v := 10) hx hb dX12_next_28 (by decide) ?_
          refine lv_icmp_ne (tgt := 40) hx hb dX12_next_30 (by decide) (fun c_15 => ?_) (fun c_15 => ?_)
          · have hf := iff_ hf c_15
            exact hk_5 x1_5 H locs ls hP hD hS (lv_sub hl [0, 1] rfl) hf
          · have hf := ift hf c_15
            refine lv_iload_n hx hb dX12_next_33 rfl (lv_at hl 1 rfl) ?_
            refine lv_iconst (v := 1) hx hb dX12_next_34 (by decide) ?_
            refine lv_iadd hx hb dX12_next_35 ?_
            refine lv_istore_n (lv' := [(1, .int (x1_5 + (1 : Int32))), (0, .ref h)]) hx hb dX12_next_36 rfl hl (by decide) rfl (fun ls hl => ?_)
            refine lv_goto (tgt := 5) hx hb dX12_next_37 (by decide) ?_
            exact ih_5 (x1_5 + (1 : Int32)) H locs ls K_5 hP hD hS (lv_sub hl [1, 0] rfl) hk_5 hf
  refine L_5 _ _ _ _ ls _ hP hD hS (lv_sub hl [1, 0] rfl) (fun x1_5_8 H locs ls hP hD hS hl hf => ?_) hf
  refine lv_aload_n hx hb dX12_next_40 rfl (lv_at hl 0 rfl) ?_
  refine lv_iload_n hx hb dX12_next_41 rfl (lv_at hl 1 rfl) ?_
  refine pf_X12_131 X rfl hP hD hS 0 rfl (Nat.le_of_ble_eq_true rfl) dX12_next_42 (fun H locs hP hD hS => ?_)
  have hP : va_P g.1 vwCl [oX12 h h_tape v_taped h_text v_size v_token x1_5_8 v_end v_tokens v_code v_faultKind v_faultPlace v_names v_blocks h_nameCode h_nameBlock h_blockMany h_blockAll v_nodeMany v_top h_kind h_left h_right v_namesWas v_blocksWas v_nodeManyWas v_topWas h_nameCodeWas h_nameBlockWas h_blockManyWas h_blockAllWas h_kindWas h_leftWas h_rightWas h_wait h_done v_waits v_dones v_opened h_leaf h_fold h_kept h_now v_played v_depth v_prefix h_moveMade h_out v_written h_later v_laters, aB g h_text 601 v_text] H := hP
  have hD : va_D A [oX12 h h_tape v_taped h_text v_size v_token x1_5_8 v_end v_tokens v_code v_faultKind v_faultPlace v_names v_blocks h_nameCode h_nameBlock h_blockMany h_blockAll v_nodeMany v_top h_kind h_left h_right v_namesWas v_blocksWas v_nodeManyWas v_topWas h_nameCodeWas h_nameBlockWas h_blockManyWas h_blockAllWas h_kindWas h_leftWas h_rightWas h_wait h_done v_waits v_dones v_opened h_leaf h_fold h_kept h_now v_played v_depth v_prefix h_moveMade h_out v_written h_later v_laters, aB g h_text 601 v_text] := hD
  refine lv_iload_n hx hb dX12_next_45 rfl (lv_at hl 1 rfl) ?_
  refine lv_istore_n (lv' := [(2, .int x1_5_8), (0, .ref h), (1, .int x1_5_8)]) hx hb dX12_next_46 rfl hl (by decide) rfl (fun ls hl => ?_)
  have L_47 : ∀ (n : Nat) (x2_47 : Int32) (H : Heap) (locs : List Loc) (ls : Array Slot) (K_47 : Int32 → Option (Int32 × Int32 × Int32 × Int32 × Int32)), va_P g.1 vwCl [oX12 h h_tape v_taped h_text v_size v_token x1_5_8 v_end v_tokens v_code v_faultKind v_faultPlace v_names v_blocks h_nameCode h_nameBlock h_blockMany h_blockAll v_nodeMany v_top h_kind h_left h_right v_namesWas v_blocksWas v_nodeManyWas v_topWas h_nameCodeWas h_nameBlockWas h_blockManyWas h_blockAllWas h_kindWas h_leftWas h_rightWas h_wait h_done v_waits v_dones v_opened h_leaf h_fold h_kept h_now v_played v_depth v_prefix h_moveMade h_out v_written h_later v_laters, aB g h_text 601 v_text] H → va_D A [oX12 h h_tape v_taped h_text v_size v_token x1_5_8 v_end v_tokens v_code v_faultKind v_faultPlace v_names v_blocks h_nameCode h_nameBlock h_blockMany h_blockAll v_nodeMany v_top h_kind h_left h_right v_namesWas v_blocksWas v_nodeManyWas v_topWas h_nameCodeWas h_nameBlockWas h_blockManyWas h_blockAllWas h_kindWas h_leftWas h_rightWas h_wait h_done v_waits v_dones v_opened h_leaf h_fold h_kept h_now v_played v_depth v_prefix h_moveMade h_out v_written h_later v_laters, aB g h_text 601 v_text] → va_S A s.heap H locs → lv_has ls 5 [(0, .ref h), (1, .int x1_5_8), (2, .int x2_47)] → (∀ (z_x2_47 : Int32) (H : Heap) (locs : List Loc) (ls : Array Slot), va_P g.1 vwCl [oX12 h h_tape v_taped h_text v_size v_token x1_5_8 v_end v_tokens v_code v_faultKind v_faultPlace v_names v_blocks h_nameCode h_nameBlock h_blockMany h_blockAll v_nodeMany v_top h_kind h_left h_right v_namesWas v_blocksWas v_nodeManyWas v_topWas h_nameCodeWas h_nameBlockWas h_blockManyWas h_blockAllWas h_kindWas h_leftWas h_rightWas h_wait h_done v_waits v_dones v_opened h_leaf h_fold h_kept h_now v_played v_depth v_prefix h_moveMade h_out v_written h_later v_laters, aB g h_text 601 v_text] H → va_D A [oX12 h h_tape v_taped h_text v_size v_token x1_5_8 v_end v_tokens v_code v_faultKind v_faultPlace v_names v_blocks h_nameCode h_nameBlock h_blockMany h_blockAll v_nodeMany v_top h_kind h_left h_right v_namesWas v_blocksWas v_nodeManyWas v_topWas h_nameCodeWas h_nameBlockWas h_blockManyWas h_blockAllWas h_kindWas h_leftWas h_rightWas h_wait h_done v_waits v_dones v_opened h_leaf h_fold h_kept h_now v_played v_depth v_prefix h_moveMade h_out v_written h_later v_laters, aB g h_text 601 v_text] → va_S A s.heap H locs → lv_has ls 5 [(0, .ref h), (1, .int x1_5_8), (2, .int z_x2_47)] → K_47 z_x2_47 = some (u_token, u_begin, u_end, u_tokens, u_code) → W p l e ({ frames := 2, cells := 0, slots := 0, locals := 45 }) s m [.ref h].toArray below meth c H locs 0 0 (MQ below (fun _ => QW g [oX12 h h_tape v_taped h_text v_size v_token v_begin v_end v_tokens v_code v_faultKind v_faultPlace v_names v_blocks h_nameCode h_nameBlock h_blockMany h_blockAll v_nodeMany v_top h_kind h_left h_right v_namesWas v_blocksWas v_nodeManyWas v_topWas h_nameCodeWas h_nameBlockWas h_blockManyWas h_blockAllWas h_kindWas h_leftWas h_rightWas h_wait h_done v_waits v_dones v_opened h_leaf h_fold h_kept h_now v_played v_depth v_prefix h_moveMade h_out v_written h_later v_laters, aB g h_text 601 v_text] s.heap.size none [oX12 h h_tape v_taped h_text v_size u_token u_begin u_end u_tokens u_code v_faultKind v_faultPlace v_names v_blocks h_nameCode h_nameBlock h_blockMany h_blockAll v_nodeMany v_top h_kind h_left h_right v_namesWas v_blocksWas v_nodeManyWas v_topWas h_nameCodeWas h_nameBlockWas h_blockManyWas h_blockAllWas h_kindWas h_leftWas h_rightWas h_wait h_done v_waits v_dones v_opened h_leaf h_fold h_kept h_now v_played v_depth v_prefix h_moveMade h_out v_written h_later v_laters, aB g h_text 601 v_text]) [.ref h].toArray s 0 0 (va_A [oX12 h h_tape v_taped h_text v_size v_token v_begin v_end v_tokens v_code v_faultKind v_faultPlace v_names v_blocks h_nameCode h_nameBlock h_blockMany h_blockAll v_nodeMany v_top h_kind h_left h_right v_namesWas v_blocksWas v_nodeManyWas v_topWas h_nameCodeWas h_nameBlockWas h_blockManyWas h_blockAllWas h_kindWas h_leftWas h_rightWas h_wait h_done v_waits v_dones v_opened h_leaf h_fold h_kept h_now v_played v_depth v_prefix h_moveMade h_out v_written h_later v_laters, aB g h_text 601 v_text] s.heap.size)) (F0 m 65 ls [])) → lp_X12_next_47 x1_5_8 v_size v_token x1_5_8 v_end v_tokens v_code v_text n x2_47 K_47 = some (u_token, u_begin, u_end, u_tokens, u_code) → W p l e ({ frames := 2, cells := 0, slots := 0, locals := 45 }) s m [.ref h].toArray below meth c H locs 0 0 (MQ below (fun _ => QW g [oX12 h h_tape v_taped h_text v_size v_token v_begin v_end v_tokens v_code v_faultKind v_faultPlace v_names v_blocks h_nameCode h_nameBlock h_blockMany h_blockAll v_nodeMany v_top h_kind h_left h_right v_namesWas v_blocksWas v_nodeManyWas v_topWas h_nameCodeWas h_nameBlockWas h_blockManyWas h_blockAllWas h_kindWas h_leftWas h_rightWas h_wait h_done v_waits v_dones v_opened h_leaf h_fold h_kept h_now v_played v_depth v_prefix h_moveMade h_out v_written h_later v_laters, aB g h_text 601 v_text] s.heap.size none [oX12 h h_tape v_taped h_text v_size u_token u_begin u_end u_tokens u_code v_faultKind v_faultPlace v_names v_blocks h_nameCode h_nameBlock h_blockMany h_blockAll v_nodeMany v_top h_kind h_left h_right v_namesWas v_blocksWas v_nodeManyWas v_topWas h_nameCodeWas h_nameBlockWas h_blockManyWas h_blockAllWas h_kindWas h_leftWas h_rightWas h_wait h_done v_waits v_dones v_opened h_leaf h_fold h_kept h_now v_played v_depth v_prefix h_moveMade h_out v_written h_later v_laters, aB g h_text 601 v_text]) [.ref h].toArray s 0 0 (va_A [oX12 h h_tape v_taped h_text v_size v_token v_begin v_end v_tokens v_code v_faultKind v_faultPlace v_names v_blocks h_nameCode h_nameBlock h_blockMany h_blockAll v_nodeMany v_top h_kind h_left h_right v_namesWas v_blocksWas v_nodeManyWas v_topWas h_nameCodeWas h_nameBlockWas h_blockManyWas h_blockAllWas h_kindWas h_leftWas h_rightWas h_wait h_done v_waits v_dones v_opened h_leaf h_fold h_kept h_now v_played v_depth v_prefix h_moveMade h_out v_written h_later v_laters, aB g h_text 601 v_text] s.heap.size)) (F0 m 47 ls []) := by
    intro n
    induction n with
    | zero =>
      intro x2_47 H locs ls K_47 hP hD hS hl hk hf
      have hf : (none : Option (Int32 × Int32 × Int32 × Int32 × Int32)) = some _ := hf
      cases hf
    | succ n_47 ih_47 =>
      intro x2_47 H locs ls K_47 hP hD hS hl hk_47 hf
      refine lv_aload_n hx hb dX12_next_47 rfl (lv_at hl 0 rfl) ?_
      refine lv_iload_n hx hb dX12_next_48 rfl (lv_at hl 2 rfl) ?_
      obtain ⟨r_22, hf_23, hf⟩ := obind hf
      refine gcV (rest := []) (wn := [oX12 h h_tape v_taped h_text v_size v_token x1_5_8 v_end v_tokens v_code v_faultKind v_faultPlace v_names v_blocks h_nameCode h_nameBlock h_blockMany h_blockAll v_nodeMany v_top h_kind h_left h_right v_namesWas v_blocksWas v_nodeManyWas v_topWas h_nameCodeWas h_nameBlockWas h_blockManyWas h_blockAllWas h_kindWas h_leftWas h_rightWas h_wait h_done v_waits v_dones v_opened h_leaf h_fold h_kept h_now v_played v_depth v_prefix h_moveMade h_out v_written h_later v_laters, aB g h_text 601 v_text]) X hP hD hS hl (c_X12_at l g h h_tape v_taped h_text v_size v_token x1_5_8 v_end v_tokens v_code v_faultKind v_faultPlace v_names v_blocks h_nameCode h_nameBlock h_blockMany h_blockAll v_nodeMany v_top h_kind h_left h_right v_namesWas v_blocksWas v_nodeManyWas v_topWas h_nameCodeWas h_nameBlockWas h_blockManyWas h_blockAllWas h_kindWas h_leftWas h_rightWas h_wait h_done v_waits v_dones v_opened h_leaf h_fold h_kept h_now v_played v_depth v_prefix h_moveMade h_out v_written h_later v_laters v_text x2_47 r_22 hf_23) [0, 1] rfl rfl rfl [.inr 0, .inr 1] rfl rfl cd_X12_at rfl im_X12_at se_X12_at ml_X12_127 0 rfl rfl rfl rfl rfl ⟨(Nat.le_of_ble_eq_true rfl), (Nat.le_of_ble_eq_true rfl)⟩ rfl (Nat.le_of_ble_eq_true rfl) dX12_next_49 ⟨(Nat.le_of_ble_eq_true rfl), (Nat.le_of_ble_eq_true rfl)⟩ (fun H locs hP hD hS => ?_)
      obtain ⟨r_24, hf_25, hf⟩ := obind hf
      refine gcS (rest := []) (wn := [oX12 h h_tape v_taped h_text v_size v_token x1_5_8 v_end v_tokens v_code v_faultKind v_faultPlace v_names v_blocks h_nameCode h_nameBlock h_blockMany h_blockAll v_nodeMany v_top h_kind h_left h_right v_namesWas v_blocksWas v_nodeManyWas v_topWas h_nameCodeWas h_nameBlockWas h_blockManyWas h_blockAllWas h_kindWas h_leftWas h_rightWas h_wait h_done v_waits v_dones v_opened h_leaf h_fold h_kept h_now v_played v_depth v_prefix h_moveMade h_out v_written h_later v_laters, aB g h_text 601 v_text]) X hP hD hS hl (c_X12_isWordByte l g r_22 r_24 hf_25) [] rfl rfl rfl [.inl 0, .inl 1] rfl rfl cd_X12_isWordByte rfl st_X12_isWordByte ml_X12_134 rfl rfl ⟨(Nat.le_of_ble_eq_true rfl), (Nat.le_of_ble_eq_true rfl)⟩ rfl (Nat.le_of_ble_eq_true rfl) dX12_next_52 ⟨(Nat.le_of_ble_eq_true rfl), (Nat.le_of_ble_eq_true rfl)⟩ (fun H locs hP hD hS => ?_)
      refine lv_if_eq (tgt := 65) hx hb dX12_next_55 (by decide) (fun c_26 => ?_) (fun c_26 => ?_)
      · have hf := ift hf c_26
        exact hk_47 x2_47 H locs ls hP hD hS (lv_sub hl [0, 1, 2] rfl) hf
      · have hf := iff_ hf c_26
        refine lv_iload_n hx hb dX12_next_58 rfl (lv_at hl 2 rfl) ?_
        refine lv_iconst (v := 1) hx hb dX12_next_59 (by decide) ?_
        refine lv_iadd hx hb dX12_next_60 ?_
        refine lv_istore_n (lv' := [(2, .int (x2_47 + (1 : Int32))), (0, .ref h), (1, .int x1_5_8)]) hx hb dX12_next_61 rfl hl (by decide) rfl (fun ls hl => ?_)
        refine lv_goto (tgt := 47) hx hb dX12_next_62 (by decide) ?_
        exact ih_47 (x2_47 + (1 : Int32)) H locs ls K_47 hP hD hS (lv_sub hl [1, 2, 0] rfl) hk_47 hf
  refine L_47 _ _ _ _ ls _ hP hD hS (lv_sub hl [1, 2, 0] rfl) (fun x2_47_21 H locs ls hP hD hS hl hf => ?_) hf
  refine lv_aload_n hx hb dX12_next_65 rfl (lv_at hl 0 rfl) ?_
  refine lv_aload_n hx hb dX12_next_66 rfl (lv_at hl 0 rfl) ?_
  refine gf_X12_137 X rfl hP 0 rfl rfl dX12_next_67 ?_
  refine lv_iconst (v := 1) hx hb dX12_next_70 (by decide) ?_
  refine lv_iadd hx hb dX12_next_71 ?_
  refine pf_X12_137 X rfl hP hD hS 0 rfl (Nat.le_of_ble_eq_true rfl) dX12_next_72 (fun H locs hP hD hS => ?_)
  have hP : va_P g.1 vwCl [oX12 h h_tape v_taped h_text v_size v_token x1_5_8 v_end (v_tokens + (1 : Int32)) v_code v_faultKind v_faultPlace v_names v_blocks h_nameCode h_nameBlock h_blockMany h_blockAll v_nodeMany v_top h_kind h_left h_right v_namesWas v_blocksWas v_nodeManyWas v_topWas h_nameCodeWas h_nameBlockWas h_blockManyWas h_blockAllWas h_kindWas h_leftWas h_rightWas h_wait h_done v_waits v_dones v_opened h_leaf h_fold h_kept h_now v_played v_depth v_prefix h_moveMade h_out v_written h_later v_laters, aB g h_text 601 v_text] H := hP
  have hD : va_D A [oX12 h h_tape v_taped h_text v_size v_token x1_5_8 v_end (v_tokens + (1 : Int32)) v_code v_faultKind v_faultPlace v_names v_blocks h_nameCode h_nameBlock h_blockMany h_blockAll v_nodeMany v_top h_kind h_left h_right v_namesWas v_blocksWas v_nodeManyWas v_topWas h_nameCodeWas h_nameBlockWas h_blockManyWas h_blockAllWas h_kindWas h_leftWas h_rightWas h_wait h_done v_waits v_dones v_opened h_leaf h_fold h_kept h_now v_played v_depth v_prefix h_moveMade h_out v_written h_later v_laters, aB g h_text 601 v_text] := hD
  refine lv_iload_n hx hb dX12_next_75 rfl (lv_at hl 1 rfl) ?_
  refine lv_aload_n hx hb dX12_next_76 rfl (lv_at hl 0 rfl) ?_
  refine gf_X12_114 X rfl hP 0 rfl rfl dX12_next_77 ?_
  refine lv_icmp_lt (tgt := 96) hx hb dX12_next_80 (by decide) (fun c_27 => ?_) (fun c_27 => ?_)
  · have hf := ift hf c_27
    refine lv_iload_n hx hb dX12_next_96 rfl (lv_at hl 2 rfl) ?_
    refine lv_iload_n hx hb dX12_next_97 rfl (lv_at hl 1 rfl) ?_
    refine lv_icmp_le (tgt := 117) hx hb dX12_next_98 (by decide) (fun c_28 => ?_) (fun c_28 => ?_)
    · have hf := ift hf c_28
      refine lv_aload_n hx hb dX12_next_117 rfl (lv_at hl 0 rfl) ?_
      refine lv_iload_n hx hb dX12_next_118 rfl (lv_at hl 1 rfl) ?_
      refine lv_iconst (v := 1) hx hb dX12_next_119 (by decide) ?_
      refine lv_iadd hx hb dX12_next_120 ?_
      refine pf_X12_124 X rfl hP hD hS 0 rfl (Nat.le_of_ble_eq_true rfl) dX12_next_121 (fun H locs hP hD hS => ?_)
      have hP : va_P g.1 vwCl [oX12 h h_tape v_taped h_text v_size v_token x1_5_8 (x1_5_8 + (1 : Int32)) (v_tokens + (1 : Int32)) v_code v_faultKind v_faultPlace v_names v_blocks h_nameCode h_nameBlock h_blockMany h_blockAll v_nodeMany v_top h_kind h_left h_right v_namesWas v_blocksWas v_nodeManyWas v_topWas h_nameCodeWas h_nameBlockWas h_blockManyWas h_blockAllWas h_kindWas h_leftWas h_rightWas h_wait h_done v_waits v_dones v_opened h_leaf h_fold h_kept h_now v_played v_depth v_prefix h_moveMade h_out v_written h_later v_laters, aB g h_text 601 v_text] H := hP
      have hD : va_D A [oX12 h h_tape v_taped h_text v_size v_token x1_5_8 (x1_5_8 + (1 : Int32)) (v_tokens + (1 : Int32)) v_code v_faultKind v_faultPlace v_names v_blocks h_nameCode h_nameBlock h_blockMany h_blockAll v_nodeMany v_top h_kind h_left h_right v_namesWas v_blocksWas v_nodeManyWas v_topWas h_nameCodeWas h_nameBlockWas h_blockManyWas h_blockAllWas h_kindWas h_leftWas h_rightWas h_wait h_done v_waits v_dones v_opened h_leaf h_fold h_kept h_now v_played v_depth v_prefix h_moveMade h_out v_written h_later v_laters, aB g h_text 601 v_text] := hD
      refine lv_aload_n hx hb dX12_next_124 rfl (lv_at hl 0 rfl) ?_
      refine lv_iload_n hx hb dX12_next_125 rfl (lv_at hl 1 rfl) ?_
      obtain ⟨r_29, hf_30, hf⟩ := obind hf
      refine gcV (rest := []) (wn := [oX12 h h_tape v_taped h_text v_size v_token x1_5_8 (x1_5_8 + (1 : Int32)) (v_tokens + (1 : Int32)) v_code v_faultKind v_faultPlace v_names v_blocks h_nameCode h_nameBlock h_blockMany h_blockAll v_nodeMany v_top h_kind h_left h_right v_namesWas v_blocksWas v_nodeManyWas v_topWas h_nameCodeWas h_nameBlockWas h_blockManyWas h_blockAllWas h_kindWas h_leftWas h_rightWas h_wait h_done v_waits v_dones v_opened h_leaf h_fold h_kept h_now v_played v_depth v_prefix h_moveMade h_out v_written h_later v_laters, aB g h_text 601 v_text]) X hP hD hS hl (c_X12_at l g h h_tape v_taped h_text v_size v_token x1_5_8 (x1_5_8 + (1 : Int32)) (v_tokens + (1 : Int32)) v_code v_faultKind v_faultPlace v_names v_blocks h_nameCode h_nameBlock h_blockMany h_blockAll v_nodeMany v_top h_kind h_left h_right v_namesWas v_blocksWas v_nodeManyWas v_topWas h_nameCodeWas h_nameBlockWas h_blockManyWas h_blockAllWas h_kindWas h_leftWas h_rightWas h_wait h_done v_waits v_dones v_opened h_leaf h_fold h_kept h_now v_played v_depth v_prefix h_moveMade h_out v_written h_later v_laters v_text x1_5_8 r_29 hf_30) [0, 1] rfl rfl rfl [.inr 0, .inr 1] rfl rfl cd_X12_at rfl im_X12_at se_X12_at ml_X12_127 0 rfl rfl rfl rfl rfl ⟨(Nat.le_of_ble_eq_true rfl), (Nat.le_of_ble_eq_true rfl)⟩ rfl (Nat.le_of_ble_eq_true rfl) dX12_next_126 ⟨(Nat.le_of_ble_eq_true rfl), (Nat.le_of_ble_eq_true rfl)⟩ (fun H locs hP hD hS => ?_)
      refine lv_istore_n (lv' := [(3, .int r_29), (0, .ref h), (1, .int x1_5_8), (2, .int x2_47_21)]) hx hb dX12_next_129 rfl hl (by decide) rfl (fun ls hl => ?_)
      refine lv_iload_n hx hb dX12_next_130 rfl (lv_at hl 0 rfl) ?_
      refine lv_bipush (v := 40) hx hb dX12_next_131 (by decide) ?_
      refine jn_elim hf (fun j_195 hj_195 hf => ?_)
      have J_195 : ∀ (s0_195 : Int32) (H : Heap) (locs : List Loc) (ls : Array Slot), va_P g.1 vwCl [oX12 h h_tape v_taped h_text v_size v_token x1_5_8 (x1_5_8 + (1 : Int32)) (v_tokens + (1 : Int32)) v_code v_faultKind v_faultPlace v_names v_blocks h_nameCode h_nameBlock h_blockMany h_blockAll v_nodeMany v_top h_kind h_left h_right v_namesWas v_blocksWas v_nodeManyWas v_topWas h_nameCodeWas h_nameBlockWas h_blockManyWas h_blockAllWas h_kindWas h_leftWas h_rightWas h_wait h_done v_waits v_dones v_opened h_leaf h_fold h_kept h_now v_played v_depth v_prefix h_moveMade h_out v_written h_later v_laters, aB g h_text 601 v_text] H → va_D A [oX12 h h_tape v_taped h_text v_size v_token x1_5_8 (x1_5_8 + (1 : Int32)) (v_tokens + (1 : Int32)) v_code v_faultKind v_faultPlace v_names v_blocks h_nameCode h_nameBlock h_blockMany h_blockAll v_nodeMany v_top h_kind h_left h_right v_namesWas v_blocksWas v_nodeManyWas v_topWas h_nameCodeWas h_nameBlockWas h_blockManyWas h_blockAllWas h_kindWas h_leftWas h_rightWas h_wait h_done v_waits v_dones v_opened h_leaf h_fold h_kept h_now v_played v_depth v_prefix h_moveMade h_out v_written h_later v_laters, aB g h_text 601 v_text] → va_S A s.heap H locs → lv_has ls 5 [(0, .ref h), (1, .int x1_5_8), (2, .int x2_47_21), (3, .int r_29)] → j_195 s0_195 = some (u_token, u_begin, u_end, u_tokens, u_code) → W p l e ({ frames := 2, cells := 0, slots := 0, locals := 45 }) s m [.ref h].toArray below meth c H locs 0 0 (MQ below (fun _ => QW g [oX12 h h_tape v_taped h_text v_size v_token v_begin v_end v_tokens v_code v_faultKind v_faultPlace v_names v_blocks h_nameCode h_nameBlock h_blockMany h_blockAll v_nodeMany v_top h_kind h_left h_right v_namesWas v_blocksWas v_nodeManyWas v_topWas h_nameCodeWas h_nameBlockWas h_blockManyWas h_blockAllWas h_kindWas h_leftWas h_rightWas h_wait h_done v_waits v_dones v_opened h_leaf h_fold h_kept h_now v_played v_depth v_prefix h_moveMade h_out v_written h_later v_laters, aB g h_text 601 v_text] s.heap.size none [oX12 h h_tape v_taped h_text v_size u_token u_begin u_end u_tokens u_code v_faultKind v_faultPlace v_names v_blocks h_nameCode h_nameBlock h_blockMany h_blockAll v_nodeMany v_top h_kind h_left h_right v_namesWas v_blocksWas v_nodeManyWas v_topWas h_nameCodeWas h_nameBlockWas h_blockManyWas h_blockAllWas h_kindWas h_leftWas h_rightWas h_wait h_done v_waits v_dones v_opened h_leaf h_fold h_kept h_now v_played v_depth v_prefix h_moveMade h_out v_written h_later v_laters, aB g h_text 601 v_text]) [.ref h].toArray s 0 0 (va_A [oX12 h h_tape v_taped h_text v_size v_token v_begin v_end v_tokens v_code v_faultKind v_faultPlace v_names v_blocks h_nameCode h_nameBlock h_blockMany h_blockAll v_nodeMany v_top h_kind h_left h_right v_namesWas v_blocksWas v_nodeManyWas v_topWas h_nameCodeWas h_nameBlockWas h_blockManyWas h_blockAllWas h_kindWas h_leftWas h_rightWas h_wait h_done v_waits v_dones v_opened h_leaf h_fold h_kept h_now v_played v_depth v_prefix h_moveMade h_out v_written h_later v_laters, aB g h_text 601 v_text] s.heap.size)) (F0 m 195 ls [.int s0_195]) := by
        intro s0_195 H locs ls hP hD hS hl hf
        rw [hj_195] at hf
        refine lv_istore (lv' := [(4, .int s0_195), (0, .ref h), (1, .int x1_5_8), (2, .int x2_47_21), (3, .int r_29)]) hx hb dX12_next_195 hl (by decide) rfl (fun ls hl => ?_)
        refine lv_aload_n hx hb dX12_next_197 rfl (lv_at hl 1 rfl) ?_
        refine lv_iload hx hb dX12_next_198 (lv_at hl 0 rfl) ?_
        refine lv_if_eq (tgt := 207) hx hb dX12_next_200 (by decide) (fun c_31 => ?_) (fun c_31 => ?_)
        · have hf := ift hf c_31
          refine lv_bipush (v := 63) hx hb dX12_next_207 (by decide) ?_
          refine pf_X12_140 X rfl hP hD hS 0 rfl (Nat.le_of_ble_eq_true rfl) dX12_next_209 (fun H locs hP hD hS => ?_)
          have hP : va_P g.1 vwCl [oX12 h h_tape v_taped h_text v_size 63 x1_5_8 (x1_5_8 + (1 : Int32)) (v_tokens + (1 : Int32)) v_code v_faultKind v_faultPlace v_names v_blocks h_nameCode h_nameBlock h_blockMany h_blockAll v_nodeMany v_top h_kind h_left h_right v_namesWas v_blocksWas v_nodeManyWas v_topWas h_nameCodeWas h_nameBlockWas h_blockManyWas h_blockAllWas h_kindWas h_leftWas h_rightWas h_wait h_done v_waits v_dones v_opened h_leaf h_fold h_kept h_now v_played v_depth v_prefix h_moveMade h_out v_written h_later v_laters, aB g h_text 601 v_text] H := hP
          have hD : va_D A [oX12 h h_tape v_taped h_text v_size 63 x1_5_8 (x1_5_8 + (1 : Int32)) (v_tokens + (1 : Int32)) v_code v_faultKind v_faultPlace v_names v_blocks h_nameCode h_nameBlock h_blockMany h_blockAll v_nodeMany v_top h_kind h_left h_right v_namesWas v_blocksWas v_nodeManyWas v_topWas h_nameCodeWas h_nameBlockWas h_blockManyWas h_blockAllWas h_kindWas h_leftWas h_rightWas h_wait h_done v_waits v_dones v_opened h_leaf h_fold h_kept h_now v_played v_depth v_prefix h_moveMade h_out v_written h_later v_laters, aB g h_text 601 v_text] := hD
          cases hf
          exact ret_v X hAe hP hD hS rfl dX12_next_212
        · have hf := iff_ hf c_31
          refine lv_iload_n hx hb dX12_next_203 rfl (lv_at hl 4 rfl) ?_
          refine lv_goto (tgt := 209) hx hb dX12_next_204 (by decide) ?_
          refine pf_X12_140 X rfl hP hD hS 0 rfl (Nat.le_of_ble_eq_true rfl) dX12_next_209 (fun H locs hP hD hS => ?_)
          have hP : va_P g.1 vwCl [oX12 h h_tape v_taped h_text v_size r_29 x1_5_8 (x1_5_8 + (1 : Int32)) (v_tokens + (1 : Int32)) v_code v_faultKind v_faultPlace v_names v_blocks h_nameCode h_nameBlock h_blockMany h_blockAll v_nodeMany v_top h_kind h_left h_right v_namesWas v_blocksWas v_nodeManyWas v_topWas h_nameCodeWas h_nameBlockWas h_blockManyWas h_blockAllWas h_kindWas h_leftWas h_rightWas h_wait h_done v_waits v_dones v_opened h_leaf h_fold h_kept h_now v_played v_depth v_prefix h_moveMade h_out v_written h_later v_laters, aB g h_text 601 v_text] H := hP
          have hD : va_D A [oX12 h h_tape v_taped h_text v_size r_29 x1_5_8 (x1_5_8 + (1 : Int32)) (v_tokens + (1 : Int32)) v_code v_faultKind v_faultPlace v_names v_blocks h_nameCode h_nameBlock h_blockMany h_blockAll v_nodeMany v_top h_kind h_left h_right v_namesWas v_blocksWas v_nodeManyWas v_topWas h_nameCodeWas h_nameBlockWas h_blockManyWas h_blockAllWas h_kindWas h_leftWas h_rightWas h_wait h_done v_waits v_dones v_opened h_leaf h_fold h_kept h_now v_played v_depth v_prefix h_moveMade h_out v_written h_later v_laters, aB g h_text 601 v_text] := hD
          cases hf
          exact ret_v X hAe hP hD hS rfl dX12_next_212
      refine jn_elim hf (fun j_190 hj_190 hf => ?_)
      have J_190 : ∀  (H : Heap) (locs : List Loc) (ls : Array Slot), va_P g.1 vwCl [oX12 h h_tape v_taped h_text v_size v_token x1_5_8 (x1_5_8 + (1 : Int32)) (v_tokens + (1 : Int32)) v_code v_faultKind v_faultPlace v_names v_blocks h_nameCode h_nameBlock h_blockMany h_blockAll v_nodeMany v_top h_kind h_left h_right v_namesWas v_blocksWas v_nodeManyWas v_topWas h_nameCodeWas h_nameBlockWas h_blockManyWas h_blockAllWas h_kindWas h_leftWas h_rightWas h_wait h_done v_waits v_dones v_opened h_leaf h_fold h_kept h_now v_played v_depth v_prefix h_moveMade h_out v_written h_later v_laters, aB g h_text 601 v_text] H → va_D A [oX12 h h_tape v_taped h_text v_size v_token x1_5_8 (x1_5_8 + (1 : Int32)) (v_tokens + (1 : Int32)) v_code v_faultKind v_faultPlace v_names v_blocks h_nameCode h_nameBlock h_blockMany h_blockAll v_nodeMany v_top h_kind h_left h_right v_namesWas v_blocksWas v_nodeManyWas v_topWas h_nameCodeWas h_nameBlockWas h_blockManyWas h_blockAllWas h_kindWas h_leftWas h_rightWas h_wait h_done v_waits v_dones v_opened h_leaf h_fold h_kept h_now v_played v_depth v_prefix h_moveMade h_out v_written h_later v_laters, aB g h_text 601 v_text] → va_S A s.heap H locs → lv_has ls 5 [(0, .ref h), (1, .int x1_5_8), (2, .int x2_47_21), (3, .int r_29)] → j_190  = some (u_token, u_begin, u_end, u_tokens, u_code) → W p l e ({ frames := 2, cells := 0, slots := 0, locals := 45 }) s m [.ref h].toArray below meth c H locs 0 0 (MQ below (fun _ => QW g [oX12 h h_tape v_taped h_text v_size v_token v_begin v_end v_tokens v_code v_faultKind v_faultPlace v_names v_blocks h_nameCode h_nameBlock h_blockMany h_blockAll v_nodeMany v_top h_kind h_left h_right v_namesWas v_blocksWas v_nodeManyWas v_topWas h_nameCodeWas h_nameBlockWas h_blockManyWas h_blockAllWas h_kindWas h_leftWas h_rightWas h_wait h_done v_waits v_dones v_opened h_leaf h_fold h_kept h_now v_played v_depth v_prefix h_moveMade h_out v_written h_later v_laters, aB g h_text 601 v_text] s.heap.size none [oX12 h h_tape v_taped h_text v_size u_token u_begin u_end u_tokens u_code v_faultKind v_faultPlace v_names v_blocks h_nameCode h_nameBlock h_blockMany h_blockAll v_nodeMany v_top h_kind h_left h_right v_namesWas v_blocksWas v_nodeManyWas v_topWas h_nameCodeWas h_nameBlockWas h_blockManyWas h_blockAllWas h_kindWas h_leftWas h_rightWas h_wait h_done v_waits v_dones v_opened h_leaf h_fold h_kept h_now v_played v_depth v_prefix h_moveMade h_out v_written h_later v_laters, aB g h_text 601 v_text]) [.ref h].toArray s 0 0 (va_A [oX12 h h_tape v_taped h_text v_size v_token v_begin v_end v_tokens v_code v_faultKind v_faultPlace v_names v_blocks h_nameCode h_nameBlock h_blockMany h_blockAll v_nodeMany v_top h_kind h_left h_right v_namesWas v_blocksWas v_nodeManyWas v_topWas h_nameCodeWas h_nameBlockWas h_blockManyWas h_blockAllWas h_kindWas h_leftWas h_rightWas h_wait h_done v_waits v_dones v_opened h_leaf h_fold h_kept h_now v_played v_depth v_prefix h_moveMade h_out v_written h_later v_laters, aB g h_text 601 v_text] s.heap.size)) (F0 m 190 ls []) := by
        intro  H locs ls hP hD hS hl hf
        rw [hj_190] at hf
        refine lv_iconst (v := 1) hx hb dX12_next_190 (by decide) ?_
        refine lv_goto (tgt := 195) hx hb dX12_next_191 (by decide) ?_
        exact J_195 1 _ _ ls hP hD hS (lv_sub hl [0, 1, 2, 3] rfl) hf
      refine lv_icmp_eq (tgt := 190) hx hb dX12_next_133 (by decide) (fun c_32 => ?_) (fun c_32 => ?_)
      · have hf := ift hf c_32
        exact J_190  _ _ ls hP hD hS (lv_sub hl [1, 2, 3, 0] rfl) hf
      · have hf := iff_ hf c_32
        refine lv_iload_n hx hb dX12_next_136 rfl (lv_at hl 0 rfl) ?_
        refine lv_bipush (v := 41) hx hb dX12_next_137 (by decide) ?_
        refine lv_icmp_eq (tgt := 190) hx hb dX12_next_139 (by decide) (fun c_33 => ?_) (fun c_33 => ?_)
        · have hf := ift hf c_33
          exact J_190  _ _ ls hP hD hS (lv_sub hl [1, 2, 3, 0] rfl) hf
        · have hf := iff_ hf c_33
          refine lv_iload_n hx hb dX12_next_142 rfl (lv_at hl 0 rfl) ?_
          refine lv_bipush (v := 33) hx hb dX12_next_143 (by decide) ?_
          refine lv_icmp_eq (tgt := 190) hx hb dX12_next_145 (by decide) (fun c_34 => ?_) (fun c_34 => ?_)
          · have hf := ift hf c_34
            exact J_190  _ _ ls hP hD hS (lv_sub hl [1, 2, 3, 0] rfl) hf
          · have hf := iff_ hf c_34
            refine lv_iload_n hx hb dX12_next_148 rfl (lv_at hl 0 rfl) ?_
            refine lv_bipush (v := 38) hx hb dX12_next_149 (by decide) ?_
            refine lv_icmp_eq (tgt := 190) hx hb dX12_next_151 (by decide) (fun c_35 => ?_) (fun c_35 => ?_)
            · have hf := ift hf c_35
              exact J_190  _ _ ls hP hD hS (lv_sub hl [1, 2, 3, 0] rfl) hf
            · have hf := iff_ hf c_35
              refine lv_iload_n hx hb dX12_next_154 rfl (lv_at hl 0 rfl) ?_
              refine lv_bipush (v := 124) hx hb dX12_next_155 (by decide) ?_
              refine lv_icmp_eq (tgt := 190) hx hb dX12_next_157 (by decide) (fun c_36 => ?_) (fun c_36 => ?_)
              · have hf := ift hf c_36
                exact J_190  _ _ ls hP hD hS (lv_sub hl [1, 2, 3, 0] rfl) hf
              · have hf := iff_ hf c_36
                refine lv_iload_n hx hb dX12_next_160 rfl (lv_at hl 0 rfl) ?_
                refine lv_bipush (v := 94) hx hb dX12_next_161 (by decide) ?_
                refine lv_icmp_eq (tgt := 190) hx hb dX12_next_163 (by decide) (fun c_37 => ?_) (fun c_37 => ?_)
                · have hf := ift hf c_37
                  exact J_190  _ _ ls hP hD hS (lv_sub hl [1, 2, 3, 0] rfl) hf
                · have hf := iff_ hf c_37
                  refine lv_iload_n hx hb dX12_next_166 rfl (lv_at hl 0 rfl) ?_
                  refine lv_bipush (v := 62) hx hb dX12_next_167 (by decide) ?_
                  refine lv_icmp_eq (tgt := 190) hx hb dX12_next_169 (by decide) (fun c_38 => ?_) (fun c_38 => ?_)
                  · have hf := ift hf c_38
                    exact J_190  _ _ ls hP hD hS (lv_sub hl [1, 2, 3, 0] rfl) hf
                  · have hf := iff_ hf c_38
                    refine lv_iload_n hx hb dX12_next_172 rfl (lv_at hl 0 rfl) ?_
                    refine lv_bipush (v := 61) hx hb dX12_next_173 (by decide) ?_
                    refine lv_icmp_eq (tgt := 190) hx hb dX12_next_175 (by decide) (fun c_39 => ?_) (fun c_39 => ?_)
                    · have hf := ift hf c_39
                      exact J_190  _ _ ls hP hD hS (lv_sub hl [1, 2, 3, 0] rfl) hf
                    · have hf := iff_ hf c_39
                      refine lv_iload_n hx hb dX12_next_178 rfl (lv_at hl 0 rfl) ?_
                      refine lv_bipush (v := 59) hx hb dX12_next_179 (by decide) ?_
                      refine lv_icmp_eq (tgt := 190) hx hb dX12_next_181 (by decide) (fun c_40 => ?_) (fun c_40 => ?_)
                      · have hf := ift hf c_40
                        exact J_190  _ _ ls hP hD hS (lv_sub hl [1, 2, 3, 0] rfl) hf
                      · have hf := iff_ hf c_40
                        refine lv_iload_n hx hb dX12_next_184 rfl (lv_at hl 0 rfl) ?_
                        refine lv_bipush (v := 58) hx hb dX12_next_185 (by decide) ?_
                        refine lv_icmp_ne (tgt := 194) hx hb dX12_next_187 (by decide) (fun c_41 => ?_) (fun c_41 => ?_)
                        · have hf := iff_ hf c_41
                          refine lv_iconst (v := 0) hx hb dX12_next_194 (by decide) ?_
                          exact J_195 0 _ _ ls hP hD hS (lv_sub hl [1, 2, 3, 0] rfl) hf
                        · have hf := ift hf c_41
                          exact J_190  _ _ ls hP hD hS (lv_sub hl [1, 2, 3, 0] rfl) hf
    · have hf := iff_ hf c_28
      refine lv_aload_n hx hb dX12_next_101 rfl (lv_at hl 0 rfl) ?_
      refine lv_iload_n hx hb dX12_next_102 rfl (lv_at hl 2 rfl) ?_
      refine pf_X12_124 X rfl hP hD hS 0 rfl (Nat.le_of_ble_eq_true rfl) dX12_next_103 (fun H locs hP hD hS => ?_)
      have hP : va_P g.1 vwCl [oX12 h h_tape v_taped h_text v_size v_token x1_5_8 x2_47_21 (v_tokens + (1 : Int32)) v_code v_faultKind v_faultPlace v_names v_blocks h_nameCode h_nameBlock h_blockMany h_blockAll v_nodeMany v_top h_kind h_left h_right v_namesWas v_blocksWas v_nodeManyWas v_topWas h_nameCodeWas h_nameBlockWas h_blockManyWas h_blockAllWas h_kindWas h_leftWas h_rightWas h_wait h_done v_waits v_dones v_opened h_leaf h_fold h_kept h_now v_played v_depth v_prefix h_moveMade h_out v_written h_later v_laters, aB g h_text 601 v_text] H := hP
      have hD : va_D A [oX12 h h_tape v_taped h_text v_size v_token x1_5_8 x2_47_21 (v_tokens + (1 : Int32)) v_code v_faultKind v_faultPlace v_names v_blocks h_nameCode h_nameBlock h_blockMany h_blockAll v_nodeMany v_top h_kind h_left h_right v_namesWas v_blocksWas v_nodeManyWas v_topWas h_nameCodeWas h_nameBlockWas h_blockManyWas h_blockAllWas h_kindWas h_leftWas h_rightWas h_wait h_done v_waits v_dones v_opened h_leaf h_fold h_kept h_now v_played v_depth v_prefix h_moveMade h_out v_written h_later v_laters, aB g h_text 601 v_text] := hD
      refine lv_aload_n hx hb dX12_next_106 rfl (lv_at hl 0 rfl) ?_
      refine lv_iload_n hx hb dX12_next_107 rfl (lv_at hl 1 rfl) ?_
      refine lv_iload_n hx hb dX12_next_108 rfl (lv_at hl 2 rfl) ?_
      refine lv_iload_n hx hb dX12_next_109 rfl (lv_at hl 1 rfl) ?_
      refine lv_isub hx hb dX12_next_110 ?_
      obtain ⟨⟨v_token_42, v_code_43⟩, hf_44, hf⟩ := obind hf
      refine gcV (rest := []) (wn := [oX12 h h_tape v_taped h_text v_size v_token_42 x1_5_8 x2_47_21 (v_tokens + (1 : Int32)) v_code_43 v_faultKind v_faultPlace v_names v_blocks h_nameCode h_nameBlock h_blockMany h_blockAll v_nodeMany v_top h_kind h_left h_right v_namesWas v_blocksWas v_nodeManyWas v_topWas h_nameCodeWas h_nameBlockWas h_blockManyWas h_blockAllWas h_kindWas h_leftWas h_rightWas h_wait h_done v_waits v_dones v_opened h_leaf h_fold h_kept h_now v_played v_depth v_prefix h_moveMade h_out v_written h_later v_laters, aB g h_text 601 v_text]) X hP hD hS hl (c_X12_word l g h h_tape v_taped h_text v_size v_token x1_5_8 x2_47_21 (v_tokens + (1 : Int32)) v_code v_faultKind v_faultPlace v_names v_blocks h_nameCode h_nameBlock h_blockMany h_blockAll v_nodeMany v_top h_kind h_left h_right v_namesWas v_blocksWas v_nodeManyWas v_topWas h_nameCodeWas h_nameBlockWas h_blockManyWas h_blockAllWas h_kindWas h_leftWas h_rightWas h_wait h_done v_waits v_dones v_opened h_leaf h_fold h_kept h_now v_played v_depth v_prefix h_moveMade h_out v_written h_later v_laters v_text x1_5_8 (x2_47_21 - x1_5_8) v_token_42 v_code_43 hf_44) [0, 1] rfl rfl rfl [.inr 0, .inr 1] rfl rfl cd_X12_word rfl im_X12_word se_X12_word ml_X12_143 0 rfl rfl rfl rfl rfl ⟨(Nat.le_of_ble_eq_true rfl), (Nat.le_of_ble_eq_true rfl)⟩ rfl (Nat.le_of_ble_eq_true rfl) dX12_next_111 ⟨(Nat.le_of_ble_eq_true rfl), (Nat.le_of_ble_eq_true rfl)⟩ (fun H locs hP hD hS => ?_)
      refine lv_goto (tgt := 212) hx hb dX12_next_114 (by decide) ?_
      cases hf
      exact ret_v X hAe hP hD hS rfl dX12_next_212
  · have hf := iff_ hf c_27
    refine lv_aload_n hx hb dX12_next_83 rfl (lv_at hl 0 rfl) ?_
    refine lv_iconst (v := 0) hx hb dX12_next_84 (by decide) ?_
    refine pf_X12_140 X rfl hP hD hS 0 rfl (Nat.le_of_ble_eq_true rfl) dX12_next_85 (fun H locs hP hD hS => ?_)
    have hP : va_P g.1 vwCl [oX12 h h_tape v_taped h_text v_size 0 x1_5_8 v_end (v_tokens + (1 : Int32)) v_code v_faultKind v_faultPlace v_names v_blocks h_nameCode h_nameBlock h_blockMany h_blockAll v_nodeMany v_top h_kind h_left h_right v_namesWas v_blocksWas v_nodeManyWas v_topWas h_nameCodeWas h_nameBlockWas h_blockManyWas h_blockAllWas h_kindWas h_leftWas h_rightWas h_wait h_done v_waits v_dones v_opened h_leaf h_fold h_kept h_now v_played v_depth v_prefix h_moveMade h_out v_written h_later v_laters, aB g h_text 601 v_text] H := hP
    have hD : va_D A [oX12 h h_tape v_taped h_text v_size 0 x1_5_8 v_end (v_tokens + (1 : Int32)) v_code v_faultKind v_faultPlace v_names v_blocks h_nameCode h_nameBlock h_blockMany h_blockAll v_nodeMany v_top h_kind h_left h_right v_namesWas v_blocksWas v_nodeManyWas v_topWas h_nameCodeWas h_nameBlockWas h_blockManyWas h_blockAllWas h_kindWas h_leftWas h_rightWas h_wait h_done v_waits v_dones v_opened h_leaf h_fold h_kept h_now v_played v_depth v_prefix h_moveMade h_out v_written h_later v_laters, aB g h_text 601 v_text] := hD
    refine lv_aload_n hx hb dX12_next_88 rfl (lv_at hl 0 rfl) ?_
    refine lv_iload_n hx hb dX12_next_89 rfl (lv_at hl 1 rfl) ?_
    refine pf_X12_124 X rfl hP hD hS 0 rfl (Nat.le_of_ble_eq_true rfl) dX12_next_90 (fun H locs hP hD hS => ?_)
    have hP : va_P g.1 vwCl [oX12 h h_tape v_taped h_text v_size 0 x1_5_8 x1_5_8 (v_tokens + (1 : Int32)) v_code v_faultKind v_faultPlace v_names v_blocks h_nameCode h_nameBlock h_blockMany h_blockAll v_nodeMany v_top h_kind h_left h_right v_namesWas v_blocksWas v_nodeManyWas v_topWas h_nameCodeWas h_nameBlockWas h_blockManyWas h_blockAllWas h_kindWas h_leftWas h_rightWas h_wait h_done v_waits v_dones v_opened h_leaf h_fold h_kept h_now v_played v_depth v_prefix h_moveMade h_out v_written h_later v_laters, aB g h_text 601 v_text] H := hP
    have hD : va_D A [oX12 h h_tape v_taped h_text v_size 0 x1_5_8 x1_5_8 (v_tokens + (1 : Int32)) v_code v_faultKind v_faultPlace v_names v_blocks h_nameCode h_nameBlock h_blockMany h_blockAll v_nodeMany v_top h_kind h_left h_right v_namesWas v_blocksWas v_nodeManyWas v_topWas h_nameCodeWas h_nameBlockWas h_blockManyWas h_blockAllWas h_kindWas h_leftWas h_rightWas h_wait h_done v_waits v_dones v_opened h_leaf h_fold h_kept h_now v_played v_depth v_prefix h_moveMade h_out v_written h_later v_laters, aB g h_text 601 v_text] := hD
    refine lv_goto (tgt := 212) hx hb dX12_next_93 (by decide) ?_
    cases hf
    exact ret_v X hAe hP hD hS rfl dX12_next_212
def f_X12_refuses (v_begin : Int32) (v_faultKind : Int32) (v_faultPlace : Int32) (a1 : Int32) : Option (Bool × Int32 × Int32) :=
  some (false, a1, v_begin)
set_option maxHeartbeats 4000000 in
set_option maxRecDepth 100000 in
theorem c_X12_refuses (l : Launch) (g : GT) (h : Nat) (h_tape : Nat) (v_taped : Int32) (h_text : Nat) (v_size : Int32) (v_token : Int32) (v_begin : Int32) (v_end : Int32) (v_tokens : Int32) (v_code : Int32) (v_faultKind : Int32) (v_faultPlace : Int32) (v_names : Int32) (v_blocks : Int32) (h_nameCode : Nat) (h_nameBlock : Nat) (h_blockMany : Nat) (h_blockAll : Nat) (v_nodeMany : Int32) (v_top : Int32) (h_kind : Nat) (h_left : Nat) (h_right : Nat) (v_namesWas : Int32) (v_blocksWas : Int32) (v_nodeManyWas : Int32) (v_topWas : Int32) (h_nameCodeWas : Nat) (h_nameBlockWas : Nat) (h_blockManyWas : Nat) (h_blockAllWas : Nat) (h_kindWas : Nat) (h_leftWas : Nat) (h_rightWas : Nat) (h_wait : Nat) (h_done : Nat) (v_waits : Int32) (v_dones : Int32) (v_opened : Int32) (h_leaf : Nat) (h_fold : Nat) (h_kept : Nat) (h_now : Nat) (v_played : Int32) (v_depth : Int32) (v_prefix : Int32) (h_moveMade : Nat) (h_out : Nat) (v_written : Int32) (h_later : Nat) (v_laters : Int32) (a1 : Int32) (r_ : Bool) (u_faultKind : Int32) (u_faultPlace : Int32) (hf : f_X12_refuses v_begin v_faultKind v_faultPlace a1 = some (r_, u_faultKind, u_faultPlace)) : Con l g yX12_refuses cX12_refuses 2 (some .boolean) ({ frames := 0, cells := 0, slots := 0, locals := 0 }) [.ref h, .int a1] [oX12 h h_tape v_taped h_text v_size v_token v_begin v_end v_tokens v_code v_faultKind v_faultPlace v_names v_blocks h_nameCode h_nameBlock h_blockMany h_blockAll v_nodeMany v_top h_kind h_left h_right v_namesWas v_blocksWas v_nodeManyWas v_topWas h_nameCodeWas h_nameBlockWas h_blockManyWas h_blockAllWas h_kindWas h_leftWas h_rightWas h_wait h_done v_waits v_dones v_opened h_leaf h_fold h_kept h_now v_played v_depth v_prefix h_moveMade h_out v_written h_later v_laters] (some (.int (b2i r_))) [oX12 h h_tape v_taped h_text v_size v_token v_begin v_end v_tokens v_code u_faultKind u_faultPlace v_names v_blocks h_nameCode h_nameBlock h_blockMany h_blockAll v_nodeMany v_top h_kind h_left h_right v_namesWas v_blocksWas v_nodeManyWas v_topWas h_nameCodeWas h_nameBlockWas h_blockManyWas h_blockAllWas h_kindWas h_leftWas h_rightWas h_wait h_done v_waits v_dones v_opened h_leaf h_fold h_kept h_now v_played v_depth v_prefix h_moveMade h_out v_written h_later v_laters] := by
  refine Con.of (by decide) (Nat.le_of_ble_eq_true rfl) ?_
  intro p e s m below meth c A ls hAe X hP hD hS hl
  obtain ⟨hx, hb, hml, hr, hown, hts, hlk, hnm, hA, hG, hZ⟩ := id X
  have hown : s.vm.findClass RX12 = some m.cls := hown
  have hl : lv_has ls 2 [(0, .ref h), (1, .int a1)] := hl
  unfold f_X12_refuses at hf
  refine lv_aload_n hx hb dX12_refuses_0 rfl (lv_at hl 0 rfl) ?_
  refine lv_iload_n hx hb dX12_refuses_1 rfl (lv_at hl 1 rfl) ?_
  refine pf_X12_150 X rfl hP hD hS 0 rfl (Nat.le_of_ble_eq_true rfl) dX12_refuses_2 (fun H locs hP hD hS => ?_)
  have hP : va_P g.1 vwCl [oX12 h h_tape v_taped h_text v_size v_token v_begin v_end v_tokens v_code a1 v_faultPlace v_names v_blocks h_nameCode h_nameBlock h_blockMany h_blockAll v_nodeMany v_top h_kind h_left h_right v_namesWas v_blocksWas v_nodeManyWas v_topWas h_nameCodeWas h_nameBlockWas h_blockManyWas h_blockAllWas h_kindWas h_leftWas h_rightWas h_wait h_done v_waits v_dones v_opened h_leaf h_fold h_kept h_now v_played v_depth v_prefix h_moveMade h_out v_written h_later v_laters] H := hP
  have hD : va_D A [oX12 h h_tape v_taped h_text v_size v_token v_begin v_end v_tokens v_code a1 v_faultPlace v_names v_blocks h_nameCode h_nameBlock h_blockMany h_blockAll v_nodeMany v_top h_kind h_left h_right v_namesWas v_blocksWas v_nodeManyWas v_topWas h_nameCodeWas h_nameBlockWas h_blockManyWas h_blockAllWas h_kindWas h_leftWas h_rightWas h_wait h_done v_waits v_dones v_opened h_leaf h_fold h_kept h_now v_played v_depth v_prefix h_moveMade h_out v_written h_later v_laters] := hD
  refine lv_aload_n hx hb dX12_refuses_5 rfl (lv_at hl 0 rfl) ?_
  refine lv_aload_n hx hb dX12_refuses_6 rfl (lv_at hl 0 rfl) ?_
  refine gf_X12_131 X rfl hP 0 rfl rfl dX12_refuses_7 ?_
  refine pf_X12_16 X rfl hP hD hS 0 rfl (Nat.le_of_ble_eq_true rfl) dX12_refuses_10 (fun H locs hP hD hS => ?_)
  have hP : va_P g.1 vwCl [oX12 h h_tape v_taped h_text v_size v_token v_begin v_end v_tokens v_code a1 v_begin v_names v_blocks h_nameCode h_nameBlock h_blockMany h_blockAll v_nodeMany v_top h_kind h_left h_right v_namesWas v_blocksWas v_nodeManyWas v_topWas h_nameCodeWas h_nameBlockWas h_blockManyWas h_blockAllWas h_kindWas h_leftWas h_rightWas h_wait h_done v_waits v_dones v_opened h_leaf h_fold h_kept h_now v_played v_depth v_prefix h_moveMade h_out v_written h_later v_laters] H := hP
  have hD : va_D A [oX12 h h_tape v_taped h_text v_size v_token v_begin v_end v_tokens v_code a1 v_begin v_names v_blocks h_nameCode h_nameBlock h_blockMany h_blockAll v_nodeMany v_top h_kind h_left h_right v_namesWas v_blocksWas v_nodeManyWas v_topWas h_nameCodeWas h_nameBlockWas h_blockManyWas h_blockAllWas h_kindWas h_leftWas h_rightWas h_wait h_done v_waits v_dones v_opened h_leaf h_fold h_kept h_now v_played v_depth v_prefix h_moveMade h_out v_written h_later v_laters] := hD
  refine lv_iconst (v := 0) hx hb dX12_refuses_13 (by decide) ?_
  cases hf
  exact ret_z (v := false) X hAe hP hD hS rfl dX12_refuses_14
def f_X12_takes (v_size : Int32) (v_token : Int32) (v_begin : Int32) (v_end : Int32) (v_tokens : Int32) (v_code : Int32) (v_faultKind : Int32) (v_faultPlace : Int32) (v_text : Nat → Int32) : Option (Bool × Int32 × Int32 × Int32 × Int32 × Int32 × Int32 × Int32) :=
  if v_tokens ≤ 160 then
  ((f_X12_next v_size v_token v_begin v_end v_tokens v_code v_text).bind fun (v_token_2, v_begin_3, v_end_4, v_tokens_5, v_code_6) =>
  some (true, v_token_2, v_begin_3, v_end_4, v_tokens_5, v_code_6, v_faultKind, v_faultPlace))
  else
  ((f_X12_refuses v_begin v_faultKind v_faultPlace 4).bind fun (r_8, v_faultKind_9, v_faultPlace_10) =>
  some (r_8, v_token, v_begin, v_end, v_tokens, v_code, v_faultKind_9, v_faultPlace_10))
set_option maxHeartbeats 4000000 in
set_option maxRecDepth 100000 in
theorem c_X12_takes (l : Launch) (g : GT) (h : Nat) (h_tape : Nat) (v_taped : Int32) (h_text : Nat) (v_size : Int32) (v_token : Int32) (v_begin : Int32) (v_end : Int32) (v_tokens : Int32) (v_code : Int32) (v_faultKind : Int32) (v_faultPlace : Int32) (v_names : Int32) (v_blocks : Int32) (h_nameCode : Nat) (h_nameBlock : Nat) (h_blockMany : Nat) (h_blockAll : Nat) (v_nodeMany : Int32) (v_top : Int32) (h_kind : Nat) (h_left : Nat) (h_right : Nat) (v_namesWas : Int32) (v_blocksWas : Int32) (v_nodeManyWas : Int32) (v_topWas : Int32) (h_nameCodeWas : Nat) (h_nameBlockWas : Nat) (h_blockManyWas : Nat) (h_blockAllWas : Nat) (h_kindWas : Nat) (h_leftWas : Nat) (h_rightWas : Nat) (h_wait : Nat) (h_done : Nat) (v_waits : Int32) (v_dones : Int32) (v_opened : Int32) (h_leaf : Nat) (h_fold : Nat) (h_kept : Nat) (h_now : Nat) (v_played : Int32) (v_depth : Int32) (v_prefix : Int32) (h_moveMade : Nat) (h_out : Nat) (v_written : Int32) (h_later : Nat) (v_laters : Int32) (v_text : Nat → Int32) (r_ : Bool) (u_token : Int32) (u_begin : Int32) (u_end : Int32) (u_tokens : Int32) (u_code : Int32) (u_faultKind : Int32) (u_faultPlace : Int32) (hf : f_X12_takes v_size v_token v_begin v_end v_tokens v_code v_faultKind v_faultPlace v_text = some (r_, u_token, u_begin, u_end, u_tokens, u_code, u_faultKind, u_faultPlace)) : Con l g yX12_takes cX12_takes 1 (some .boolean) ({ frames := 3, cells := 0, slots := 0, locals := 69 }) [.ref h] [oX12 h h_tape v_taped h_text v_size v_token v_begin v_end v_tokens v_code v_faultKind v_faultPlace v_names v_blocks h_nameCode h_nameBlock h_blockMany h_blockAll v_nodeMany v_top h_kind h_left h_right v_namesWas v_blocksWas v_nodeManyWas v_topWas h_nameCodeWas h_nameBlockWas h_blockManyWas h_blockAllWas h_kindWas h_leftWas h_rightWas h_wait h_done v_waits v_dones v_opened h_leaf h_fold h_kept h_now v_played v_depth v_prefix h_moveMade h_out v_written h_later v_laters, aB g h_text 601 v_text] (some (.int (b2i r_))) [oX12 h h_tape v_taped h_text v_size u_token u_begin u_end u_tokens u_code u_faultKind u_faultPlace v_names v_blocks h_nameCode h_nameBlock h_blockMany h_blockAll v_nodeMany v_top h_kind h_left h_right v_namesWas v_blocksWas v_nodeManyWas v_topWas h_nameCodeWas h_nameBlockWas h_blockManyWas h_blockAllWas h_kindWas h_leftWas h_rightWas h_wait h_done v_waits v_dones v_opened h_leaf h_fold h_kept h_now v_played v_depth v_prefix h_moveMade h_out v_written h_later v_laters, aB g h_text 601 v_text] := by
  refine Con.of (by decide) (Nat.le_of_ble_eq_true rfl) ?_
  intro p e s m below meth c A ls hAe X hP hD hS hl
  obtain ⟨hx, hb, hml, hr, hown, hts, hlk, hnm, hA, hG, hZ⟩ := id X
  have hown : s.vm.findClass RX12 = some m.cls := hown
  have hl : lv_has ls 1 [(0, .ref h)] := hl
  unfold f_X12_takes at hf
  refine lv_aload_n hx hb dX12_takes_0 rfl (lv_at hl 0 rfl) ?_
  refine gf_X12_137 X rfl hP 0 rfl rfl dX12_takes_1 ?_
  refine lv_sipush (v := 160) hx hb dX12_takes_4 (by decide) ?_
  refine lv_icmp_le (tgt := 16) hx hb dX12_takes_7 (by decide) (fun c_1 => ?_) (fun c_1 => ?_)
  · have hf := ift hf c_1
    refine lv_aload_n hx hb dX12_takes_16 rfl (lv_at hl 0 rfl) ?_
    obtain ⟨⟨v_token_2, v_begin_3, v_end_4, v_tokens_5, v_code_6⟩, hf_7, hf⟩ := obind hf
    refine gcV (rest := []) (wn := [oX12 h h_tape v_taped h_text v_size v_token_2 v_begin_3 v_end_4 v_tokens_5 v_code_6 v_faultKind v_faultPlace v_names v_blocks h_nameCode h_nameBlock h_blockMany h_blockAll v_nodeMany v_top h_kind h_left h_right v_namesWas v_blocksWas v_nodeManyWas v_topWas h_nameCodeWas h_nameBlockWas h_blockManyWas h_blockAllWas h_kindWas h_leftWas h_rightWas h_wait h_done v_waits v_dones v_opened h_leaf h_fold h_kept h_now v_played v_depth v_prefix h_moveMade h_out v_written h_later v_laters, aB g h_text 601 v_text]) X hP hD hS hl (c_X12_next l g h h_tape v_taped h_text v_size v_token v_begin v_end v_tokens v_code v_faultKind v_faultPlace v_names v_blocks h_nameCode h_nameBlock h_blockMany h_blockAll v_nodeMany v_top h_kind h_left h_right v_namesWas v_blocksWas v_nodeManyWas v_topWas h_nameCodeWas h_nameBlockWas h_blockManyWas h_blockAllWas h_kindWas h_leftWas h_rightWas h_wait h_done v_waits v_dones v_opened h_leaf h_fold h_kept h_now v_played v_depth v_prefix h_moveMade h_out v_written h_later v_laters v_text v_token_2 v_begin_3 v_end_4 v_tokens_5 v_code_6 hf_7) [0, 1] rfl rfl rfl [.inr 0, .inr 1] rfl rfl cd_X12_next rfl im_X12_next se_X12_next ml_X12_156 0 rfl rfl rfl rfl rfl ⟨(Nat.le_of_ble_eq_true rfl), (Nat.le_of_ble_eq_true rfl)⟩ rfl (Nat.le_of_ble_eq_true rfl) dX12_takes_17 ⟨(Nat.le_of_ble_eq_true rfl), (Nat.le_of_ble_eq_true rfl)⟩ (fun H locs hP hD hS => ?_)
    refine lv_iconst (v := 1) hx hb dX12_takes_20 (by decide) ?_
    cases hf
    exact ret_z (v := true) X hAe hP hD hS rfl dX12_takes_21
  · have hf := iff_ hf c_1
    refine lv_aload_n hx hb dX12_takes_10 rfl (lv_at hl 0 rfl) ?_
    refine lv_iconst (v := 4) hx hb dX12_takes_11 (by decide) ?_
    obtain ⟨⟨r_8, v_faultKind_9, v_faultPlace_10⟩, hf_11, hf⟩ := obind hf
    refine gcV (rest := []) (wn := [oX12 h h_tape v_taped h_text v_size v_token v_begin v_end v_tokens v_code v_faultKind_9 v_faultPlace_10 v_names v_blocks h_nameCode h_nameBlock h_blockMany h_blockAll v_nodeMany v_top h_kind h_left h_right v_namesWas v_blocksWas v_nodeManyWas v_topWas h_nameCodeWas h_nameBlockWas h_blockManyWas h_blockAllWas h_kindWas h_leftWas h_rightWas h_wait h_done v_waits v_dones v_opened h_leaf h_fold h_kept h_now v_played v_depth v_prefix h_moveMade h_out v_written h_later v_laters, aB g h_text 601 v_text]) X hP hD hS hl (c_X12_refuses l g h h_tape v_taped h_text v_size v_token v_begin v_end v_tokens v_code v_faultKind v_faultPlace v_names v_blocks h_nameCode h_nameBlock h_blockMany h_blockAll v_nodeMany v_top h_kind h_left h_right v_namesWas v_blocksWas v_nodeManyWas v_topWas h_nameCodeWas h_nameBlockWas h_blockManyWas h_blockAllWas h_kindWas h_leftWas h_rightWas h_wait h_done v_waits v_dones v_opened h_leaf h_fold h_kept h_now v_played v_depth v_prefix h_moveMade h_out v_written h_later v_laters 4 r_8 v_faultKind_9 v_faultPlace_10 hf_11) [0] rfl rfl rfl [.inr 0, .inl 1] rfl rfl cd_X12_refuses rfl im_X12_refuses se_X12_refuses ml_X12_153 0 rfl rfl rfl rfl rfl ⟨(Nat.le_of_ble_eq_true rfl), (Nat.le_of_ble_eq_true rfl)⟩ rfl (Nat.le_of_ble_eq_true rfl) dX12_takes_12 ⟨(Nat.le_of_ble_eq_true rfl), (Nat.le_of_ble_eq_true rfl)⟩ (fun H locs hP hD hS => ?_)
    cases hf
    exact ret_z X hAe hP hD hS rfl dX12_takes_15
def lp_X12_find_2 (y1_2 : Int32) (v_names_2f : Int32) (v_nameCode_2f : Nat → Int32) : Nat → Int32 → (Int32 → Option (Int32)) → Option (Int32)
  | 0, _, _ => none
  | n_2 + 1, x2_2, K_2 =>
    if v_names_2f ≤ x2_2 then
    K_2 x2_2
    else
    (if ix x2_2 12 then
    if v_nameCode_2f x2_2.toNatClampNeg = y1_2 then
    some x2_2
    else
    lp_X12_find_2 y1_2 v_names_2f v_nameCode_2f n_2 (x2_2 + 1) K_2
    else none)
def f_X12_find (v_names : Int32) (v_nameCode : Nat → Int32) (a1 : Int32) : Option (Int32) :=
  lp_X12_find_2 a1 v_names v_nameCode 5000 0 (fun x2_2_4 => 
  some (-1))
set_option maxHeartbeats 4000000 in
set_option maxRecDepth 100000 in
theorem c_X12_find (l : Launch) (g : GT) (h : Nat) (h_tape : Nat) (v_taped : Int32) (h_text : Nat) (v_size : Int32) (v_token : Int32) (v_begin : Int32) (v_end : Int32) (v_tokens : Int32) (v_code : Int32) (v_faultKind : Int32) (v_faultPlace : Int32) (v_names : Int32) (v_blocks : Int32) (h_nameCode : Nat) (h_nameBlock : Nat) (h_blockMany : Nat) (h_blockAll : Nat) (v_nodeMany : Int32) (v_top : Int32) (h_kind : Nat) (h_left : Nat) (h_right : Nat) (v_namesWas : Int32) (v_blocksWas : Int32) (v_nodeManyWas : Int32) (v_topWas : Int32) (h_nameCodeWas : Nat) (h_nameBlockWas : Nat) (h_blockManyWas : Nat) (h_blockAllWas : Nat) (h_kindWas : Nat) (h_leftWas : Nat) (h_rightWas : Nat) (h_wait : Nat) (h_done : Nat) (v_waits : Int32) (v_dones : Int32) (v_opened : Int32) (h_leaf : Nat) (h_fold : Nat) (h_kept : Nat) (h_now : Nat) (v_played : Int32) (v_depth : Int32) (v_prefix : Int32) (h_moveMade : Nat) (h_out : Nat) (v_written : Int32) (h_later : Nat) (v_laters : Int32) (v_nameCode : Nat → Int32) (a1 : Int32) (r_ : Int32) (hf : f_X12_find v_names v_nameCode a1 = some r_) : Con l g yX12_find cX12_find 3 (some .int) ({ frames := 0, cells := 0, slots := 0, locals := 0 }) [.ref h, .int a1] [oX12 h h_tape v_taped h_text v_size v_token v_begin v_end v_tokens v_code v_faultKind v_faultPlace v_names v_blocks h_nameCode h_nameBlock h_blockMany h_blockAll v_nodeMany v_top h_kind h_left h_right v_namesWas v_blocksWas v_nodeManyWas v_topWas h_nameCodeWas h_nameBlockWas h_blockManyWas h_blockAllWas h_kindWas h_leftWas h_rightWas h_wait h_done v_waits v_dones v_opened h_leaf h_fold h_kept h_now v_played v_depth v_prefix h_moveMade h_out v_written h_later v_laters, aI g h_nameCode 12 v_nameCode] (some (.int r_)) [oX12 h h_tape v_taped h_text v_size v_token v_begin v_end v_tokens v_code v_faultKind v_faultPlace v_names v_blocks h_nameCode h_nameBlock h_blockMany h_blockAll v_nodeMany v_top h_kind h_left h_right v_namesWas v_blocksWas v_nodeManyWas v_topWas h_nameCodeWas h_nameBlockWas h_blockManyWas h_blockAllWas h_kindWas h_leftWas h_rightWas h_wait h_done v_waits v_dones v_opened h_leaf h_fold h_kept h_now v_played v_depth v_prefix h_moveMade h_out v_written h_later v_laters, aI g h_nameCode 12 v_nameCode] := by
  refine Con.of (by decide) (Nat.le_of_ble_eq_true rfl) ?_
  intro p e s m below meth c A ls hAe X hP hD hS hl
  obtain ⟨hx, hb, hml, hr, hown, hts, hlk, hnm, hA, hG, hZ⟩ := id X
  have hown : s.vm.findClass RX12 = some m.cls := hown
  have hl : lv_has ls 3 [(0, .ref h), (1, .int a1)] := hl
  unfold f_X12_find at hf
  refine lv_iconst (v := 0) hx hb dX12_find_0 (by decide) ?_
  refine lv_istore_n (lv' := [(2, .int 0), (0, .ref h), (1, .int a1)]) hx hb dX12_find_1 rfl hl (by decide) rfl (fun ls hl => ?_)
  have L_2 : ∀ (n : Nat) (x2_2 : Int32) (H : Heap) (locs : List Loc) (ls : Array Slot) (K_2 : Int32 → Option (Int32)), va_P g.1 vwCl [oX12 h h_tape v_taped h_text v_size v_token v_begin v_end v_tokens v_code v_faultKind v_faultPlace v_names v_blocks h_nameCode h_nameBlock h_blockMany h_blockAll v_nodeMany v_top h_kind h_left h_right v_namesWas v_blocksWas v_nodeManyWas v_topWas h_nameCodeWas h_nameBlockWas h_blockManyWas h_blockAllWas h_kindWas h_leftWas h_rightWas h_wait h_done v_waits v_dones v_opened h_leaf h_fold h_kept h_now v_played v_depth v_prefix h_moveMade h_out v_written h_later v_laters, aI g h_nameCode 12 v_nameCode] H → va_D A [oX12 h h_tape v_taped h_text v_size v_token v_begin v_end v_tokens v_code v_faultKind v_faultPlace v_names v_blocks h_nameCode h_nameBlock h_blockMany h_blockAll v_nodeMany v_top h_kind h_left h_right v_namesWas v_blocksWas v_nodeManyWas v_topWas h_nameCodeWas h_nameBlockWas h_blockManyWas h_blockAllWas h_kindWas h_leftWas h_rightWas h_wait h_done v_waits v_dones v_opened h_leaf h_fold h_kept h_now v_played v_depth v_prefix h_moveMade h_out v_written h_later v_laters, aI g h_nameCode 12 v_nameCode] → va_S A s.heap H locs → lv_has ls 3 [(0, .ref h), (1, .int a1), (2, .int x2_2)] → (∀ (z_x2_2 : Int32) (H : Heap) (locs : List Loc) (ls : Array Slot), va_P g.1 vwCl [oX12 h h_tape v_taped h_text v_size v_token v_begin v_end v_tokens v_code v_faultKind v_faultPlace v_names v_blocks h_nameCode h_nameBlock h_blockMany h_blockAll v_nodeMany v_top h_kind h_left h_right v_namesWas v_blocksWas v_nodeManyWas v_topWas h_nameCodeWas h_nameBlockWas h_blockManyWas h_blockAllWas h_kindWas h_leftWas h_rightWas h_wait h_done v_waits v_dones v_opened h_leaf h_fold h_kept h_now v_played v_depth v_prefix h_moveMade h_out v_written h_later v_laters, aI g h_nameCode 12 v_nameCode] H → va_D A [oX12 h h_tape v_taped h_text v_size v_token v_begin v_end v_tokens v_code v_faultKind v_faultPlace v_names v_blocks h_nameCode h_nameBlock h_blockMany h_blockAll v_nodeMany v_top h_kind h_left h_right v_namesWas v_blocksWas v_nodeManyWas v_topWas h_nameCodeWas h_nameBlockWas h_blockManyWas h_blockAllWas h_kindWas h_leftWas h_rightWas h_wait h_done v_waits v_dones v_opened h_leaf h_fold h_kept h_now v_played v_depth v_prefix h_moveMade h_out v_written h_later v_laters, aI g h_nameCode 12 v_nameCode] → va_S A s.heap H locs → lv_has ls 3 [(0, .ref h), (1, .int a1), (2, .int z_x2_2)] → K_2 z_x2_2 = some r_ → W p l e ({ frames := 0, cells := 0, slots := 0, locals := 0 }) s m [.ref h, .int a1].toArray below meth c H locs 0 0 (MQ below (fun _ => QW g [oX12 h h_tape v_taped h_text v_size v_token v_begin v_end v_tokens v_code v_faultKind v_faultPlace v_names v_blocks h_nameCode h_nameBlock h_blockMany h_blockAll v_nodeMany v_top h_kind h_left h_right v_namesWas v_blocksWas v_nodeManyWas v_topWas h_nameCodeWas h_nameBlockWas h_blockManyWas h_blockAllWas h_kindWas h_leftWas h_rightWas h_wait h_done v_waits v_dones v_opened h_leaf h_fold h_kept h_now v_played v_depth v_prefix h_moveMade h_out v_written h_later v_laters, aI g h_nameCode 12 v_nameCode] s.heap.size (some (.int r_)) [oX12 h h_tape v_taped h_text v_size v_token v_begin v_end v_tokens v_code v_faultKind v_faultPlace v_names v_blocks h_nameCode h_nameBlock h_blockMany h_blockAll v_nodeMany v_top h_kind h_left h_right v_namesWas v_blocksWas v_nodeManyWas v_topWas h_nameCodeWas h_nameBlockWas h_blockManyWas h_blockAllWas h_kindWas h_leftWas h_rightWas h_wait h_done v_waits v_dones v_opened h_leaf h_fold h_kept h_now v_played v_depth v_prefix h_moveMade h_out v_written h_later v_laters, aI g h_nameCode 12 v_nameCode]) [.ref h, .int a1].toArray s 0 0 (va_A [oX12 h h_tape v_taped h_text v_size v_token v_begin v_end v_tokens v_code v_faultKind v_faultPlace v_names v_blocks h_nameCode h_nameBlock h_blockMany h_blockAll v_nodeMany v_top h_kind h_left h_right v_namesWas v_blocksWas v_nodeManyWas v_topWas h_nameCodeWas h_nameBlockWas h_blockManyWas h_blockAllWas h_kindWas h_leftWas h_rightWas h_wait h_done v_waits v_dones v_opened h_leaf h_fold h_kept h_now v_played v_depth v_prefix h_moveMade h_out v_written h_later v_laters, aI g h_nameCode 12 v_nameCode] s.heap.size)) (F0 m 28 ls [])) → lp_X12_find_2 a1 v_names v_nameCode n x2_2 K_2 = some r_ → W p l e ({ frames := 0, cells := 0, slots := 0, locals := 0 }) s m [.ref h, .int a1].toArray below meth c H locs 0 0 (MQ below (fun _ => QW g [oX12 h h_tape v_taped h_text v_size v_token v_begin v_end v_tokens v_code v_faultKind v_faultPlace v_names v_blocks h_nameCode h_nameBlock h_blockMany h_blockAll v_nodeMany v_top h_kind h_left h_right v_namesWas v_blocksWas v_nodeManyWas v_topWas h_nameCodeWas h_nameBlockWas h_blockManyWas h_blockAllWas h_kindWas h_leftWas h_rightWas h_wait h_done v_waits v_dones v_opened h_leaf h_fold h_kept h_now v_played v_depth v_prefix h_moveMade h_out v_written h_later v_laters, aI g h_nameCode 12 v_nameCode] s.heap.size (some (.int r_)) [oX12 h h_tape v_taped h_text v_size v_token v_begin v_end v_tokens v_code v_faultKind v_faultPlace v_names v_blocks h_nameCode h_nameBlock h_blockMany h_blockAll v_nodeMany v_top h_kind h_left h_right v_namesWas v_blocksWas v_nodeManyWas v_topWas h_nameCodeWas h_nameBlockWas h_blockManyWas h_blockAllWas h_kindWas h_leftWas h_rightWas h_wait h_done v_waits v_dones v_opened h_leaf h_fold h_kept h_now v_played v_depth v_prefix h_moveMade h_out v_written h_later v_laters, aI g h_nameCode 12 v_nameCode]) [.ref h, .int a1].toArray s 0 0 (va_A [oX12 h h_tape v_taped h_text v_size v_token v_begin v_end v_tokens v_code v_faultKind v_faultPlace v_names v_blocks h_nameCode h_nameBlock h_blockMany h_blockAll v_nodeMany v_top h_kind h_left h_right v_namesWas v_blocksWas v_nodeManyWas v_topWas h_nameCodeWas h_nameBlockWas h_blockManyWas h_blockAllWas h_kindWas h_leftWas h_rightWas h_wait h_done v_waits v_dones v_opened h_leaf h_fold h_kept h_now v_played v_depth v_prefix h_moveMade h_out v_written h_later v_laters, aI g h_nameCode 12 v_nameCode] s.heap.size)) (F0 m 2 ls []) := by
    intro n
    induction n with
    | zero =>
      intro x2_2 H locs ls K_2 hP hD hS hl hk hf
      have hf : (none : Option (Int32)) = some _ := hf
      cases hf
    | succ n_2 ih_2 =>
      intro x2_2 H locs ls K_2 hP hD hS hl hk_2 hf
      refine lv_iload_n hx hb dX12_find_2 rfl (lv_at hl 2 rfl) ?_
      refine lv_aload_n hx hb dX12_find_3 rfl (lv_at hl 0 rfl) ?_
      refine gf_X12_159 X rfl hP 0 rfl rfl dX12_find_4 ?_
      refine lv_icmp_ge (tgt := 28) hx hb dX12_find_7 (by decide) (fun c_5 => ?_) (fun c_5 => ?_)
      · have hf := ift hf c_5
        exact hk_2 x2_2 H locs ls hP hD hS (lv_sub hl [0, 1, 2] rfl) hf
      · have hf := iff_ hf c_5
        refine lv_aload_n hx hb dX12_find_10 rfl (lv_at hl 0 rfl) ?_
        refine gf_X12_20 X rfl hP 0 rfl rfl dX12_find_11 ?_
        refine lv_iload_n hx hb dX12_find_14 rfl (lv_at hl 2 rfl) ?_
        obtain ⟨hi_6, hf⟩ := ifs hf
        refine va_iald (D := g.1) hx hb hG.1 hP 1 1 rfl rfl (ix_in hi_6) dX12_find_15 ?_
        refine lv_iload_n hx hb dX12_find_16 rfl (lv_at hl 1 rfl) ?_
        refine lv_icmp_ne (tgt := 22) hx hb dX12_find_17 (by decide) (fun c_7 => ?_) (fun c_7 => ?_)
        · have hf := iff_ hf c_7
          refine lv_iinc (v := x2_2 + 1) (lv' := [(2, .int (x2_2 + 1)), (0, .ref h), (1, .int a1)]) hx hb dX12_find_22 hl (k := 2) rfl rfl (by decide) rfl (fun ls hl => ?_)
          refine lv_goto (tgt := 2) hx hb dX12_find_25 (by decide) ?_
          exact ih_2 (x2_2 + 1) H locs ls K_2 hP hD hS (lv_sub hl [1, 2, 0] rfl) hk_2 hf
        · have hf := ift hf c_7
          refine lv_iload_n hx hb dX12_find_20 rfl (lv_at hl 2 rfl) ?_
          cases hf
          exact ret_i X hAe hP hD hS rfl dX12_find_21
  refine L_2 _ _ _ _ ls _ hP hD hS (lv_sub hl [1, 2, 0] rfl) (fun x2_2_4 H locs ls hP hD hS hl hf => ?_) hf
  refine lv_iconst (v := (-1)) hx hb dX12_find_28 (by decide) ?_
  cases hf
  exact ret_i X hAe hP hD hS rfl dX12_find_29
