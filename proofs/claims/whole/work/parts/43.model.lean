def f_X12_valueOf (v_names : Int32) (v_kind : Nat → Int32) (v_left : Nat → Int32) (v_now : Nat → Int32) (v_right : Nat → Int32) (a1 : Int32) (a2 : Int32) : Option (Bool) :=
  if ix a1 161 then
  if v_kind a1.toNatClampNeg = 33 then
  (if ix a1 161 then
  if ix (v_left a1.toNatClampNeg) 161 then
  if v_now (v_left a1.toNatClampNeg).toNatClampNeg = 0 then
  some true
  else
  some false
  else none
  else none)
  else
  (if v_kind a1.toNatClampNeg = 38 then
  (if ix a1 161 then
  if ix (v_left a1.toNatClampNeg) 161 then
  if v_now (v_left a1.toNatClampNeg).toNatClampNeg = 0 then
  some false
  else
  (if ix a1 161 then
  if ix (v_right a1.toNatClampNeg) 161 then
  if v_now (v_right a1.toNatClampNeg).toNatClampNeg = 0 then
  some false
  else
  some true
  else none
  else none)
  else none
  else none)
  else
  (if v_kind a1.toNatClampNeg = 48 then
  some false
  else
  (if v_kind a1.toNatClampNeg = 49 then
  some true
  else
  (if v_kind a1.toNatClampNeg = 61 then
  (if ix a1 161 then
  if ix (v_left a1.toNatClampNeg) 161 then
  if ix a1 161 then
  if ix (v_right a1.toNatClampNeg) 161 then
  if v_now (v_left a1.toNatClampNeg).toNatClampNeg = v_now (v_right a1.toNatClampNeg).toNatClampNeg then
  some true
  else
  some false
  else none
  else none
  else none
  else none)
  else
  (if v_kind a1.toNatClampNeg = 94 then
  (if ix a1 161 then
  if ix (v_left a1.toNatClampNeg) 161 then
  if ix a1 161 then
  if ix (v_right a1.toNatClampNeg) 161 then
  if v_now (v_left a1.toNatClampNeg).toNatClampNeg = v_now (v_right a1.toNatClampNeg).toNatClampNeg then
  some false
  else
  some true
  else none
  else none
  else none
  else none)
  else
  (if v_kind a1.toNatClampNeg = 110 then
  (if ix a1 161 then
  if (a2 >>> (((v_names - (1 : Int32)) - (v_left a1.toNatClampNeg)) &&& 31)) &&& (1 : Int32) = 1 then
  some true
  else
  some false
  else none)
  else
  (if v_kind a1.toNatClampNeg = 124 then
  (if ix a1 161 then
  if ix (v_left a1.toNatClampNeg) 161 then
  if v_now (v_left a1.toNatClampNeg).toNatClampNeg = 0 then
  (if ix a1 161 then
  if ix (v_right a1.toNatClampNeg) 161 then
  if v_now (v_right a1.toNatClampNeg).toNatClampNeg = 0 then
  some false
  else
  some true
  else none
  else none)
  else
  some true
  else none
  else none)
  else
  (if ix a1 161 then
  if ix (v_left a1.toNatClampNeg) 161 then
  if v_now (v_left a1.toNatClampNeg).toNatClampNeg = 0 then
  some true
  else
  (if ix a1 161 then
  if ix (v_right a1.toNatClampNeg) 161 then
  if v_now (v_right a1.toNatClampNeg).toNatClampNeg = 0 then
  some false
  else
  some true
  else none
  else none)
  else none
  else none))))))))
  else none
set_option maxHeartbeats 4000000 in
set_option maxRecDepth 100000 in
theorem c_X12_valueOf (l : Launch) (g : GT) (h : Nat) (h_tape : Nat) (v_taped : Int32) (h_text : Nat) (v_size : Int32) (v_token : Int32) (v_begin : Int32) (v_end : Int32) (v_tokens : Int32) (v_code : Int32) (v_faultKind : Int32) (v_faultPlace : Int32) (v_names : Int32) (v_blocks : Int32) (h_nameCode : Nat) (h_nameBlock : Nat) (h_blockMany : Nat) (h_blockAll : Nat) (v_nodeMany : Int32) (v_top : Int32) (h_kind : Nat) (h_left : Nat) (h_right : Nat) (v_namesWas : Int32) (v_blocksWas : Int32) (v_nodeManyWas : Int32) (v_topWas : Int32) (h_nameCodeWas : Nat) (h_nameBlockWas : Nat) (h_blockManyWas : Nat) (h_blockAllWas : Nat) (h_kindWas : Nat) (h_leftWas : Nat) (h_rightWas : Nat) (h_wait : Nat) (h_done : Nat) (v_waits : Int32) (v_dones : Int32) (v_opened : Int32) (h_leaf : Nat) (h_fold : Nat) (h_kept : Nat) (h_now : Nat) (v_played : Int32) (v_depth : Int32) (v_prefix : Int32) (h_moveMade : Nat) (h_out : Nat) (v_written : Int32) (h_later : Nat) (v_laters : Int32) (v_kind : Nat → Int32) (v_left : Nat → Int32) (v_now : Nat → Int32) (v_right : Nat → Int32) (a1 : Int32) (a2 : Int32) (r_ : Bool) (hf : f_X12_valueOf v_names v_kind v_left v_now v_right a1 a2 = some r_) : Con l g yX12_valueOf cX12_valueOf 3 (some .boolean) ({ frames := 0, cells := 0, slots := 0, locals := 0 }) [.ref h, .int a1, .int a2] [oX12 h h_tape v_taped h_text v_size v_token v_begin v_end v_tokens v_code v_faultKind v_faultPlace v_names v_blocks h_nameCode h_nameBlock h_blockMany h_blockAll v_nodeMany v_top h_kind h_left h_right v_namesWas v_blocksWas v_nodeManyWas v_topWas h_nameCodeWas h_nameBlockWas h_blockManyWas h_blockAllWas h_kindWas h_leftWas h_rightWas h_wait h_done v_waits v_dones v_opened h_leaf h_fold h_kept h_now v_played v_depth v_prefix h_moveMade h_out v_written h_later v_laters, aI g h_kind 161 v_kind, aI g h_left 161 v_left, aZ g h_now 161 v_now, aI g h_right 161 v_right] (some (.int (b2i r_))) [oX12 h h_tape v_taped h_text v_size v_token v_begin v_end v_tokens v_code v_faultKind v_faultPlace v_names v_blocks h_nameCode h_nameBlock h_blockMany h_blockAll v_nodeMany v_top h_kind h_left h_right v_namesWas v_blocksWas v_nodeManyWas v_topWas h_nameCodeWas h_nameBlockWas h_blockManyWas h_blockAllWas h_kindWas h_leftWas h_rightWas h_wait h_done v_waits v_dones v_opened h_leaf h_fold h_kept h_now v_played v_depth v_prefix h_moveMade h_out v_written h_later v_laters, aI g h_kind 161 v_kind, aI g h_left 161 v_left, aZ g h_now 161 v_now, aI g h_right 161 v_right] := by
  refine Con.of (by decide) (Nat.le_of_ble_eq_true rfl) ?_
  intro p e s m below meth c A ls hAe X hP hD hS hl
  obtain ⟨hx, hb, hml, hr, hown, hts, hlk, hnm, hA, hG, hZ⟩ := id X
  have hown : s.vm.findClass RX12 = some m.cls := hown
  have hl : lv_has ls 3 [(0, .ref h), (1, .int a1), (2, .int a2)] := hl
  unfold f_X12_valueOf at hf
  refine lv_aload_n hx hb dX12_valueOf_0 rfl (lv_at hl 0 rfl) ?_
  refine gf_X12_34 X rfl hP 0 rfl rfl dX12_valueOf_1 ?_
  refine lv_iload_n hx hb dX12_valueOf_4 rfl (lv_at hl 1 rfl) ?_
  obtain ⟨hi_1, hf⟩ := ifs hf
  refine va_iald (D := g.1) hx hb hG.1 hP 1 1 rfl rfl (ix_in hi_1) dX12_valueOf_5 ?_
  by_cases e_2 : v_kind a1.toNatClampNeg = 33
  · have hf := ift hf e_2
    refine lv_lookup hx hb dX12_valueOf_6 rfl (off := 105) (by rw [e_2] <;> rfl) (by decide) ?_ (tgt := 111)
    refine lv_aload_n hx hb dX12_valueOf_111 rfl (lv_at hl 0 rfl) ?_
    refine gf_X12_79 X rfl hP 0 rfl rfl dX12_valueOf_112 ?_
    refine lv_aload_n hx hb dX12_valueOf_115 rfl (lv_at hl 0 rfl) ?_
    refine gf_X12_37 X rfl hP 0 rfl rfl dX12_valueOf_116 ?_
    refine lv_iload_n hx hb dX12_valueOf_119 rfl (lv_at hl 1 rfl) ?_
    obtain ⟨hi_3, hf⟩ := ifs hf
    refine va_iald (D := g.1) hx hb hG.1 hP 2 1 rfl rfl (ix_in hi_3) dX12_valueOf_120 ?_
    obtain ⟨hi_4, hf⟩ := ifs hf
    refine va_zald (D := g.1) hx hb hG.1 hP 3 3 rfl rfl (ix_in hi_4) dX12_valueOf_121 ?_
    refine lv_if_ne (tgt := 129) hx hb dX12_valueOf_122 (by decide) (fun c_5 => ?_) (fun c_5 => ?_)
    · have hf := iff_ hf c_5
      refine lv_iconst (v := 0) hx hb dX12_valueOf_129 (by decide) ?_
      cases hf
      exact ret_z (v := false) X hAe hP hD hS rfl dX12_valueOf_130
    · have hf := ift hf c_5
      refine lv_iconst (v := 1) hx hb dX12_valueOf_125 (by decide) ?_
      refine lv_goto (tgt := 130) hx hb dX12_valueOf_126 (by decide) ?_
      cases hf
      exact ret_z (v := true) X hAe hP hD hS rfl dX12_valueOf_130
  · have hf := iff_ hf e_2
    by_cases e_6 : v_kind a1.toNatClampNeg = 38
    · have hf := ift hf e_6
      refine lv_lookup hx hb dX12_valueOf_6 rfl (off := 125) (by rw [e_6] <;> rfl) (by decide) ?_ (tgt := 131)
      refine lv_aload_n hx hb dX12_valueOf_131 rfl (lv_at hl 0 rfl) ?_
      refine gf_X12_79 X rfl hP 0 rfl rfl dX12_valueOf_132 ?_
      refine lv_aload_n hx hb dX12_valueOf_135 rfl (lv_at hl 0 rfl) ?_
      refine gf_X12_37 X rfl hP 0 rfl rfl dX12_valueOf_136 ?_
      refine lv_iload_n hx hb dX12_valueOf_139 rfl (lv_at hl 1 rfl) ?_
      obtain ⟨hi_7, hf⟩ := ifs hf
      refine va_iald (D := g.1) hx hb hG.1 hP 2 1 rfl rfl (ix_in hi_7) dX12_valueOf_140 ?_
      obtain ⟨hi_8, hf⟩ := ifs hf
      refine va_zald (D := g.1) hx hb hG.1 hP 3 3 rfl rfl (ix_in hi_8) dX12_valueOf_141 ?_
      refine lv_if_eq (tgt := 163) hx hb dX12_valueOf_142 (by decide) (fun c_9 => ?_) (fun c_9 => ?_)
      · have hf := ift hf c_9
        refine lv_iconst (v := 0) hx hb dX12_valueOf_163 (by decide) ?_
        cases hf
        exact ret_z (v := false) X hAe hP hD hS rfl dX12_valueOf_164
      · have hf := iff_ hf c_9
        refine lv_aload_n hx hb dX12_valueOf_145 rfl (lv_at hl 0 rfl) ?_
        refine gf_X12_79 X rfl hP 0 rfl rfl dX12_valueOf_146 ?_
        refine lv_aload_n hx hb dX12_valueOf_149 rfl (lv_at hl 0 rfl) ?_
        refine gf_X12_40 X rfl hP 0 rfl rfl dX12_valueOf_150 ?_
        refine lv_iload_n hx hb dX12_valueOf_153 rfl (lv_at hl 1 rfl) ?_
        obtain ⟨hi_10, hf⟩ := ifs hf
        refine va_iald (D := g.1) hx hb hG.1 hP 4 1 rfl rfl (ix_in hi_10) dX12_valueOf_154 ?_
        obtain ⟨hi_11, hf⟩ := ifs hf
        refine va_zald (D := g.1) hx hb hG.1 hP 3 3 rfl rfl (ix_in hi_11) dX12_valueOf_155 ?_
        refine lv_if_eq (tgt := 163) hx hb dX12_valueOf_156 (by decide) (fun c_12 => ?_) (fun c_12 => ?_)
        · have hf := ift hf c_12
          refine lv_iconst (v := 0) hx hb dX12_valueOf_163 (by decide) ?_
          cases hf
          exact ret_z (v := false) X hAe hP hD hS rfl dX12_valueOf_164
        · have hf := iff_ hf c_12
          refine lv_iconst (v := 1) hx hb dX12_valueOf_159 (by decide) ?_
          refine lv_goto (tgt := 164) hx hb dX12_valueOf_160 (by decide) ?_
          cases hf
          exact ret_z (v := true) X hAe hP hD hS rfl dX12_valueOf_164
    · have hf := iff_ hf e_6
      by_cases e_13 : v_kind a1.toNatClampNeg = 48
      · have hf := ift hf e_13
        refine lv_lookup hx hb dX12_valueOf_6 rfl (off := 74) (by rw [e_13] <;> rfl) (by decide) ?_ (tgt := 80)
        refine lv_iconst (v := 0) hx hb dX12_valueOf_80 (by decide) ?_
        cases hf
        exact ret_z (v := false) X hAe hP hD hS rfl dX12_valueOf_81
      · have hf := iff_ hf e_13
        by_cases e_14 : v_kind a1.toNatClampNeg = 49
        · have hf := ift hf e_14
          refine lv_lookup hx hb dX12_valueOf_6 rfl (off := 76) (by rw [e_14] <;> rfl) (by decide) ?_ (tgt := 82)
          refine lv_iconst (v := 1) hx hb dX12_valueOf_82 (by decide) ?_
          cases hf
          exact ret_z (v := true) X hAe hP hD hS rfl dX12_valueOf_83
        · have hf := iff_ hf e_14
          by_cases e_15 : v_kind a1.toNatClampNeg = 61
          · have hf := ift hf e_15
            refine lv_lookup hx hb dX12_valueOf_6 rfl (off := 224) (by rw [e_15] <;> rfl) (by decide) ?_ (tgt := 230)
            refine lv_aload_n hx hb dX12_valueOf_230 rfl (lv_at hl 0 rfl) ?_
            refine gf_X12_79 X rfl hP 0 rfl rfl dX12_valueOf_231 ?_
            refine lv_aload_n hx hb dX12_valueOf_234 rfl (lv_at hl 0 rfl) ?_
            refine gf_X12_37 X rfl hP 0 rfl rfl dX12_valueOf_235 ?_
            refine lv_iload_n hx hb dX12_valueOf_238 rfl (lv_at hl 1 rfl) ?_
            obtain ⟨hi_16, hf⟩ := ifs hf
            refine va_iald (D := g.1) hx hb hG.1 hP 2 1 rfl rfl (ix_in hi_16) dX12_valueOf_239 ?_
            obtain ⟨hi_17, hf⟩ := ifs hf
            refine va_zald (D := g.1) hx hb hG.1 hP 3 3 rfl rfl (ix_in hi_17) dX12_valueOf_240 ?_
            refine lv_aload_n hx hb dX12_valueOf_241 rfl (lv_at hl 0 rfl) ?_
            refine gf_X12_79 X rfl hP 0 rfl rfl dX12_valueOf_242 ?_
            refine lv_aload_n hx hb dX12_valueOf_245 rfl (lv_at hl 0 rfl) ?_
            refine gf_X12_40 X rfl hP 0 rfl rfl dX12_valueOf_246 ?_
            refine lv_iload_n hx hb dX12_valueOf_249 rfl (lv_at hl 1 rfl) ?_
            obtain ⟨hi_18, hf⟩ := ifs hf
            refine va_iald (D := g.1) hx hb hG.1 hP 4 1 rfl rfl (ix_in hi_18) dX12_valueOf_250 ?_
            obtain ⟨hi_19, hf⟩ := ifs hf
            refine va_zald (D := g.1) hx hb hG.1 hP 3 3 rfl rfl (ix_in hi_19) dX12_valueOf_251 ?_
            refine lv_icmp_ne (tgt := 259) hx hb dX12_valueOf_252 (by decide) (fun c_20 => ?_) (fun c_20 => ?_)
            · have hf := iff_ hf c_20
              refine lv_iconst (v := 0) hx hb dX12_valueOf_259 (by decide) ?_
              cases hf
              exact ret_z (v := false) X hAe hP hD hS rfl dX12_valueOf_260
            · have hf := ift hf c_20
              refine lv_iconst (v := 1) hx hb dX12_valueOf_255 (by decide) ?_
              refine lv_goto (tgt := 260) hx hb dX12_valueOf_256 (by decide) ?_
              cases hf
              exact ret_z (v := true) X hAe hP hD hS rfl dX12_valueOf_260
          · have hf := iff_ hf e_15
            by_cases e_21 : v_kind a1.toNatClampNeg = 94
            · have hf := ift hf e_21
              refine lv_lookup hx hb dX12_valueOf_6 rfl (off := 193) (by rw [e_21] <;> rfl) (by decide) ?_ (tgt := 199)
              refine lv_aload_n hx hb dX12_valueOf_199 rfl (lv_at hl 0 rfl) ?_
              refine gf_X12_79 X rfl hP 0 rfl rfl dX12_valueOf_200 ?_
              refine lv_aload_n hx hb dX12_valueOf_203 rfl (lv_at hl 0 rfl) ?_
              refine gf_X12_37 X rfl hP 0 rfl rfl dX12_valueOf_204 ?_
              refine lv_iload_n hx hb dX12_valueOf_207 rfl (lv_at hl 1 rfl) ?_
              obtain ⟨hi_22, hf⟩ := ifs hf
              refine va_iald (D := g.1) hx hb hG.1 hP 2 1 rfl rfl (ix_in hi_22) dX12_valueOf_208 ?_
              obtain ⟨hi_23, hf⟩ := ifs hf
              refine va_zald (D := g.1) hx hb hG.1 hP 3 3 rfl rfl (ix_in hi_23) dX12_valueOf_209 ?_
              refine lv_aload_n hx hb dX12_valueOf_210 rfl (lv_at hl 0 rfl) ?_
              refine gf_X12_79 X rfl hP 0 rfl rfl dX12_valueOf_211 ?_
              refine lv_aload_n hx hb dX12_valueOf_214 rfl (lv_at hl 0 rfl) ?_
              refine gf_X12_40 X rfl hP 0 rfl rfl dX12_valueOf_215 ?_
              refine lv_iload_n hx hb dX12_valueOf_218 rfl (lv_at hl 1 rfl) ?_
              obtain ⟨hi_24, hf⟩ := ifs hf
              refine va_iald (D := g.1) hx hb hG.1 hP 4 1 rfl rfl (ix_in hi_24) dX12_valueOf_219 ?_
              obtain ⟨hi_25, hf⟩ := ifs hf
              refine va_zald (D := g.1) hx hb hG.1 hP 3 3 rfl rfl (ix_in hi_25) dX12_valueOf_220 ?_
              refine lv_icmp_eq (tgt := 228) hx hb dX12_valueOf_221 (by decide) (fun c_26 => ?_) (fun c_26 => ?_)
              · have hf := ift hf c_26
                refine lv_iconst (v := 0) hx hb dX12_valueOf_228 (by decide) ?_
                cases hf
                exact ret_z (v := false) X hAe hP hD hS rfl dX12_valueOf_229
              · have hf := iff_ hf c_26
                refine lv_iconst (v := 1) hx hb dX12_valueOf_224 (by decide) ?_
                refine lv_goto (tgt := 229) hx hb dX12_valueOf_225 (by decide) ?_
                cases hf
                exact ret_z (v := true) X hAe hP hD hS rfl dX12_valueOf_229
            · have hf := iff_ hf e_21
              by_cases e_27 : v_kind a1.toNatClampNeg = 110
              · have hf := ift hf e_27
                refine lv_lookup hx hb dX12_valueOf_6 rfl (off := 78) (by rw [e_27] <;> rfl) (by decide) ?_ (tgt := 84)
                refine lv_iload_n hx hb dX12_valueOf_84 rfl (lv_at hl 2 rfl) ?_
                refine lv_aload_n hx hb dX12_valueOf_85 rfl (lv_at hl 0 rfl) ?_
                refine gf_X12_159 X rfl hP 0 rfl rfl dX12_valueOf_86 ?_
                refine lv_iconst (v := 1) hx hb dX12_valueOf_89 (by decide) ?_
                refine lv_isub hx hb dX12_valueOf_90 ?_
                refine lv_aload_n hx hb dX12_valueOf_91 rfl (lv_at hl 0 rfl) ?_
                refine gf_X12_37 X rfl hP 0 rfl rfl dX12_valueOf_92 ?_
                refine lv_iload_n hx hb dX12_valueOf_95 rfl (lv_at hl 1 rfl) ?_
                obtain ⟨hi_28, hf⟩ := ifs hf
                refine va_iald (D := g.1) hx hb hG.1 hP 2 1 rfl rfl (ix_in hi_28) dX12_valueOf_96 ?_
                refine lv_isub hx hb dX12_valueOf_97 ?_
                refine lv_ishr hx hb dX12_valueOf_98 ?_
                refine lv_iconst (v := 1) hx hb dX12_valueOf_99 (by decide) ?_
                refine lv_iand hx hb dX12_valueOf_100 ?_
                refine lv_iconst (v := 1) hx hb dX12_valueOf_101 (by decide) ?_
                refine lv_icmp_ne (tgt := 109) hx hb dX12_valueOf_102 (by decide) (fun c_29 => ?_) (fun c_29 => ?_)
                · have hf := iff_ hf c_29
                  refine lv_iconst (v := 0) hx hb dX12_valueOf_109 (by decide) ?_
                  cases hf
                  exact ret_z (v := false) X hAe hP hD hS rfl dX12_valueOf_110
                · have hf := ift hf c_29
                  refine lv_iconst (v := 1) hx hb dX12_valueOf_105 (by decide) ?_
                  refine lv_goto (tgt := 110) hx hb dX12_valueOf_106 (by decide) ?_
                  cases hf
                  exact ret_z (v := true) X hAe hP hD hS rfl dX12_valueOf_110
              · have hf := iff_ hf e_27
                by_cases e_30 : v_kind a1.toNatClampNeg = 124
                · have hf := ift hf e_30
                  refine lv_lookup hx hb dX12_valueOf_6 rfl (off := 159) (by rw [e_30] <;> rfl) (by decide) ?_ (tgt := 165)
                  refine lv_aload_n hx hb dX12_valueOf_165 rfl (lv_at hl 0 rfl) ?_
                  refine gf_X12_79 X rfl hP 0 rfl rfl dX12_valueOf_166 ?_
                  refine lv_aload_n hx hb dX12_valueOf_169 rfl (lv_at hl 0 rfl) ?_
                  refine gf_X12_37 X rfl hP 0 rfl rfl dX12_valueOf_170 ?_
                  refine lv_iload_n hx hb dX12_valueOf_173 rfl (lv_at hl 1 rfl) ?_
                  obtain ⟨hi_31, hf⟩ := ifs hf
                  refine va_iald (D := g.1) hx hb hG.1 hP 2 1 rfl rfl (ix_in hi_31) dX12_valueOf_174 ?_
                  obtain ⟨hi_32, hf⟩ := ifs hf
                  refine va_zald (D := g.1) hx hb hG.1 hP 3 3 rfl rfl (ix_in hi_32) dX12_valueOf_175 ?_
                  refine lv_if_ne (tgt := 193) hx hb dX12_valueOf_176 (by decide) (fun c_33 => ?_) (fun c_33 => ?_)
                  · have hf := iff_ hf c_33
                    refine lv_iconst (v := 1) hx hb dX12_valueOf_193 (by decide) ?_
                    refine lv_goto (tgt := 198) hx hb dX12_valueOf_194 (by decide) ?_
                    cases hf
                    exact ret_z (v := true) X hAe hP hD hS rfl dX12_valueOf_198
                  · have hf := ift hf c_33
                    refine lv_aload_n hx hb dX12_valueOf_179 rfl (lv_at hl 0 rfl) ?_
                    refine gf_X12_79 X rfl hP 0 rfl rfl dX12_valueOf_180 ?_
                    refine lv_aload_n hx hb dX12_valueOf_183 rfl (lv_at hl 0 rfl) ?_
                    refine gf_X12_40 X rfl hP 0 rfl rfl dX12_valueOf_184 ?_
                    refine lv_iload_n hx hb dX12_valueOf_187 rfl (lv_at hl 1 rfl) ?_
                    obtain ⟨hi_34, hf⟩ := ifs hf
                    refine va_iald (D := g.1) hx hb hG.1 hP 4 1 rfl rfl (ix_in hi_34) dX12_valueOf_188 ?_
                    obtain ⟨hi_35, hf⟩ := ifs hf
                    refine va_zald (D := g.1) hx hb hG.1 hP 3 3 rfl rfl (ix_in hi_35) dX12_valueOf_189 ?_
                    refine lv_if_eq (tgt := 197) hx hb dX12_valueOf_190 (by decide) (fun c_36 => ?_) (fun c_36 => ?_)
                    · have hf := ift hf c_36
                      refine lv_iconst (v := 0) hx hb dX12_valueOf_197 (by decide) ?_
                      cases hf
                      exact ret_z (v := false) X hAe hP hD hS rfl dX12_valueOf_198
                    · have hf := iff_ hf c_36
                      refine lv_iconst (v := 1) hx hb dX12_valueOf_193 (by decide) ?_
                      refine lv_goto (tgt := 198) hx hb dX12_valueOf_194 (by decide) ?_
                      cases hf
                      exact ret_z (v := true) X hAe hP hD hS rfl dX12_valueOf_198
                · have hf := iff_ hf e_30
                  refine lv_lookup hx hb dX12_valueOf_6 rfl (off := 255) ((lv_osw (a := 33) (o := 105) (r := [(38, 125), (48, 74), (49, 76), (61, 224), (94, 193), (110, 78), (124, 159)]) e_2 rfl).trans ((lv_osw (a := 38) (o := 125) (r := [(48, 74), (49, 76), (61, 224), (94, 193), (110, 78), (124, 159)]) e_6 rfl).trans ((lv_osw (a := 48) (o := 74) (r := [(49, 76), (61, 224), (94, 193), (110, 78), (124, 159)]) e_13 rfl).trans ((lv_osw (a := 49) (o := 76) (r := [(61, 224), (94, 193), (110, 78), (124, 159)]) e_14 rfl).trans ((lv_osw (a := 61) (o := 224) (r := [(94, 193), (110, 78), (124, 159)]) e_15 rfl).trans ((lv_osw (a := 94) (o := 193) (r := [(110, 78), (124, 159)]) e_21 rfl).trans ((lv_osw (a := 110) (o := 78) (r := [(124, 159)]) e_27 rfl).trans ((lv_osw (a := 124) (o := 159) (r := []) e_30 rfl).trans rfl)))))))) (by decide) ?_ (tgt := 261)
                  refine lv_aload_n hx hb dX12_valueOf_261 rfl (lv_at hl 0 rfl) ?_
                  refine gf_X12_79 X rfl hP 0 rfl rfl dX12_valueOf_262 ?_
                  refine lv_aload_n hx hb dX12_valueOf_265 rfl (lv_at hl 0 rfl) ?_
                  refine gf_X12_37 X rfl hP 0 rfl rfl dX12_valueOf_266 ?_
                  refine lv_iload_n hx hb dX12_valueOf_269 rfl (lv_at hl 1 rfl) ?_
                  obtain ⟨hi_37, hf⟩ := ifs hf
                  refine va_iald (D := g.1) hx hb hG.1 hP 2 1 rfl rfl (ix_in hi_37) dX12_valueOf_270 ?_
                  obtain ⟨hi_38, hf⟩ := ifs hf
                  refine va_zald (D := g.1) hx hb hG.1 hP 3 3 rfl rfl (ix_in hi_38) dX12_valueOf_271 ?_
                  refine lv_if_eq (tgt := 289) hx hb dX12_valueOf_272 (by decide) (fun c_39 => ?_) (fun c_39 => ?_)
                  · have hf := ift hf c_39
                    refine lv_iconst (v := 1) hx hb dX12_valueOf_289 (by decide) ?_
                    refine lv_goto (tgt := 294) hx hb dX12_valueOf_290 (by decide) ?_
                    cases hf
                    exact ret_z (v := true) X hAe hP hD hS rfl dX12_valueOf_294
                  · have hf := iff_ hf c_39
                    refine lv_aload_n hx hb dX12_valueOf_275 rfl (lv_at hl 0 rfl) ?_
                    refine gf_X12_79 X rfl hP 0 rfl rfl dX12_valueOf_276 ?_
                    refine lv_aload_n hx hb dX12_valueOf_279 rfl (lv_at hl 0 rfl) ?_
                    refine gf_X12_40 X rfl hP 0 rfl rfl dX12_valueOf_280 ?_
                    refine lv_iload_n hx hb dX12_valueOf_283 rfl (lv_at hl 1 rfl) ?_
                    obtain ⟨hi_40, hf⟩ := ifs hf
                    refine va_iald (D := g.1) hx hb hG.1 hP 4 1 rfl rfl (ix_in hi_40) dX12_valueOf_284 ?_
                    obtain ⟨hi_41, hf⟩ := ifs hf
                    refine va_zald (D := g.1) hx hb hG.1 hP 3 3 rfl rfl (ix_in hi_41) dX12_valueOf_285 ?_
                    refine lv_if_eq (tgt := 293) hx hb dX12_valueOf_286 (by decide) (fun c_42 => ?_) (fun c_42 => ?_)
                    · have hf := ift hf c_42
                      refine lv_iconst (v := 0) hx hb dX12_valueOf_293 (by decide) ?_
                      cases hf
                      exact ret_z (v := false) X hAe hP hD hS rfl dX12_valueOf_294
                    · have hf := iff_ hf c_42
                      refine lv_iconst (v := 1) hx hb dX12_valueOf_289 (by decide) ?_
                      refine lv_goto (tgt := 294) hx hb dX12_valueOf_290 (by decide) ?_
                      cases hf
                      exact ret_z (v := true) X hAe hP hD hS rfl dX12_valueOf_294
def lp_X12_values_14 (y1_14 : Int32) (v_names_14f : Int32) (v_nodeMany_14f : Int32) (v_top_14f : Int32) (v_kind_14f : Nat → Int32) (v_left_14f : Nat → Int32) (v_right_14f : Nat → Int32) (v_leaf_14f : Nat → Int32) : Nat → Int32 → (Nat → Int32) → (Int32 → (Nat → Int32) → Option ((Nat → Int32) × (Nat → Int32))) → Option ((Nat → Int32) × (Nat → Int32))
  | 0, _, _, _ => none
  | n_14 + 1, x2_14, v_now_14, K_14 =>
    if v_nodeMany_14f ≤ x2_14 then
    K_14 x2_14 v_now_14
    else
    ((f_X12_valueOf v_names_14f v_kind_14f v_left_14f v_now_14 v_right_14f x2_14 y1_14).bind fun r_3 =>
    if ix x2_14 161 then
    lp_X12_values_14 y1_14 v_names_14f v_nodeMany_14f v_top_14f v_kind_14f v_left_14f v_right_14f v_leaf_14f n_14 (x2_14 + 1) (upd v_now_14 x2_14.toNatClampNeg (vp_nar .boolean (b2i r_3))) K_14
    else none)
def lp_X12_values_2 (v_names_2f : Int32) (v_nodeMany_2f : Int32) (v_top_2f : Int32) (v_kind_2f : Nat → Int32) (v_left_2f : Nat → Int32) (v_right_2f : Nat → Int32) : Nat → Int32 → (Nat → Int32) → (Nat → Int32) → (Int32 → (Nat → Int32) → (Nat → Int32) → Option ((Nat → Int32) × (Nat → Int32))) → Option ((Nat → Int32) × (Nat → Int32))
  | 0, _, _, _, _ => none
  | n_2 + 1, x1_2, v_now_2, v_leaf_2, K_2 =>
    if (1 : Int32) <<< (v_names_2f &&& 31) ≤ x1_2 then
    K_2 x1_2 v_now_2 v_leaf_2
    else
    (lp_X12_values_14 x1_2 v_names_2f v_nodeMany_2f v_top_2f v_kind_2f v_left_2f v_right_2f v_leaf_2 5000 0 v_now_2 (fun x2_14_6 v_now_14_7 => 
    if ix v_top_2f 161 then
    if ix x1_2 4096 then
    lp_X12_values_2 v_names_2f v_nodeMany_2f v_top_2f v_kind_2f v_left_2f v_right_2f n_2 (x1_2 + 1) v_now_14_7 (upd v_leaf_2 x1_2.toNatClampNeg (vp_nar .boolean (v_now_14_7 v_top_2f.toNatClampNeg))) K_2
    else none
    else none))
def f_X12_values (v_names : Int32) (v_nodeMany : Int32) (v_top : Int32) (v_kind : Nat → Int32) (v_left : Nat → Int32) (v_now : Nat → Int32) (v_right : Nat → Int32) (v_leaf : Nat → Int32) : Option ((Nat → Int32) × (Nat → Int32)) :=
  lp_X12_values_2 v_names v_nodeMany v_top v_kind v_left v_right 5000 0 v_now v_leaf (fun x1_2_10 v_now_2_11 v_leaf_2_12 => 
  some (v_now_2_11, v_leaf_2_12))
set_option maxHeartbeats 4000000 in
set_option maxRecDepth 100000 in
theorem c_X12_values (l : Launch) (g : GT) (h : Nat) (h_tape : Nat) (v_taped : Int32) (h_text : Nat) (v_size : Int32) (v_token : Int32) (v_begin : Int32) (v_end : Int32) (v_tokens : Int32) (v_code : Int32) (v_faultKind : Int32) (v_faultPlace : Int32) (v_names : Int32) (v_blocks : Int32) (h_nameCode : Nat) (h_nameBlock : Nat) (h_blockMany : Nat) (h_blockAll : Nat) (v_nodeMany : Int32) (v_top : Int32) (h_kind : Nat) (h_left : Nat) (h_right : Nat) (v_namesWas : Int32) (v_blocksWas : Int32) (v_nodeManyWas : Int32) (v_topWas : Int32) (h_nameCodeWas : Nat) (h_nameBlockWas : Nat) (h_blockManyWas : Nat) (h_blockAllWas : Nat) (h_kindWas : Nat) (h_leftWas : Nat) (h_rightWas : Nat) (h_wait : Nat) (h_done : Nat) (v_waits : Int32) (v_dones : Int32) (v_opened : Int32) (h_leaf : Nat) (h_fold : Nat) (h_kept : Nat) (h_now : Nat) (v_played : Int32) (v_depth : Int32) (v_prefix : Int32) (h_moveMade : Nat) (h_out : Nat) (v_written : Int32) (h_later : Nat) (v_laters : Int32) (v_kind : Nat → Int32) (v_left : Nat → Int32) (v_now : Nat → Int32) (v_right : Nat → Int32) (v_leaf : Nat → Int32) (u_now : Nat → Int32) (u_leaf : Nat → Int32) (hf : f_X12_values v_names v_nodeMany v_top v_kind v_left v_now v_right v_leaf = some (u_now, u_leaf)) : Con l g yX12_values cX12_values 3 none ({ frames := 1, cells := 0, slots := 0, locals := 22 }) [.ref h] [oX12 h h_tape v_taped h_text v_size v_token v_begin v_end v_tokens v_code v_faultKind v_faultPlace v_names v_blocks h_nameCode h_nameBlock h_blockMany h_blockAll v_nodeMany v_top h_kind h_left h_right v_namesWas v_blocksWas v_nodeManyWas v_topWas h_nameCodeWas h_nameBlockWas h_blockManyWas h_blockAllWas h_kindWas h_leftWas h_rightWas h_wait h_done v_waits v_dones v_opened h_leaf h_fold h_kept h_now v_played v_depth v_prefix h_moveMade h_out v_written h_later v_laters, aI g h_kind 161 v_kind, aI g h_left 161 v_left, aZ g h_now 161 v_now, aI g h_right 161 v_right, aZ g h_leaf 4096 v_leaf] none [oX12 h h_tape v_taped h_text v_size v_token v_begin v_end v_tokens v_code v_faultKind v_faultPlace v_names v_blocks h_nameCode h_nameBlock h_blockMany h_blockAll v_nodeMany v_top h_kind h_left h_right v_namesWas v_blocksWas v_nodeManyWas v_topWas h_nameCodeWas h_nameBlockWas h_blockManyWas h_blockAllWas h_kindWas h_leftWas h_rightWas h_wait h_done v_waits v_dones v_opened h_leaf h_fold h_kept h_now v_played v_depth v_prefix h_moveMade h_out v_written h_later v_laters, aI g h_kind 161 v_kind, aI g h_left 161 v_left, aZ g h_now 161 u_now, aI g h_right 161 v_right, aZ g h_leaf 4096 u_leaf] := by
  refine Con.of (by decide) (Nat.le_of_ble_eq_true rfl) ?_
  intro p e s m below meth c A ls hAe X hP hD hS hl
  obtain ⟨hx, hb, hml, hr, hown, hts, hlk, hnm, hA, hG, hZ⟩ := id X
  have hown : s.vm.findClass RX12 = some m.cls := hown
  have hl : lv_has ls 3 [(0, .ref h)] := hl
  unfold f_X12_values at hf
  refine lv_iconst (v := 0) hx hb dX12_values_0 (by decide) ?_
  refine lv_istore_n (lv' := [(1, .int 0), (0, .ref h)]) hx hb dX12_values_1 rfl hl (by decide) rfl (fun ls hl => ?_)
  have L_2 : ∀ (n : Nat) (x1_2 : Int32) (v_now_2 : Nat → Int32) (v_leaf_2 : Nat → Int32) (H : Heap) (locs : List Loc) (ls : Array Slot) (K_2 : Int32 → (Nat → Int32) → (Nat → Int32) → Option ((Nat → Int32) × (Nat → Int32))), va_P g.1 vwCl [oX12 h h_tape v_taped h_text v_size v_token v_begin v_end v_tokens v_code v_faultKind v_faultPlace v_names v_blocks h_nameCode h_nameBlock h_blockMany h_blockAll v_nodeMany v_top h_kind h_left h_right v_namesWas v_blocksWas v_nodeManyWas v_topWas h_nameCodeWas h_nameBlockWas h_blockManyWas h_blockAllWas h_kindWas h_leftWas h_rightWas h_wait h_done v_waits v_dones v_opened h_leaf h_fold h_kept h_now v_played v_depth v_prefix h_moveMade h_out v_written h_later v_laters, aI g h_kind 161 v_kind, aI g h_left 161 v_left, aZ g h_now 161 v_now_2, aI g h_right 161 v_right, aZ g h_leaf 4096 v_leaf_2] H → va_D A [oX12 h h_tape v_taped h_text v_size v_token v_begin v_end v_tokens v_code v_faultKind v_faultPlace v_names v_blocks h_nameCode h_nameBlock h_blockMany h_blockAll v_nodeMany v_top h_kind h_left h_right v_namesWas v_blocksWas v_nodeManyWas v_topWas h_nameCodeWas h_nameBlockWas h_blockManyWas h_blockAllWas h_kindWas h_leftWas h_rightWas h_wait h_done v_waits v_dones v_opened h_leaf h_fold h_kept h_now v_played v_depth v_prefix h_moveMade h_out v_written h_later v_laters, aI g h_kind 161 v_kind, aI g h_left 161 v_left, aZ g h_now 161 v_now_2, aI g h_right 161 v_right, aZ g h_leaf 4096 v_leaf_2] → va_S A s.heap H locs → lv_has ls 3 [(0, .ref h), (1, .int x1_2)] → (∀ (z_x1_2 : Int32) (z_v_now_2 : Nat → Int32) (z_v_leaf_2 : Nat → Int32) (H : Heap) (locs : List Loc) (ls : Array Slot), va_P g.1 vwCl [oX12 h h_tape v_taped h_text v_size v_token v_begin v_end v_tokens v_code v_faultKind v_faultPlace v_names v_blocks h_nameCode h_nameBlock h_blockMany h_blockAll v_nodeMany v_top h_kind h_left h_right v_namesWas v_blocksWas v_nodeManyWas v_topWas h_nameCodeWas h_nameBlockWas h_blockManyWas h_blockAllWas h_kindWas h_leftWas h_rightWas h_wait h_done v_waits v_dones v_opened h_leaf h_fold h_kept h_now v_played v_depth v_prefix h_moveMade h_out v_written h_later v_laters, aI g h_kind 161 v_kind, aI g h_left 161 v_left, aZ g h_now 161 z_v_now_2, aI g h_right 161 v_right, aZ g h_leaf 4096 z_v_leaf_2] H → va_D A [oX12 h h_tape v_taped h_text v_size v_token v_begin v_end v_tokens v_code v_faultKind v_faultPlace v_names v_blocks h_nameCode h_nameBlock h_blockMany h_blockAll v_nodeMany v_top h_kind h_left h_right v_namesWas v_blocksWas v_nodeManyWas v_topWas h_nameCodeWas h_nameBlockWas h_blockManyWas h_blockAllWas h_kindWas h_leftWas h_rightWas h_wait h_done v_waits v_dones v_opened h_leaf h_fold h_kept h_now v_played v_depth v_prefix h_moveMade h_out v_written h_later v_laters, aI g h_kind 161 v_kind, aI g h_left 161 v_left, aZ g h_now 161 z_v_now_2, aI g h_right 161 v_right, aZ g h_leaf 4096 z_v_leaf_2] → va_S A s.heap H locs → lv_has ls 3 [(0, .ref h), (1, .int z_x1_2)] → K_2 z_x1_2 z_v_now_2 z_v_leaf_2 = some (u_now, u_leaf) → W p l e ({ frames := 1, cells := 0, slots := 0, locals := 22 }) s m [.ref h].toArray below meth c H locs 0 0 (MQ below (fun _ => QW g [oX12 h h_tape v_taped h_text v_size v_token v_begin v_end v_tokens v_code v_faultKind v_faultPlace v_names v_blocks h_nameCode h_nameBlock h_blockMany h_blockAll v_nodeMany v_top h_kind h_left h_right v_namesWas v_blocksWas v_nodeManyWas v_topWas h_nameCodeWas h_nameBlockWas h_blockManyWas h_blockAllWas h_kindWas h_leftWas h_rightWas h_wait h_done v_waits v_dones v_opened h_leaf h_fold h_kept h_now v_played v_depth v_prefix h_moveMade h_out v_written h_later v_laters, aI g h_kind 161 v_kind, aI g h_left 161 v_left, aZ g h_now 161 v_now, aI g h_right 161 v_right, aZ g h_leaf 4096 v_leaf] s.heap.size none [oX12 h h_tape v_taped h_text v_size v_token v_begin v_end v_tokens v_code v_faultKind v_faultPlace v_names v_blocks h_nameCode h_nameBlock h_blockMany h_blockAll v_nodeMany v_top h_kind h_left h_right v_namesWas v_blocksWas v_nodeManyWas v_topWas h_nameCodeWas h_nameBlockWas h_blockManyWas h_blockAllWas h_kindWas h_leftWas h_rightWas h_wait h_done v_waits v_dones v_opened h_leaf h_fold h_kept h_now v_played v_depth v_prefix h_moveMade h_out v_written h_later v_laters, aI g h_kind 161 v_kind, aI g h_left 161 v_left, aZ g h_now 161 u_now, aI g h_right 161 v_right, aZ g h_leaf 4096 u_leaf]) [.ref h].toArray s 0 0 (va_A [oX12 h h_tape v_taped h_text v_size v_token v_begin v_end v_tokens v_code v_faultKind v_faultPlace v_names v_blocks h_nameCode h_nameBlock h_blockMany h_blockAll v_nodeMany v_top h_kind h_left h_right v_namesWas v_blocksWas v_nodeManyWas v_topWas h_nameCodeWas h_nameBlockWas h_blockManyWas h_blockAllWas h_kindWas h_leftWas h_rightWas h_wait h_done v_waits v_dones v_opened h_leaf h_fold h_kept h_now v_played v_depth v_prefix h_moveMade h_out v_written h_later v_laters, aI g h_kind 161 v_kind, aI g h_left 161 v_left, aZ g h_now 161 v_now, aI g h_right 161 v_right, aZ g h_leaf 4096 v_leaf] s.heap.size)) (F0 m 61 ls [])) → lp_X12_values_2 v_names v_nodeMany v_top v_kind v_left v_right n x1_2 v_now_2 v_leaf_2 K_2 = some (u_now, u_leaf) → W p l e ({ frames := 1, cells := 0, slots := 0, locals := 22 }) s m [.ref h].toArray below meth c H locs 0 0 (MQ below (fun _ => QW g [oX12 h h_tape v_taped h_text v_size v_token v_begin v_end v_tokens v_code v_faultKind v_faultPlace v_names v_blocks h_nameCode h_nameBlock h_blockMany h_blockAll v_nodeMany v_top h_kind h_left h_right v_namesWas v_blocksWas v_nodeManyWas v_topWas h_nameCodeWas h_nameBlockWas h_blockManyWas h_blockAllWas h_kindWas h_leftWas h_rightWas h_wait h_done v_waits v_dones v_opened h_leaf h_fold h_kept h_now v_played v_depth v_prefix h_moveMade h_out v_written h_later v_laters, aI g h_kind 161 v_kind, aI g h_left 161 v_left, aZ g h_now 161 v_now, aI g h_right 161 v_right, aZ g h_leaf 4096 v_leaf] s.heap.size none [oX12 h h_tape v_taped h_text v_size v_token v_begin v_end v_tokens v_code v_faultKind v_faultPlace v_names v_blocks h_nameCode h_nameBlock h_blockMany h_blockAll v_nodeMany v_top h_kind h_left h_right v_namesWas v_blocksWas v_nodeManyWas v_topWas h_nameCodeWas h_nameBlockWas h_blockManyWas h_blockAllWas h_kindWas h_leftWas h_rightWas h_wait h_done v_waits v_dones v_opened h_leaf h_fold h_kept h_now v_played v_depth v_prefix h_moveMade h_out v_written h_later v_laters, aI g h_kind 161 v_kind, aI g h_left 161 v_left, aZ g h_now 161 u_now, aI g h_right 161 v_right, aZ g h_leaf 4096 u_leaf]) [.ref h].toArray s 0 0 (va_A [oX12 h h_tape v_taped h_text v_size v_token v_begin v_end v_tokens v_code v_faultKind v_faultPlace v_names v_blocks h_nameCode h_nameBlock h_blockMany h_blockAll v_nodeMany v_top h_kind h_left h_right v_namesWas v_blocksWas v_nodeManyWas v_topWas h_nameCodeWas h_nameBlockWas h_blockManyWas h_blockAllWas h_kindWas h_leftWas h_rightWas h_wait h_done v_waits v_dones v_opened h_leaf h_fold h_kept h_now v_played v_depth v_prefix h_moveMade h_out v_written h_later v_laters, aI g h_kind 161 v_kind, aI g h_left 161 v_left, aZ g h_now 161 v_now, aI g h_right 161 v_right, aZ g h_leaf 4096 v_leaf] s.heap.size)) (F0 m 2 ls []) := by
    intro n
    induction n with
    | zero =>
      intro x1_2 v_now_2 v_leaf_2 H locs ls K_2 hP hD hS hl hk hf
      have hf : (none : Option ((Nat → Int32) × (Nat → Int32))) = some _ := hf
      cases hf
    | succ n_2 ih_2 =>
      intro x1_2 v_now_2 v_leaf_2 H locs ls K_2 hP hD hS hl hk_2 hf
      refine lv_iload_n hx hb dX12_values_2 rfl (lv_at hl 1 rfl) ?_
      refine lv_iconst (v := 1) hx hb dX12_values_3 (by decide) ?_
      refine lv_aload_n hx hb dX12_values_4 rfl (lv_at hl 0 rfl) ?_
      refine gf_X12_159 X rfl hP 0 rfl rfl dX12_values_5 ?_
      refine lv_ishl hx hb dX12_values_8 ?_
      refine lv_icmp_ge (tgt := 61) hx hb dX12_values_9 (by decide) (fun c_13 => ?_) (fun c_13 => ?_)
      · have hf := ift hf c_13
        exact hk_2 x1_2 v_now_2 v_leaf_2 H locs ls hP hD hS (lv_sub hl [0, 1] rfl) hf
      · have hf := iff_ hf c_13
        refine lv_iconst (v := 0) hx hb dX12_values_12 (by decide) ?_
        refine lv_istore_n (lv' := [(2, .int 0), (0, .ref h), (1, .int x1_2)]) hx hb dX12_values_13 rfl hl (by decide) rfl (fun ls hl => ?_)
        have L_14 : ∀ (n : Nat) (x2_14 : Int32) (v_now_14 : Nat → Int32) (H : Heap) (locs : List Loc) (ls : Array Slot) (K_14 : Int32 → (Nat → Int32) → Option ((Nat → Int32) × (Nat → Int32))), va_P g.1 vwCl [oX12 h h_tape v_taped h_text v_size v_token v_begin v_end v_tokens v_code v_faultKind v_faultPlace v_names v_blocks h_nameCode h_nameBlock h_blockMany h_blockAll v_nodeMany v_top h_kind h_left h_right v_namesWas v_blocksWas v_nodeManyWas v_topWas h_nameCodeWas h_nameBlockWas h_blockManyWas h_blockAllWas h_kindWas h_leftWas h_rightWas h_wait h_done v_waits v_dones v_opened h_leaf h_fold h_kept h_now v_played v_depth v_prefix h_moveMade h_out v_written h_later v_laters, aI g h_kind 161 v_kind, aI g h_left 161 v_left, aZ g h_now 161 v_now_14, aI g h_right 161 v_right, aZ g h_leaf 4096 v_leaf_2] H → va_D A [oX12 h h_tape v_taped h_text v_size v_token v_begin v_end v_tokens v_code v_faultKind v_faultPlace v_names v_blocks h_nameCode h_nameBlock h_blockMany h_blockAll v_nodeMany v_top h_kind h_left h_right v_namesWas v_blocksWas v_nodeManyWas v_topWas h_nameCodeWas h_nameBlockWas h_blockManyWas h_blockAllWas h_kindWas h_leftWas h_rightWas h_wait h_done v_waits v_dones v_opened h_leaf h_fold h_kept h_now v_played v_depth v_prefix h_moveMade h_out v_written h_later v_laters, aI g h_kind 161 v_kind, aI g h_left 161 v_left, aZ g h_now 161 v_now_14, aI g h_right 161 v_right, aZ g h_leaf 4096 v_leaf_2] → va_S A s.heap H locs → lv_has ls 3 [(0, .ref h), (1, .int x1_2), (2, .int x2_14)] → (∀ (z_x2_14 : Int32) (z_v_now_14 : Nat → Int32) (H : Heap) (locs : List Loc) (ls : Array Slot), va_P g.1 vwCl [oX12 h h_tape v_taped h_text v_size v_token v_begin v_end v_tokens v_code v_faultKind v_faultPlace v_names v_blocks h_nameCode h_nameBlock h_blockMany h_blockAll v_nodeMany v_top h_kind h_left h_right v_namesWas v_blocksWas v_nodeManyWas v_topWas h_nameCodeWas h_nameBlockWas h_blockManyWas h_blockAllWas h_kindWas h_leftWas h_rightWas h_wait h_done v_waits v_dones v_opened h_leaf h_fold h_kept h_now v_played v_depth v_prefix h_moveMade h_out v_written h_later v_laters, aI g h_kind 161 v_kind, aI g h_left 161 v_left, aZ g h_now 161 z_v_now_14, aI g h_right 161 v_right, aZ g h_leaf 4096 v_leaf_2] H → va_D A [oX12 h h_tape v_taped h_text v_size v_token v_begin v_end v_tokens v_code v_faultKind v_faultPlace v_names v_blocks h_nameCode h_nameBlock h_blockMany h_blockAll v_nodeMany v_top h_kind h_left h_right v_namesWas v_blocksWas v_nodeManyWas v_topWas h_nameCodeWas h_nameBlockWas h_blockManyWas h_blockAllWas h_kindWas h_leftWas h_rightWas h_wait h_done v_waits v_dones v_opened h_leaf h_fold h_kept h_now v_played v_depth v_prefix h_moveMade h_out v_written h_later v_laters, aI g h_kind 161 v_kind, aI g h_left 161 v_left, aZ g h_now 161 z_v_now_14, aI g h_right 161 v_right, aZ g h_leaf 4096 v_leaf_2] → va_S A s.heap H locs → lv_has ls 3 [(0, .ref h), (1, .int x1_2), (2, .int z_x2_14)] → K_14 z_x2_14 z_v_now_14 = some (u_now, u_leaf) → W p l e ({ frames := 1, cells := 0, slots := 0, locals := 22 }) s m [.ref h].toArray below meth c H locs 0 0 (MQ below (fun _ => QW g [oX12 h h_tape v_taped h_text v_size v_token v_begin v_end v_tokens v_code v_faultKind v_faultPlace v_names v_blocks h_nameCode h_nameBlock h_blockMany h_blockAll v_nodeMany v_top h_kind h_left h_right v_namesWas v_blocksWas v_nodeManyWas v_topWas h_nameCodeWas h_nameBlockWas h_blockManyWas h_blockAllWas h_kindWas h_leftWas h_rightWas h_wait h_done v_waits v_dones v_opened h_leaf h_fold h_kept h_now v_played v_depth v_prefix h_moveMade h_out v_written h_later v_laters, aI g h_kind 161 v_kind, aI g h_left 161 v_left, aZ g h_now 161 v_now, aI g h_right 161 v_right, aZ g h_leaf 4096 v_leaf] s.heap.size none [oX12 h h_tape v_taped h_text v_size v_token v_begin v_end v_tokens v_code v_faultKind v_faultPlace v_names v_blocks h_nameCode h_nameBlock h_blockMany h_blockAll v_nodeMany v_top h_kind h_left h_right v_namesWas v_blocksWas v_nodeManyWas v_topWas h_nameCodeWas h_nameBlockWas h_blockManyWas h_blockAllWas h_kindWas h_leftWas h_rightWas h_wait h_done v_waits v_dones v_opened h_leaf h_fold h_kept h_now v_played v_depth v_prefix h_moveMade h_out v_written h_later v_laters, aI g h_kind 161 v_kind, aI g h_left 161 v_left, aZ g h_now 161 u_now, aI g h_right 161 v_right, aZ g h_leaf 4096 u_leaf]) [.ref h].toArray s 0 0 (va_A [oX12 h h_tape v_taped h_text v_size v_token v_begin v_end v_tokens v_code v_faultKind v_faultPlace v_names v_blocks h_nameCode h_nameBlock h_blockMany h_blockAll v_nodeMany v_top h_kind h_left h_right v_namesWas v_blocksWas v_nodeManyWas v_topWas h_nameCodeWas h_nameBlockWas h_blockManyWas h_blockAllWas h_kindWas h_leftWas h_rightWas h_wait h_done v_waits v_dones v_opened h_leaf h_fold h_kept h_now v_played v_depth v_prefix h_moveMade h_out v_written h_later v_laters, aI g h_kind 161 v_kind, aI g h_left 161 v_left, aZ g h_now 161 v_now, aI g h_right 161 v_right, aZ g h_leaf 4096 v_leaf] s.heap.size)) (F0 m 40 ls [])) → lp_X12_values_14 x1_2 v_names v_nodeMany v_top v_kind v_left v_right v_leaf_2 n x2_14 v_now_14 K_14 = some (u_now, u_leaf) → W p l e ({ frames := 1, cells := 0, slots := 0, locals := 22 }) s m [.ref h].toArray below meth c H locs 0 0 (MQ below (fun _ => QW g [oX12 h h_tape v_taped h_text v_size v_token v_begin v_end v_tokens v_code v_faultKind v_faultPlace v_names v_blocks h_nameCode h_nameBlock h_blockMany h_blockAll v_nodeMany v_top h_kind h_left h_right v_namesWas v_blocksWas v_nodeManyWas v_topWas h_nameCodeWas h_nameBlockWas h_blockManyWas h_blockAllWas h_kindWas h_leftWas h_rightWas h_wait h_done v_waits v_dones v_opened h_leaf h_fold h_kept h_now v_played v_depth v_prefix h_moveMade h_out v_written h_later v_laters, aI g h_kind 161 v_kind, aI g h_left 161 v_left, aZ g h_now 161 v_now, aI g h_right 161 v_right, aZ g h_leaf 4096 v_leaf] s.heap.size none [oX12 h h_tape v_taped h_text v_size v_token v_begin v_end v_tokens v_code v_faultKind v_faultPlace v_names v_blocks h_nameCode h_nameBlock h_blockMany h_blockAll v_nodeMany v_top h_kind h_left h_right v_namesWas v_blocksWas v_nodeManyWas v_topWas h_nameCodeWas h_nameBlockWas h_blockManyWas h_blockAllWas h_kindWas h_leftWas h_rightWas h_wait h_done v_waits v_dones v_opened h_leaf h_fold h_kept h_now v_played v_depth v_prefix h_moveMade h_out v_written h_later v_laters, aI g h_kind 161 v_kind, aI g h_left 161 v_left, aZ g h_now 161 u_now, aI g h_right 161 v_right, aZ g h_leaf 4096 u_leaf]) [.ref h].toArray s 0 0 (va_A [oX12 h h_tape v_taped h_text v_size v_token v_begin v_end v_tokens v_code v_faultKind v_faultPlace v_names v_blocks h_nameCode h_nameBlock h_blockMany h_blockAll v_nodeMany v_top h_kind h_left h_right v_namesWas v_blocksWas v_nodeManyWas v_topWas h_nameCodeWas h_nameBlockWas h_blockManyWas h_blockAllWas h_kindWas h_leftWas h_rightWas h_wait h_done v_waits v_dones v_opened h_leaf h_fold h_kept h_now v_played v_depth v_prefix h_moveMade h_out v_written h_later v_laters, aI g h_kind 161 v_kind, aI g h_left 161 v_left, aZ g h_now 161 v_now, aI g h_right 161 v_right, aZ g h_leaf 4096 v_leaf] s.heap.size)) (F0 m 14 ls []) := by
          intro n
          induction n with
          | zero =>
            intro x2_14 v_now_14 H locs ls K_14 hP hD hS hl hk hf
            have hf : (none : Option ((Nat → Int32) × (Nat → Int32))) = some _ := hf
            cases hf
          | succ n_14 ih_14 =>
            intro x2_14 v_now_14 H locs ls K_14 hP hD hS hl hk_14 hf
            refine lv_iload_n hx hb dX12_values_14 rfl (lv_at hl 2 rfl) ?_
            refine lv_aload_n hx hb dX12_values_15 rfl (lv_at hl 0 rfl) ?_
            refine gf_X12_91 X rfl hP 0 rfl rfl dX12_values_16 ?_
            refine lv_icmp_ge (tgt := 40) hx hb dX12_values_19 (by decide) (fun c_16 => ?_) (fun c_16 => ?_)
            · have hf := ift hf c_16
              exact hk_14 x2_14 v_now_14 H locs ls hP hD hS (lv_sub hl [0, 1, 2] rfl) hf
            · have hf := iff_ hf c_16
              refine lv_aload_n hx hb dX12_values_22 rfl (lv_at hl 0 rfl) ?_
              refine gf_X12_79 X rfl hP 0 rfl rfl dX12_values_23 ?_
              refine lv_iload_n hx hb dX12_values_26 rfl (lv_at hl 2 rfl) ?_
              refine lv_aload_n hx hb dX12_values_27 rfl (lv_at hl 0 rfl) ?_
              refine lv_iload_n hx hb dX12_values_28 rfl (lv_at hl 2 rfl) ?_
              refine lv_iload_n hx hb dX12_values_29 rfl (lv_at hl 1 rfl) ?_
              obtain ⟨r_17, hf_18, hf⟩ := obind hf
              refine gcV (rest := [.int x2_14, .ref h_now]) (wn := [oX12 h h_tape v_taped h_text v_size v_token v_begin v_end v_tokens v_code v_faultKind v_faultPlace v_names v_blocks h_nameCode h_nameBlock h_blockMany h_blockAll v_nodeMany v_top h_kind h_left h_right v_namesWas v_blocksWas v_nodeManyWas v_topWas h_nameCodeWas h_nameBlockWas h_blockManyWas h_blockAllWas h_kindWas h_leftWas h_rightWas h_wait h_done v_waits v_dones v_opened h_leaf h_fold h_kept h_now v_played v_depth v_prefix h_moveMade h_out v_written h_later v_laters, aI g h_kind 161 v_kind, aI g h_left 161 v_left, aZ g h_now 161 v_now_14, aI g h_right 161 v_right, aZ g h_leaf 4096 v_leaf_2]) X hP hD hS hl (c_X12_valueOf l g h h_tape v_taped h_text v_size v_token v_begin v_end v_tokens v_code v_faultKind v_faultPlace v_names v_blocks h_nameCode h_nameBlock h_blockMany h_blockAll v_nodeMany v_top h_kind h_left h_right v_namesWas v_blocksWas v_nodeManyWas v_topWas h_nameCodeWas h_nameBlockWas h_blockManyWas h_blockAllWas h_kindWas h_leftWas h_rightWas h_wait h_done v_waits v_dones v_opened h_leaf h_fold h_kept h_now v_played v_depth v_prefix h_moveMade h_out v_written h_later v_laters v_kind v_left v_now_14 v_right x2_14 x1_2 r_17 hf_18) [0, 1, 2, 3, 4] rfl rfl rfl [.inr 0, .inr 1, .inr 2, .inr 3, .inr 4, .inl 5] rfl rfl cd_X12_valueOf rfl im_X12_valueOf se_X12_valueOf ml_X12_231 0 rfl rfl rfl rfl rfl ⟨(Nat.le_of_ble_eq_true rfl), (Nat.le_of_ble_eq_true rfl)⟩ rfl (Nat.le_of_ble_eq_true rfl) dX12_values_30 ⟨(Nat.le_of_ble_eq_true rfl), (Nat.le_of_ble_eq_true rfl)⟩ (fun H locs hP hD hS => ?_)
              obtain ⟨hi_19, hf⟩ := ifs hf
              refine va_zast (D := g.1) hx hb hG.1 hP hD hS 3 3 rfl rfl (ix_in hi_19) dX12_values_33 (fun H locs hP hD hS => ?_)
              have hP : va_P g.1 vwCl [oX12 h h_tape v_taped h_text v_size v_token v_begin v_end v_tokens v_code v_faultKind v_faultPlace v_names v_blocks h_nameCode h_nameBlock h_blockMany h_blockAll v_nodeMany v_top h_kind h_left h_right v_namesWas v_blocksWas v_nodeManyWas v_topWas h_nameCodeWas h_nameBlockWas h_blockManyWas h_blockAllWas h_kindWas h_leftWas h_rightWas h_wait h_done v_waits v_dones v_opened h_leaf h_fold h_kept h_now v_played v_depth v_prefix h_moveMade h_out v_written h_later v_laters, aI g h_kind 161 v_kind, aI g h_left 161 v_left, aZ g h_now 161 (upd v_now_14 x2_14.toNatClampNeg (vp_nar .boolean (b2i r_17))), aI g h_right 161 v_right, aZ g h_leaf 4096 v_leaf_2] H := hP
              have hD : va_D A [oX12 h h_tape v_taped h_text v_size v_token v_begin v_end v_tokens v_code v_faultKind v_faultPlace v_names v_blocks h_nameCode h_nameBlock h_blockMany h_blockAll v_nodeMany v_top h_kind h_left h_right v_namesWas v_blocksWas v_nodeManyWas v_topWas h_nameCodeWas h_nameBlockWas h_blockManyWas h_blockAllWas h_kindWas h_leftWas h_rightWas h_wait h_done v_waits v_dones v_opened h_leaf h_fold h_kept h_now v_played v_depth v_prefix h_moveMade h_out v_written h_later v_laters, aI g h_kind 161 v_kind, aI g h_left 161 v_left, aZ g h_now 161 (upd v_now_14 x2_14.toNatClampNeg (vp_nar .boolean (b2i r_17))), aI g h_right 161 v_right, aZ g h_leaf 4096 v_leaf_2] := hD
              refine lv_iinc (v := x2_14 + 1) (lv' := [(2, .int (x2_14 + 1)), (0, .ref h), (1, .int x1_2)]) hx hb dX12_values_34 hl (k := 2) rfl rfl (by decide) rfl (fun ls hl => ?_)
              refine lv_goto (tgt := 14) hx hb dX12_values_37 (by decide) ?_
              exact ih_14 (x2_14 + 1) (upd v_now_14 x2_14.toNatClampNeg (vp_nar .boolean (b2i r_17))) H locs ls K_14 hP hD hS (lv_sub hl [1, 2, 0] rfl) hk_14 hf
        refine L_14 _ _ _ _ _ ls _ hP hD hS (lv_sub hl [1, 2, 0] rfl) (fun x2_14_14 v_now_14_15 H locs ls hP hD hS hl hf => ?_) hf
        refine lv_aload_n hx hb dX12_values_40 rfl (lv_at hl 0 rfl) ?_
        refine gf_X12_70 X rfl hP 0 rfl rfl dX12_values_41 ?_
        refine lv_iload_n hx hb dX12_values_44 rfl (lv_at hl 1 rfl) ?_
        refine lv_aload_n hx hb dX12_values_45 rfl (lv_at hl 0 rfl) ?_
        refine gf_X12_79 X rfl hP 0 rfl rfl dX12_values_46 ?_
        refine lv_aload_n hx hb dX12_values_49 rfl (lv_at hl 0 rfl) ?_
        refine gf_X12_94 X rfl hP 0 rfl rfl dX12_values_50 ?_
        obtain ⟨hi_20, hf⟩ := ifs hf
        refine va_zald (D := g.1) hx hb hG.1 hP 3 3 rfl rfl (ix_in hi_20) dX12_values_53 ?_
        obtain ⟨hi_21, hf⟩ := ifs hf
        refine va_zast (D := g.1) hx hb hG.1 hP hD hS 5 3 rfl rfl (ix_in hi_21) dX12_values_54 (fun H locs hP hD hS => ?_)
        have hP : va_P g.1 vwCl [oX12 h h_tape v_taped h_text v_size v_token v_begin v_end v_tokens v_code v_faultKind v_faultPlace v_names v_blocks h_nameCode h_nameBlock h_blockMany h_blockAll v_nodeMany v_top h_kind h_left h_right v_namesWas v_blocksWas v_nodeManyWas v_topWas h_nameCodeWas h_nameBlockWas h_blockManyWas h_blockAllWas h_kindWas h_leftWas h_rightWas h_wait h_done v_waits v_dones v_opened h_leaf h_fold h_kept h_now v_played v_depth v_prefix h_moveMade h_out v_written h_later v_laters, aI g h_kind 161 v_kind, aI g h_left 161 v_left, aZ g h_now 161 v_now_14_15, aI g h_right 161 v_right, aZ g h_leaf 4096 (upd v_leaf_2 x1_2.toNatClampNeg (vp_nar .boolean (v_now_14_15 v_top.toNatClampNeg)))] H := hP
        have hD : va_D A [oX12 h h_tape v_taped h_text v_size v_token v_begin v_end v_tokens v_code v_faultKind v_faultPlace v_names v_blocks h_nameCode h_nameBlock h_blockMany h_blockAll v_nodeMany v_top h_kind h_left h_right v_namesWas v_blocksWas v_nodeManyWas v_topWas h_nameCodeWas h_nameBlockWas h_blockManyWas h_blockAllWas h_kindWas h_leftWas h_rightWas h_wait h_done v_waits v_dones v_opened h_leaf h_fold h_kept h_now v_played v_depth v_prefix h_moveMade h_out v_written h_later v_laters, aI g h_kind 161 v_kind, aI g h_left 161 v_left, aZ g h_now 161 v_now_14_15, aI g h_right 161 v_right, aZ g h_leaf 4096 (upd v_leaf_2 x1_2.toNatClampNeg (vp_nar .boolean (v_now_14_15 v_top.toNatClampNeg)))] := hD
        refine lv_iinc (v := x1_2 + 1) (lv' := [(1, .int (x1_2 + 1)), (0, .ref h), (2, .int x2_14_14)]) hx hb dX12_values_55 hl (k := 1) rfl rfl (by decide) rfl (fun ls hl => ?_)
        refine lv_goto (tgt := 2) hx hb dX12_values_58 (by decide) ?_
        exact ih_2 (x1_2 + 1) v_now_14_15 (upd v_leaf_2 x1_2.toNatClampNeg (vp_nar .boolean (v_now_14_15 v_top.toNatClampNeg))) H locs ls K_2 hP hD hS (lv_sub hl [1, 0] rfl) hk_2 hf
  refine L_2 _ _ _ _ _ _ ls _ hP hD hS (lv_sub hl [1, 0] rfl) (fun x1_2_10 v_now_2_11 v_leaf_2_12 H locs ls hP hD hS hl hf => ?_) hf
  cases hf
  exact ret_v X hAe hP hD hS rfl dX12_values_61
def lp_X12_folds_11 (y1_11 : Int32) (y2_11 : Int32) (y3_11 : Int32) (y4_11 : Int32) (v_names_11f : Int32) (v_leaf_11f : Nat → Int32) (v_nameBlock_11f : Nat → Int32) (v_blockAll_11f : Nat → Int32) : Nat → Int32 → (Nat → Int32) → (Int32 → (Nat → Int32) → Option ((Nat → Int32))) → Option ((Nat → Int32))
  | 0, _, _, _ => none
  | n_11 + 1, x5_11, v_fold_11, K_11 =>
    if y4_11 ≤ x5_11 then
    K_11 x5_11 v_fold_11
    else
    (if ix x5_11 4096 then
    if ix (y4_11 + x5_11) 8192 then
    lp_X12_folds_11 y1_11 y2_11 y3_11 y4_11 v_names_11f v_leaf_11f v_nameBlock_11f v_blockAll_11f n_11 (x5_11 + 1) (upd v_fold_11 (y4_11 + x5_11).toNatClampNeg (vp_nar .boolean (v_leaf_11f x5_11.toNatClampNeg))) K_11
    else none
    else none)
def lp_X12_folds_56 (y1_56 : Int32) (y2_56 : Int32) (y3_56 : Int32) (y4_56 : Int32) (y5_56 : Int32) (v_names_56f : Int32) (v_leaf_56f : Nat → Int32) (v_fold_56f : Nat → Int32) (v_nameBlock_56f : Nat → Int32) (v_blockAll_56f : Nat → Int32) : Nat → Int32 → (Int32 → Option ((Nat → Int32))) → Option ((Nat → Int32))
  | 0, _, _ => none
  | n_56 + 1, x6_56, K_56 =>
    if y5_56 >>> (x6_56 &&& 31) ≤ 1 then
    K_56 x6_56
    else
    lp_X12_folds_56 y1_56 y2_56 y3_56 y4_56 y5_56 v_names_56f v_leaf_56f v_fold_56f v_nameBlock_56f v_blockAll_56f n_56 (x6_56 + (1 : Int32)) K_56
def lp_X12_folds_47 (y1_47 : Int32) (y2_47 : Int32) (y3_47 : Int32) (y4_47 : Int32) (v_names_47f : Int32) (v_leaf_47f : Nat → Int32) (v_nameBlock_47f : Nat → Int32) (v_blockAll_47f : Nat → Int32) : Nat → Int32 → (Nat → Int32) → (Int32 → (Nat → Int32) → Option ((Nat → Int32))) → Option ((Nat → Int32))
  | 0, _, _, _ => none
  | n_47 + 1, x5_47, v_fold_47, K_47 =>
    if x5_47 < 1 then
    K_47 x5_47 v_fold_47
    else
    (lp_X12_folds_56 y1_47 y2_47 y3_47 y4_47 x5_47 v_names_47f v_leaf_47f v_fold_47 v_nameBlock_47f v_blockAll_47f 5000 0 (fun x6_56_11 => 
    if ix x6_56_11 12 then
    if ix (v_nameBlock_47f x6_56_11.toNatClampNeg) 6 then
    if ix x6_56_11 12 then
    jn (κ := Int32 → Option ((Nat → Int32))) (fun (s1_102 : Int32) =>
    jn (κ := Int32 → Option ((Nat → Int32))) (fun (s0_110 : Int32) =>
    if ix ((2 : Int32) * x5_47) 8192 then
    if ix (((2 : Int32) * x5_47) + (1 : Int32)) 8192 then
    if x6_56_11 = y1_47 then
    (if y2_47 = 0 then
    (if ix x5_47 8192 then
    lp_X12_folds_47 y1_47 y2_47 y3_47 y4_47 v_names_47f v_leaf_47f v_nameBlock_47f v_blockAll_47f n_47 (x5_47 + (-1)) (upd v_fold_47 x5_47.toNatClampNeg (vp_nar .boolean (v_fold_47 ((2 : Int32) * x5_47).toNatClampNeg))) K_47
    else none)
    else
    (if ix x5_47 8192 then
    lp_X12_folds_47 y1_47 y2_47 y3_47 y4_47 v_names_47f v_leaf_47f v_nameBlock_47f v_blockAll_47f n_47 (x5_47 + (-1)) (upd v_fold_47 x5_47.toNatClampNeg (vp_nar .boolean (v_fold_47 (((2 : Int32) * x5_47) + (1 : Int32)).toNatClampNeg))) K_47
    else none))
    else
    (if s0_110 = 0 then
    (if v_fold_47 ((2 : Int32) * x5_47).toNatClampNeg = 0 then
    (if v_fold_47 (((2 : Int32) * x5_47) + (1 : Int32)).toNatClampNeg = 0 then
    (if ix x5_47 8192 then
    lp_X12_folds_47 y1_47 y2_47 y3_47 y4_47 v_names_47f v_leaf_47f v_nameBlock_47f v_blockAll_47f n_47 (x5_47 + (-1)) (upd v_fold_47 x5_47.toNatClampNeg (vp_nar .boolean 0)) K_47
    else none)
    else
    (if ix x5_47 8192 then
    lp_X12_folds_47 y1_47 y2_47 y3_47 y4_47 v_names_47f v_leaf_47f v_nameBlock_47f v_blockAll_47f n_47 (x5_47 + (-1)) (upd v_fold_47 x5_47.toNatClampNeg (vp_nar .boolean 1)) K_47
    else none))
    else
    (if ix x5_47 8192 then
    lp_X12_folds_47 y1_47 y2_47 y3_47 y4_47 v_names_47f v_leaf_47f v_nameBlock_47f v_blockAll_47f n_47 (x5_47 + (-1)) (upd v_fold_47 x5_47.toNatClampNeg (vp_nar .boolean 1)) K_47
    else none))
    else
    (if v_fold_47 ((2 : Int32) * x5_47).toNatClampNeg = 0 then
    (if ix x5_47 8192 then
    lp_X12_folds_47 y1_47 y2_47 y3_47 y4_47 v_names_47f v_leaf_47f v_nameBlock_47f v_blockAll_47f n_47 (x5_47 + (-1)) (upd v_fold_47 x5_47.toNatClampNeg (vp_nar .boolean 0)) K_47
    else none)
    else
    (if v_fold_47 (((2 : Int32) * x5_47) + (1 : Int32)).toNatClampNeg = 0 then
    (if ix x5_47 8192 then
    lp_X12_folds_47 y1_47 y2_47 y3_47 y4_47 v_names_47f v_leaf_47f v_nameBlock_47f v_blockAll_47f n_47 (x5_47 + (-1)) (upd v_fold_47 x5_47.toNatClampNeg (vp_nar .boolean 0)) K_47
    else none)
    else
    (if ix x5_47 8192 then
    lp_X12_folds_47 y1_47 y2_47 y3_47 y4_47 v_names_47f v_leaf_47f v_nameBlock_47f v_blockAll_47f n_47 (x5_47 + (-1)) (upd v_fold_47 x5_47.toNatClampNeg (vp_nar .boolean 1)) K_47
    else none))))
    else none
    else none) fun j_110 =>
    if v_blockAll_47f (v_nameBlock_47f x6_56_11.toNatClampNeg).toNatClampNeg = s1_102 then
    j_110 0
    else
    j_110 1) fun j_102 =>
    if v_nameBlock_47f x6_56_11.toNatClampNeg = y3_47 then
    j_102 1
    else
    j_102 0
    else none
    else none
    else none))
def f_X12_folds (v_names : Int32) (v_leaf : Nat → Int32) (v_fold : Nat → Int32) (v_nameBlock : Nat → Int32) (v_blockAll : Nat → Int32) (a1 : Int32) (a2 : Int32) (a3 : Int32) : Option ((Nat → Int32)) :=
  lp_X12_folds_11 a1 a2 a3 ((1 : Int32) <<< (v_names &&& 31)) v_names v_leaf v_nameBlock v_blockAll 5000 0 v_fold (fun x5_11_4 v_fold_11_5 => 
  lp_X12_folds_47 a1 a2 a3 ((1 : Int32) <<< (v_names &&& 31)) v_names v_leaf v_nameBlock v_blockAll 5000 (((1 : Int32) <<< (v_names &&& 31)) - (1 : Int32)) v_fold_11_5 (fun x5_47_34 v_fold_47_35 => 
  some v_fold_47_35))
set_option maxHeartbeats 4000000 in
set_option maxRecDepth 100000 in
theorem c_X12_folds (l : Launch) (g : GT) (h : Nat) (h_tape : Nat) (v_taped : Int32) (h_text : Nat) (v_size : Int32) (v_token : Int32) (v_begin : Int32) (v_end : Int32) (v_tokens : Int32) (v_code : Int32) (v_faultKind : Int32) (v_faultPlace : Int32) (v_names : Int32) (v_blocks : Int32) (h_nameCode : Nat) (h_nameBlock : Nat) (h_blockMany : Nat) (h_blockAll : Nat) (v_nodeMany : Int32) (v_top : Int32) (h_kind : Nat) (h_left : Nat) (h_right : Nat) (v_namesWas : Int32) (v_blocksWas : Int32) (v_nodeManyWas : Int32) (v_topWas : Int32) (h_nameCodeWas : Nat) (h_nameBlockWas : Nat) (h_blockManyWas : Nat) (h_blockAllWas : Nat) (h_kindWas : Nat) (h_leftWas : Nat) (h_rightWas : Nat) (h_wait : Nat) (h_done : Nat) (v_waits : Int32) (v_dones : Int32) (v_opened : Int32) (h_leaf : Nat) (h_fold : Nat) (h_kept : Nat) (h_now : Nat) (v_played : Int32) (v_depth : Int32) (v_prefix : Int32) (h_moveMade : Nat) (h_out : Nat) (v_written : Int32) (h_later : Nat) (v_laters : Int32) (v_leaf : Nat → Int32) (v_fold : Nat → Int32) (v_nameBlock : Nat → Int32) (v_blockAll : Nat → Int32) (a1 : Int32) (a2 : Int32) (a3 : Int32) (u_fold : Nat → Int32) (hf : f_X12_folds v_names v_leaf v_fold v_nameBlock v_blockAll a1 a2 a3 = some u_fold) : Con l g yX12_folds cX12_folds 10 none ({ frames := 0, cells := 0, slots := 0, locals := 0 }) [.ref h, .int a1, .int a2, .int a3] [oX12 h h_tape v_taped h_text v_size v_token v_begin v_end v_tokens v_code v_faultKind v_faultPlace v_names v_blocks h_nameCode h_nameBlock h_blockMany h_blockAll v_nodeMany v_top h_kind h_left h_right v_namesWas v_blocksWas v_nodeManyWas v_topWas h_nameCodeWas h_nameBlockWas h_blockManyWas h_blockAllWas h_kindWas h_leftWas h_rightWas h_wait h_done v_waits v_dones v_opened h_leaf h_fold h_kept h_now v_played v_depth v_prefix h_moveMade h_out v_written h_later v_laters, aZ g h_leaf 4096 v_leaf, aZ g h_fold 8192 v_fold, aI g h_nameBlock 12 v_nameBlock, aZ g h_blockAll 6 v_blockAll] none [oX12 h h_tape v_taped h_text v_size v_token v_begin v_end v_tokens v_code v_faultKind v_faultPlace v_names v_blocks h_nameCode h_nameBlock h_blockMany h_blockAll v_nodeMany v_top h_kind h_left h_right v_namesWas v_blocksWas v_nodeManyWas v_topWas h_nameCodeWas h_nameBlockWas h_blockManyWas h_blockAllWas h_kindWas h_leftWas h_rightWas h_wait h_done v_waits v_dones v_opened h_leaf h_fold h_kept h_now v_played v_depth v_prefix h_moveMade h_out v_written h_later v_laters, aZ g h_leaf 4096 v_leaf, aZ g h_fold 8192 u_fold, aI g h_nameBlock 12 v_nameBlock, aZ g h_blockAll 6 v_blockAll] := by
  refine Con.of (by decide) (Nat.le_of_ble_eq_true rfl) ?_
  intro p e s m below meth c A ls hAe X hP hD hS hl
  obtain ⟨hx, hb, hml, hr, hown, hts, hlk, hnm, hA, hG, hZ⟩ := id X
  have hown : s.vm.findClass RX12 = some m.cls := hown
  have hl : lv_has ls 10 [(0, .ref h), (1, .int a1), (2, .int a2), (3, .int a3)] := hl
  unfold f_X12_folds at hf
  refine lv_iconst (v := 1) hx hb dX12_folds_0 (by decide) ?_
  refine lv_aload_n hx hb dX12_folds_1 rfl (lv_at hl 0 rfl) ?_
  refine gf_X12_159 X rfl hP 0 rfl rfl dX12_folds_2 ?_
  refine lv_ishl hx hb dX12_folds_5 ?_
  refine lv_istore (lv' := [(4, .int ((1 : Int32) <<< (v_names &&& 31))), (0, .ref h), (1, .int a1), (2, .int a2), (3, .int a3)]) hx hb dX12_folds_6 hl (by decide) rfl (fun ls hl => ?_)
  refine lv_iconst (v := 0) hx hb dX12_folds_8 (by decide) ?_
  refine lv_istore (lv' := [(5, .int 0), (4, .int ((1 : Int32) <<< (v_names &&& 31))), (0, .ref h), (1, .int a1), (2, .int a2), (3, .int a3)]) hx hb dX12_folds_9 hl (by decide) rfl (fun ls hl => ?_)
  have L_11 : ∀ (n : Nat) (x5_11 : Int32) (v_fold_11 : Nat → Int32) (H : Heap) (locs : List Loc) (ls : Array Slot) (K_11 : Int32 → (Nat → Int32) → Option ((Nat → Int32))), va_P g.1 vwCl [oX12 h h_tape v_taped h_text v_size v_token v_begin v_end v_tokens v_code v_faultKind v_faultPlace v_names v_blocks h_nameCode h_nameBlock h_blockMany h_blockAll v_nodeMany v_top h_kind h_left h_right v_namesWas v_blocksWas v_nodeManyWas v_topWas h_nameCodeWas h_nameBlockWas h_blockManyWas h_blockAllWas h_kindWas h_leftWas h_rightWas h_wait h_done v_waits v_dones v_opened h_leaf h_fold h_kept h_now v_played v_depth v_prefix h_moveMade h_out v_written h_later v_laters, aZ g h_leaf 4096 v_leaf, aZ g h_fold 8192 v_fold_11, aI g h_nameBlock 12 v_nameBlock, aZ g h_blockAll 6 v_blockAll] H → va_D A [oX12 h h_tape v_taped h_text v_size v_token v_begin v_end v_tokens v_code v_faultKind v_faultPlace v_names v_blocks h_nameCode h_nameBlock h_blockMany h_blockAll v_nodeMany v_top h_kind h_left h_right v_namesWas v_blocksWas v_nodeManyWas v_topWas h_nameCodeWas h_nameBlockWas h_blockManyWas h_blockAllWas h_kindWas h_leftWas h_rightWas h_wait h_done v_waits v_dones v_opened h_leaf h_fold h_kept h_now v_played v_depth v_prefix h_moveMade h_out v_written h_later v_laters, aZ g h_leaf 4096 v_leaf, aZ g h_fold 8192 v_fold_11, aI g h_nameBlock 12 v_nameBlock, aZ g h_blockAll 6 v_blockAll] → va_S A s.heap H locs → lv_has ls 10 [(0, .ref h), (1, .int a1), (2, .int a2), (3, .int a3), (4, .int ((1 : Int32) <<< (v_names &&& 31))), (5, .int x5_11)] → (∀ (z_x5_11 : Int32) (z_v_fold_11 : Nat → Int32) (H : Heap) (locs : List Loc) (ls : Array Slot), va_P g.1 vwCl [oX12 h h_tape v_taped h_text v_size v_token v_begin v_end v_tokens v_code v_faultKind v_faultPlace v_names v_blocks h_nameCode h_nameBlock h_blockMany h_blockAll v_nodeMany v_top h_kind h_left h_right v_namesWas v_blocksWas v_nodeManyWas v_topWas h_nameCodeWas h_nameBlockWas h_blockManyWas h_blockAllWas h_kindWas h_leftWas h_rightWas h_wait h_done v_waits v_dones v_opened h_leaf h_fold h_kept h_now v_played v_depth v_prefix h_moveMade h_out v_written h_later v_laters, aZ g h_leaf 4096 v_leaf, aZ g h_fold 8192 z_v_fold_11, aI g h_nameBlock 12 v_nameBlock, aZ g h_blockAll 6 v_blockAll] H → va_D A [oX12 h h_tape v_taped h_text v_size v_token v_begin v_end v_tokens v_code v_faultKind v_faultPlace v_names v_blocks h_nameCode h_nameBlock h_blockMany h_blockAll v_nodeMany v_top h_kind h_left h_right v_namesWas v_blocksWas v_nodeManyWas v_topWas h_nameCodeWas h_nameBlockWas h_blockManyWas h_blockAllWas h_kindWas h_leftWas h_rightWas h_wait h_done v_waits v_dones v_opened h_leaf h_fold h_kept h_now v_played v_depth v_prefix h_moveMade h_out v_written h_later v_laters, aZ g h_leaf 4096 v_leaf, aZ g h_fold 8192 z_v_fold_11, aI g h_nameBlock 12 v_nameBlock, aZ g h_blockAll 6 v_blockAll] → va_S A s.heap H locs → lv_has ls 10 [(0, .ref h), (1, .int a1), (2, .int a2), (3, .int a3), (4, .int ((1 : Int32) <<< (v_names &&& 31))), (5, .int z_x5_11)] → K_11 z_x5_11 z_v_fold_11 = some u_fold → W p l e ({ frames := 0, cells := 0, slots := 0, locals := 0 }) s m [.ref h, .int a1, .int a2, .int a3].toArray below meth c H locs 0 0 (MQ below (fun _ => QW g [oX12 h h_tape v_taped h_text v_size v_token v_begin v_end v_tokens v_code v_faultKind v_faultPlace v_names v_blocks h_nameCode h_nameBlock h_blockMany h_blockAll v_nodeMany v_top h_kind h_left h_right v_namesWas v_blocksWas v_nodeManyWas v_topWas h_nameCodeWas h_nameBlockWas h_blockManyWas h_blockAllWas h_kindWas h_leftWas h_rightWas h_wait h_done v_waits v_dones v_opened h_leaf h_fold h_kept h_now v_played v_depth v_prefix h_moveMade h_out v_written h_later v_laters, aZ g h_leaf 4096 v_leaf, aZ g h_fold 8192 v_fold, aI g h_nameBlock 12 v_nameBlock, aZ g h_blockAll 6 v_blockAll] s.heap.size none [oX12 h h_tape v_taped h_text v_size v_token v_begin v_end v_tokens v_code v_faultKind v_faultPlace v_names v_blocks h_nameCode h_nameBlock h_blockMany h_blockAll v_nodeMany v_top h_kind h_left h_right v_namesWas v_blocksWas v_nodeManyWas v_topWas h_nameCodeWas h_nameBlockWas h_blockManyWas h_blockAllWas h_kindWas h_leftWas h_rightWas h_wait h_done v_waits v_dones v_opened h_leaf h_fold h_kept h_now v_played v_depth v_prefix h_moveMade h_out v_written h_later v_laters, aZ g h_leaf 4096 v_leaf, aZ g h_fold 8192 u_fold, aI g h_nameBlock 12 v_nameBlock, aZ g h_blockAll 6 v_blockAll]) [.ref h, .int a1, .int a2, .int a3].toArray s 0 0 (va_A [oX12 h h_tape v_taped h_text v_size v_token v_begin v_end v_tokens v_code v_faultKind v_faultPlace v_names v_blocks h_nameCode h_nameBlock h_blockMany h_blockAll v_nodeMany v_top h_kind h_left h_right v_namesWas v_blocksWas v_nodeManyWas v_topWas h_nameCodeWas h_nameBlockWas h_blockManyWas h_blockAllWas h_kindWas h_leftWas h_rightWas h_wait h_done v_waits v_dones v_opened h_leaf h_fold h_kept h_now v_played v_depth v_prefix h_moveMade h_out v_written h_later v_laters, aZ g h_leaf 4096 v_leaf, aZ g h_fold 8192 v_fold, aI g h_nameBlock 12 v_nameBlock, aZ g h_blockAll 6 v_blockAll] s.heap.size)) (F0 m 41 ls [])) → lp_X12_folds_11 a1 a2 a3 ((1 : Int32) <<< (v_names &&& 31)) v_names v_leaf v_nameBlock v_blockAll n x5_11 v_fold_11 K_11 = some u_fold → W p l e ({ frames := 0, cells := 0, slots := 0, locals := 0 }) s m [.ref h, .int a1, .int a2, .int a3].toArray below meth c H locs 0 0 (MQ below (fun _ => QW g [oX12 h h_tape v_taped h_text v_size v_token v_begin v_end v_tokens v_code v_faultKind v_faultPlace v_names v_blocks h_nameCode h_nameBlock h_blockMany h_blockAll v_nodeMany v_top h_kind h_left h_right v_namesWas v_blocksWas v_nodeManyWas v_topWas h_nameCodeWas h_nameBlockWas h_blockManyWas h_blockAllWas h_kindWas h_leftWas h_rightWas h_wait h_done v_waits v_dones v_opened h_leaf h_fold h_kept h_now v_played v_depth v_prefix h_moveMade h_out v_written h_later v_laters, aZ g h_leaf 4096 v_leaf, aZ g h_fold 8192 v_fold, aI g h_nameBlock 12 v_nameBlock, aZ g h_blockAll 6 v_blockAll] s.heap.size none [oX12 h h_tape v_taped h_text v_size v_token v_begin v_end v_tokens v_code v_faultKind v_faultPlace v_names v_blocks h_nameCode h_nameBlock h_blockMany h_blockAll v_nodeMany v_top h_kind h_left h_right v_namesWas v_blocksWas v_nodeManyWas v_topWas h_nameCodeWas h_nameBlockWas h_blockManyWas h_blockAllWas h_kindWas h_leftWas h_rightWas h_wait h_done v_waits v_dones v_opened h_leaf h_fold h_kept h_now v_played v_depth v_prefix h_moveMade h_out v_written h_later v_laters, aZ g h_leaf 4096 v_leaf, aZ g h_fold 8192 u_fold, aI g h_nameBlock 12 v_nameBlock, aZ g h_blockAll 6 v_blockAll]) [.ref h, .int a1, .int a2, .int a3].toArray s 0 0 (va_A [oX12 h h_tape v_taped h_text v_size v_token v_begin v_end v_tokens v_code v_faultKind v_faultPlace v_names v_blocks h_nameCode h_nameBlock h_blockMany h_blockAll v_nodeMany v_top h_kind h_left h_right v_namesWas v_blocksWas v_nodeManyWas v_topWas h_nameCodeWas h_nameBlockWas h_blockManyWas h_blockAllWas h_kindWas h_leftWas h_rightWas h_wait h_done v_waits v_dones v_opened h_leaf h_fold h_kept h_now v_played v_depth v_prefix h_moveMade h_out v_written h_later v_laters, aZ g h_leaf 4096 v_leaf, aZ g h_fold 8192 v_fold, aI g h_nameBlock 12 v_nameBlock, aZ g h_blockAll 6 v_blockAll] s.heap.size)) (F0 m 11 ls []) := by
    intro n
    induction n with
    | zero =>
      intro x5_11 v_fold_11 H locs ls K_11 hP hD hS hl hk hf
      have hf : (none : Option ((Nat → Int32))) = some _ := hf
      cases hf
    | succ n_11 ih_11 =>
      intro x5_11 v_fold_11 H locs ls K_11 hP hD hS hl hk_11 hf
      refine lv_iload hx hb dX12_folds_11 (lv_at hl 5 rfl) ?_
      refine lv_iload hx hb dX12_folds_13 (lv_at hl 4 rfl) ?_
      refine lv_icmp_ge (tgt := 41) hx hb dX12_folds_15 (by decide) (fun c_6 => ?_) (fun c_6 => ?_)
      · have hf := ift hf c_6
        exact hk_11 x5_11 v_fold_11 H locs ls hP hD hS (lv_sub hl [0, 1, 2, 3, 4, 5] rfl) hf
      · have hf := iff_ hf c_6
        refine lv_aload_n hx hb dX12_folds_18 rfl (lv_at hl 0 rfl) ?_
        refine gf_X12_73 X rfl hP 0 rfl rfl dX12_folds_19 ?_
        refine lv_iload hx hb dX12_folds_22 (lv_at hl 4 rfl) ?_
        refine lv_iload hx hb dX12_folds_24 (lv_at hl 5 rfl) ?_
        refine lv_iadd hx hb dX12_folds_26 ?_
        refine lv_aload_n hx hb dX12_folds_27 rfl (lv_at hl 0 rfl) ?_
        refine gf_X12_70 X rfl hP 0 rfl rfl dX12_folds_28 ?_
        refine lv_iload hx hb dX12_folds_31 (lv_at hl 5 rfl) ?_
        obtain ⟨hi_7, hf⟩ := ifs hf
        refine va_zald (D := g.1) hx hb hG.1 hP 1 3 rfl rfl (ix_in hi_7) dX12_folds_33 ?_
        obtain ⟨hi_8, hf⟩ := ifs hf
        refine va_zast (D := g.1) hx hb hG.1 hP hD hS 2 3 rfl rfl (ix_in hi_8) dX12_folds_34 (fun H locs hP hD hS => ?_)
        have hP : va_P g.1 vwCl [oX12 h h_tape v_taped h_text v_size v_token v_begin v_end v_tokens v_code v_faultKind v_faultPlace v_names v_blocks h_nameCode h_nameBlock h_blockMany h_blockAll v_nodeMany v_top h_kind h_left h_right v_namesWas v_blocksWas v_nodeManyWas v_topWas h_nameCodeWas h_nameBlockWas h_blockManyWas h_blockAllWas h_kindWas h_leftWas h_rightWas h_wait h_done v_waits v_dones v_opened h_leaf h_fold h_kept h_now v_played v_depth v_prefix h_moveMade h_out v_written h_later v_laters, aZ g h_leaf 4096 v_leaf, aZ g h_fold 8192 (upd v_fold_11 (((1 : Int32) <<< (v_names &&& 31)) + x5_11).toNatClampNeg (vp_nar .boolean (v_leaf x5_11.toNatClampNeg))), aI g h_nameBlock 12 v_nameBlock, aZ g h_blockAll 6 v_blockAll] H := hP
        have hD : va_D A [oX12 h h_tape v_taped h_text v_size v_token v_begin v_end v_tokens v_code v_faultKind v_faultPlace v_names v_blocks h_nameCode h_nameBlock h_blockMany h_blockAll v_nodeMany v_top h_kind h_left h_right v_namesWas v_blocksWas v_nodeManyWas v_topWas h_nameCodeWas h_nameBlockWas h_blockManyWas h_blockAllWas h_kindWas h_leftWas h_rightWas h_wait h_done v_waits v_dones v_opened h_leaf h_fold h_kept h_now v_played v_depth v_prefix h_moveMade h_out v_written h_later v_laters, aZ g h_leaf 4096 v_leaf, aZ g h_fold 8192 (upd v_fold_11 (((1 : Int32) <<< (v_names &&& 31)) + x5_11).toNatClampNeg (vp_nar .boolean (v_leaf x5_11.toNatClampNeg))), aI g h_nameBlock 12 v_nameBlock, aZ g h_blockAll 6 v_blockAll] := hD
        refine lv_iinc (v := x5_11 + 1) (lv' := [(5, .int (x5_11 + 1)), (0, .ref h), (1, .int a1), (2, .int a2), (3, .int a3), (4, .int ((1 : Int32) <<< (v_names &&& 31)))]) hx hb dX12_folds_35 hl (k := 5) rfl rfl (by decide) rfl (fun ls hl => ?_)
        refine lv_goto (tgt := 11) hx hb dX12_folds_38 (by decide) ?_
        exact ih_11 (x5_11 + 1) (upd v_fold_11 (((1 : Int32) <<< (v_names &&& 31)) + x5_11).toNatClampNeg (vp_nar .boolean (v_leaf x5_11.toNatClampNeg))) H locs ls K_11 hP hD hS (lv_sub hl [1, 2, 3, 4, 5, 0] rfl) hk_11 hf
  refine L_11 _ _ _ _ _ ls _ hP hD hS (lv_sub hl [2, 3, 4, 5, 1, 0] rfl) (fun x5_11_4 v_fold_11_5 H locs ls hP hD hS hl hf => ?_) hf
  refine lv_iload hx hb dX12_folds_41 (lv_at hl 4 rfl) ?_
  refine lv_iconst (v := 1) hx hb dX12_folds_43 (by decide) ?_
  refine lv_isub hx hb dX12_folds_44 ?_
  refine lv_istore (lv' := [(5, .int (((1 : Int32) <<< (v_names &&& 31)) - (1 : Int32))), (0, .ref h), (1, .int a1), (2, .int a2), (3, .int a3), (4, .int ((1 : Int32) <<< (v_names &&& 31)))]) hx hb dX12_folds_45 hl (by decide) rfl (fun ls hl => ?_)
  have L_47 : ∀ (n : Nat) (x5_47 : Int32) (v_fold_47 : Nat → Int32) (H : Heap) (locs : List Loc) (ls : Array Slot) (K_47 : Int32 → (Nat → Int32) → Option ((Nat → Int32))), va_P g.1 vwCl [oX12 h h_tape v_taped h_text v_size v_token v_begin v_end v_tokens v_code v_faultKind v_faultPlace v_names v_blocks h_nameCode h_nameBlock h_blockMany h_blockAll v_nodeMany v_top h_kind h_left h_right v_namesWas v_blocksWas v_nodeManyWas v_topWas h_nameCodeWas h_nameBlockWas h_blockManyWas h_blockAllWas h_kindWas h_leftWas h_rightWas h_wait h_done v_waits v_dones v_opened h_leaf h_fold h_kept h_now v_played v_depth v_prefix h_moveMade h_out v_written h_later v_laters, aZ g h_leaf 4096 v_leaf, aZ g h_fold 8192 v_fold_47, aI g h_nameBlock 12 v_nameBlock, aZ g h_blockAll 6 v_blockAll] H → va_D A [oX12 h h_tape v_taped h_text v_size v_token v_begin v_end v_tokens v_code v_faultKind v_faultPlace v_names v_blocks h_nameCode h_nameBlock h_blockMany h_blockAll v_nodeMany v_top h_kind h_left h_right v_namesWas v_blocksWas v_nodeManyWas v_topWas h_nameCodeWas h_nameBlockWas h_blockManyWas h_blockAllWas h_kindWas h_leftWas h_rightWas h_wait h_done v_waits v_dones v_opened h_leaf h_fold h_kept h_now v_played v_depth v_prefix h_moveMade h_out v_written h_later v_laters, aZ g h_leaf 4096 v_leaf, aZ g h_fold 8192 v_fold_47, aI g h_nameBlock 12 v_nameBlock, aZ g h_blockAll 6 v_blockAll] → va_S A s.heap H locs → lv_has ls 10 [(0, .ref h), (1, .int a1), (2, .int a2), (3, .int a3), (4, .int ((1 : Int32) <<< (v_names &&& 31))), (5, .int x5_47)] → (∀ (z_x5_47 : Int32) (z_v_fold_47 : Nat → Int32) (H : Heap) (locs : List Loc) (ls : Array Slot), va_P g.1 vwCl [oX12 h h_tape v_taped h_text v_size v_token v_begin v_end v_tokens v_code v_faultKind v_faultPlace v_names v_blocks h_nameCode h_nameBlock h_blockMany h_blockAll v_nodeMany v_top h_kind h_left h_right v_namesWas v_blocksWas v_nodeManyWas v_topWas h_nameCodeWas h_nameBlockWas h_blockManyWas h_blockAllWas h_kindWas h_leftWas h_rightWas h_wait h_done v_waits v_dones v_opened h_leaf h_fold h_kept h_now v_played v_depth v_prefix h_moveMade h_out v_written h_later v_laters, aZ g h_leaf 4096 v_leaf, aZ g h_fold 8192 z_v_fold_47, aI g h_nameBlock 12 v_nameBlock, aZ g h_blockAll 6 v_blockAll] H → va_D A [oX12 h h_tape v_taped h_text v_size v_token v_begin v_end v_tokens v_code v_faultKind v_faultPlace v_names v_blocks h_nameCode h_nameBlock h_blockMany h_blockAll v_nodeMany v_top h_kind h_left h_right v_namesWas v_blocksWas v_nodeManyWas v_topWas h_nameCodeWas h_nameBlockWas h_blockManyWas h_blockAllWas h_kindWas h_leftWas h_rightWas h_wait h_done v_waits v_dones v_opened h_leaf h_fold h_kept h_now v_played v_depth v_prefix h_moveMade h_out v_written h_later v_laters, aZ g h_leaf 4096 v_leaf, aZ g h_fold 8192 z_v_fold_47, aI g h_nameBlock 12 v_nameBlock, aZ g h_blockAll 6 v_blockAll] → va_S A s.heap H locs → lv_has ls 10 [(0, .ref h), (1, .int a1), (2, .int a2), (3, .int a3), (4, .int ((1 : Int32) <<< (v_names &&& 31))), (5, .int z_x5_47)] → K_47 z_x5_47 z_v_fold_47 = some u_fold → W p l e ({ frames := 0, cells := 0, slots := 0, locals := 0 }) s m [.ref h, .int a1, .int a2, .int a3].toArray below meth c H locs 0 0 (MQ below (fun _ => QW g [oX12 h h_tape v_taped h_text v_size v_token v_begin v_end v_tokens v_code v_faultKind v_faultPlace v_names v_blocks h_nameCode h_nameBlock h_blockMany h_blockAll v_nodeMany v_top h_kind h_left h_right v_namesWas v_blocksWas v_nodeManyWas v_topWas h_nameCodeWas h_nameBlockWas h_blockManyWas h_blockAllWas h_kindWas h_leftWas h_rightWas h_wait h_done v_waits v_dones v_opened h_leaf h_fold h_kept h_now v_played v_depth v_prefix h_moveMade h_out v_written h_later v_laters, aZ g h_leaf 4096 v_leaf, aZ g h_fold 8192 v_fold, aI g h_nameBlock 12 v_nameBlock, aZ g h_blockAll 6 v_blockAll] s.heap.size none [oX12 h h_tape v_taped h_text v_size v_token v_begin v_end v_tokens v_code v_faultKind v_faultPlace v_names v_blocks h_nameCode h_nameBlock h_blockMany h_blockAll v_nodeMany v_top h_kind h_left h_right v_namesWas v_blocksWas v_nodeManyWas v_topWas h_nameCodeWas h_nameBlockWas h_blockManyWas h_blockAllWas h_kindWas h_leftWas h_rightWas h_wait h_done v_waits v_dones v_opened h_leaf h_fold h_kept h_now v_played v_depth v_prefix h_moveMade h_out v_written h_later v_laters, aZ g h_leaf 4096 v_leaf, aZ g h_fold 8192 u_fold, aI g h_nameBlock 12 v_nameBlock, aZ g h_blockAll 6 v_blockAll]) [.ref h, .int a1, .int a2, .int a3].toArray s 0 0 (va_A [oX12 h h_tape v_taped h_text v_size v_token v_begin v_end v_tokens v_code v_faultKind v_faultPlace v_names v_blocks h_nameCode h_nameBlock h_blockMany h_blockAll v_nodeMany v_top h_kind h_left h_right v_namesWas v_blocksWas v_nodeManyWas v_topWas h_nameCodeWas h_nameBlockWas h_blockManyWas h_blockAllWas h_kindWas h_leftWas h_rightWas h_wait h_done v_waits v_dones v_opened h_leaf h_fold h_kept h_now v_played v_depth v_prefix h_moveMade h_out v_written h_later v_laters, aZ g h_leaf 4096 v_leaf, aZ g h_fold 8192 v_fold, aI g h_nameBlock 12 v_nameBlock, aZ g h_blockAll 6 v_blockAll] s.heap.size)) (F0 m 207 ls [])) → lp_X12_folds_47 a1 a2 a3 ((1 : Int32) <<< (v_names &&& 31)) v_names v_leaf v_nameBlock v_blockAll n x5_47 v_fold_47 K_47 = some u_fold → W p l e ({ frames := 0, cells := 0, slots := 0, locals := 0 }) s m [.ref h, .int a1, .int a2, .int a3].toArray below meth c H locs 0 0 (MQ below (fun _ => QW g [oX12 h h_tape v_taped h_text v_size v_token v_begin v_end v_tokens v_code v_faultKind v_faultPlace v_names v_blocks h_nameCode h_nameBlock h_blockMany h_blockAll v_nodeMany v_top h_kind h_left h_right v_namesWas v_blocksWas v_nodeManyWas v_topWas h_nameCodeWas h_nameBlockWas h_blockManyWas h_blockAllWas h_kindWas h_leftWas h_rightWas h_wait h_done v_waits v_dones v_opened h_leaf h_fold h_kept h_now v_played v_depth v_prefix h_moveMade h_out v_written h_later v_laters, aZ g h_leaf 4096 v_leaf, aZ g h_fold 8192 v_fold, aI g h_nameBlock 12 v_nameBlock, aZ g h_blockAll 6 v_blockAll] s.heap.size none [oX12 h h_tape v_taped h_text v_size v_token v_begin v_end v_tokens v_code v_faultKind v_faultPlace v_names v_blocks h_nameCode h_nameBlock h_blockMany h_blockAll v_nodeMany v_top h_kind h_left h_right v_namesWas v_blocksWas v_nodeManyWas v_topWas h_nameCodeWas h_nameBlockWas h_blockManyWas h_blockAllWas h_kindWas h_leftWas h_rightWas h_wait h_done v_waits v_dones v_opened h_leaf h_fold h_kept h_now v_played v_depth v_prefix h_moveMade h_out v_written h_later v_laters, aZ g h_leaf 4096 v_leaf, aZ g h_fold 8192 u_fold, aI g h_nameBlock 12 v_nameBlock, aZ g h_blockAll 6 v_blockAll]) [.ref h, .int a1, .int a2, .int a3].toArray s 0 0 (va_A [oX12 h h_tape v_taped h_text v_size v_token v_begin v_end v_tokens v_code v_faultKind v_faultPlace v_names v_blocks h_nameCode h_nameBlock h_blockMany h_blockAll v_nodeMany v_top h_kind h_left h_right v_namesWas v_blocksWas v_nodeManyWas v_topWas h_nameCodeWas h_nameBlockWas h_blockManyWas h_blockAllWas h_kindWas h_leftWas h_rightWas h_wait h_done v_waits v_dones v_opened h_leaf h_fold h_kept h_now v_played v_depth v_prefix h_moveMade h_out v_written h_later v_laters, aZ g h_leaf 4096 v_leaf, aZ g h_fold 8192 v_fold, aI g h_nameBlock 12 v_nameBlock, aZ g h_blockAll 6 v_blockAll] s.heap.size)) (F0 m 47 ls []) := by
    intro n
    induction n with
    | zero =>
      intro x5_47 v_fold_47 H locs ls K_47 hP hD hS hl hk hf
      have hf : (none : Option ((Nat → Int32))) = some _ := hf
      cases hf
    | succ n_47 ih_47 =>
      intro x5_47 v_fold_47 H locs ls K_47 hP hD hS hl hk_47 hf
      refine lv_iload hx hb dX12_folds_47 (lv_at hl 5 rfl) ?_
      refine lv_iconst (v := 1) hx hb dX12_folds_49 (by decide) ?_
      refine lv_icmp_lt (tgt := 207) hx hb dX12_folds_50 (by decide) (fun c_36 => ?_) (fun c_36 => ?_)
      · have hf := ift hf c_36
        exact hk_47 x5_47 v_fold_47 H locs ls hP hD hS (lv_sub hl [0, 1, 2, 3, 4, 5] rfl) hf
      · have hf := iff_ hf c_36
        refine lv_iconst (v := 0) hx hb dX12_folds_53 (by decide) ?_
        refine lv_istore (lv' := [(6, .int 0), (0, .ref h), (1, .int a1), (2, .int a2), (3, .int a3), (4, .int ((1 : Int32) <<< (v_names &&& 31))), (5, .int x5_47)]) hx hb dX12_folds_54 hl (by decide) rfl (fun ls hl => ?_)
        have L_56 : ∀ (n : Nat) (x6_56 : Int32) (H : Heap) (locs : List Loc) (ls : Array Slot) (K_56 : Int32 → Option ((Nat → Int32))), va_P g.1 vwCl [oX12 h h_tape v_taped h_text v_size v_token v_begin v_end v_tokens v_code v_faultKind v_faultPlace v_names v_blocks h_nameCode h_nameBlock h_blockMany h_blockAll v_nodeMany v_top h_kind h_left h_right v_namesWas v_blocksWas v_nodeManyWas v_topWas h_nameCodeWas h_nameBlockWas h_blockManyWas h_blockAllWas h_kindWas h_leftWas h_rightWas h_wait h_done v_waits v_dones v_opened h_leaf h_fold h_kept h_now v_played v_depth v_prefix h_moveMade h_out v_written h_later v_laters, aZ g h_leaf 4096 v_leaf, aZ g h_fold 8192 v_fold_47, aI g h_nameBlock 12 v_nameBlock, aZ g h_blockAll 6 v_blockAll] H → va_D A [oX12 h h_tape v_taped h_text v_size v_token v_begin v_end v_tokens v_code v_faultKind v_faultPlace v_names v_blocks h_nameCode h_nameBlock h_blockMany h_blockAll v_nodeMany v_top h_kind h_left h_right v_namesWas v_blocksWas v_nodeManyWas v_topWas h_nameCodeWas h_nameBlockWas h_blockManyWas h_blockAllWas h_kindWas h_leftWas h_rightWas h_wait h_done v_waits v_dones v_opened h_leaf h_fold h_kept h_now v_played v_depth v_prefix h_moveMade h_out v_written h_later v_laters, aZ g h_leaf 4096 v_leaf, aZ g h_fold 8192 v_fold_47, aI g h_nameBlock 12 v_nameBlock, aZ g h_blockAll 6 v_blockAll] → va_S A s.heap H locs → lv_has ls 10 [(0, .ref h), (1, .int a1), (2, .int a2), (3, .int a3), (4, .int ((1 : Int32) <<< (v_names &&& 31))), (5, .int x5_47), (6, .int x6_56)] → (∀ (z_x6_56 : Int32) (H : Heap) (locs : List Loc) (ls : Array Slot), va_P g.1 vwCl [oX12 h h_tape v_taped h_text v_size v_token v_begin v_end v_tokens v_code v_faultKind v_faultPlace v_names v_blocks h_nameCode h_nameBlock h_blockMany h_blockAll v_nodeMany v_top h_kind h_left h_right v_namesWas v_blocksWas v_nodeManyWas v_topWas h_nameCodeWas h_nameBlockWas h_blockManyWas h_blockAllWas h_kindWas h_leftWas h_rightWas h_wait h_done v_waits v_dones v_opened h_leaf h_fold h_kept h_now v_played v_depth v_prefix h_moveMade h_out v_written h_later v_laters, aZ g h_leaf 4096 v_leaf, aZ g h_fold 8192 v_fold_47, aI g h_nameBlock 12 v_nameBlock, aZ g h_blockAll 6 v_blockAll] H → va_D A [oX12 h h_tape v_taped h_text v_size v_token v_begin v_end v_tokens v_code v_faultKind v_faultPlace v_names v_blocks h_nameCode h_nameBlock h_blockMany h_blockAll v_nodeMany v_top h_kind h_left h_right v_namesWas v_blocksWas v_nodeManyWas v_topWas h_nameCodeWas h_nameBlockWas h_blockManyWas h_blockAllWas h_kindWas h_leftWas h_rightWas h_wait h_done v_waits v_dones v_opened h_leaf h_fold h_kept h_now v_played v_depth v_prefix h_moveMade h_out v_written h_later v_laters, aZ g h_leaf 4096 v_leaf, aZ g h_fold 8192 v_fold_47, aI g h_nameBlock 12 v_nameBlock, aZ g h_blockAll 6 v_blockAll] → va_S A s.heap H locs → lv_has ls 10 [(0, .ref h), (1, .int a1), (2, .int a2), (3, .int a3), (4, .int ((1 : Int32) <<< (v_names &&& 31))), (5, .int x5_47), (6, .int z_x6_56)] → K_56 z_x6_56 = some u_fold → W p l e ({ frames := 0, cells := 0, slots := 0, locals := 0 }) s m [.ref h, .int a1, .int a2, .int a3].toArray below meth c H locs 0 0 (MQ below (fun _ => QW g [oX12 h h_tape v_taped h_text v_size v_token v_begin v_end v_tokens v_code v_faultKind v_faultPlace v_names v_blocks h_nameCode h_nameBlock h_blockMany h_blockAll v_nodeMany v_top h_kind h_left h_right v_namesWas v_blocksWas v_nodeManyWas v_topWas h_nameCodeWas h_nameBlockWas h_blockManyWas h_blockAllWas h_kindWas h_leftWas h_rightWas h_wait h_done v_waits v_dones v_opened h_leaf h_fold h_kept h_now v_played v_depth v_prefix h_moveMade h_out v_written h_later v_laters, aZ g h_leaf 4096 v_leaf, aZ g h_fold 8192 v_fold, aI g h_nameBlock 12 v_nameBlock, aZ g h_blockAll 6 v_blockAll] s.heap.size none [oX12 h h_tape v_taped h_text v_size v_token v_begin v_end v_tokens v_code v_faultKind v_faultPlace v_names v_blocks h_nameCode h_nameBlock h_blockMany h_blockAll v_nodeMany v_top h_kind h_left h_right v_namesWas v_blocksWas v_nodeManyWas v_topWas h_nameCodeWas h_nameBlockWas h_blockManyWas h_blockAllWas h_kindWas h_leftWas h_rightWas h_wait h_done v_waits v_dones v_opened h_leaf h_fold h_kept h_now v_played v_depth v_prefix h_moveMade h_out v_written h_later v_laters, aZ g h_leaf 4096 v_leaf, aZ g h_fold 8192 u_fold, aI g h_nameBlock 12 v_nameBlock, aZ g h_blockAll 6 v_blockAll]) [.ref h, .int a1, .int a2, .int a3].toArray s 0 0 (va_A [oX12 h h_tape v_taped h_text v_size v_token v_begin v_end v_tokens v_code v_faultKind v_faultPlace v_names v_blocks h_nameCode h_nameBlock h_blockMany h_blockAll v_nodeMany v_top h_kind h_left h_right v_namesWas v_blocksWas v_nodeManyWas v_topWas h_nameCodeWas h_nameBlockWas h_blockManyWas h_blockAllWas h_kindWas h_leftWas h_rightWas h_wait h_done v_waits v_dones v_opened h_leaf h_fold h_kept h_now v_played v_depth v_prefix h_moveMade h_out v_written h_later v_laters, aZ g h_leaf 4096 v_leaf, aZ g h_fold 8192 v_fold, aI g h_nameBlock 12 v_nameBlock, aZ g h_blockAll 6 v_blockAll] s.heap.size)) (F0 m 74 ls [])) → lp_X12_folds_56 a1 a2 a3 ((1 : Int32) <<< (v_names &&& 31)) x5_47 v_names v_leaf v_fold_47 v_nameBlock v_blockAll n x6_56 K_56 = some u_fold → W p l e ({ frames := 0, cells := 0, slots := 0, locals := 0 }) s m [.ref h, .int a1, .int a2, .int a3].toArray below meth c H locs 0 0 (MQ below (fun _ => QW g [oX12 h h_tape v_taped h_text v_size v_token v_begin v_end v_tokens v_code v_faultKind v_faultPlace v_names v_blocks h_nameCode h_nameBlock h_blockMany h_blockAll v_nodeMany v_top h_kind h_left h_right v_namesWas v_blocksWas v_nodeManyWas v_topWas h_nameCodeWas h_nameBlockWas h_blockManyWas h_blockAllWas h_kindWas h_leftWas h_rightWas h_wait h_done v_waits v_dones v_opened h_leaf h_fold h_kept h_now v_played v_depth v_prefix h_moveMade h_out v_written h_later v_laters, aZ g h_leaf 4096 v_leaf, aZ g h_fold 8192 v_fold, aI g h_nameBlock 12 v_nameBlock, aZ g h_blockAll 6 v_blockAll] s.heap.size none [oX12 h h_tape v_taped h_text v_size v_token v_begin v_end v_tokens v_code v_faultKind v_faultPlace v_names v_blocks h_nameCode h_nameBlock h_blockMany h_blockAll v_nodeMany v_top h_kind h_left h_right v_namesWas v_blocksWas v_nodeManyWas v_topWas h_nameCodeWas h_nameBlockWas h_blockManyWas h_blockAllWas h_kindWas h_leftWas h_rightWas h_wait h_done v_waits v_dones v_opened h_leaf h_fold h_kept h_now v_played v_depth v_prefix h_moveMade h_out v_written h_later v_laters, aZ g h_leaf 4096 v_leaf, aZ g h_fold 8192 u_fold, aI g h_nameBlock 12 v_nameBlock, aZ g h_blockAll 6 v_blockAll]) [.ref h, .int a1, .int a2, .int a3].toArray s 0 0 (va_A [oX12 h h_tape v_taped h_text v_size v_token v_begin v_end v_tokens v_code v_faultKind v_faultPlace v_names v_blocks h_nameCode h_nameBlock h_blockMany h_blockAll v_nodeMany v_top h_kind h_left h_right v_namesWas v_blocksWas v_nodeManyWas v_topWas h_nameCodeWas h_nameBlockWas h_blockManyWas h_blockAllWas h_kindWas h_leftWas h_rightWas h_wait h_done v_waits v_dones v_opened h_leaf h_fold h_kept h_now v_played v_depth v_prefix h_moveMade h_out v_written h_later v_laters, aZ g h_leaf 4096 v_leaf, aZ g h_fold 8192 v_fold, aI g h_nameBlock 12 v_nameBlock, aZ g h_blockAll 6 v_blockAll] s.heap.size)) (F0 m 56 ls []) := by
          intro n
          induction n with
          | zero =>
            intro x6_56 H locs ls K_56 hP hD hS hl hk hf
            have hf : (none : Option ((Nat → Int32))) = some _ := hf
            cases hf
          | succ n_56 ih_56 =>
            intro x6_56 H locs ls K_56 hP hD hS hl hk_56 hf
            refine lv_iload hx hb dX12_folds_56 (lv_at hl 5 rfl) ?_
            refine lv_iload hx hb dX12_folds_58 (lv_at hl 6 rfl) ?_
            refine lv_ishr hx hb dX12_folds_60 ?_
            refine lv_iconst (v := 1) hx hb dX12_folds_61 (by decide) ?_
            refine lv_icmp_le (tgt := 74) hx hb dX12_folds_62 (by decide) (fun c_38 => ?_) (fun c_38 => ?_)
            · have hf := ift hf c_38
              exact hk_56 x6_56 H locs ls hP hD hS (lv_sub hl [0, 1, 2, 3, 4, 5, 6] rfl) hf
            · have hf := iff_ hf c_38
              refine lv_iload hx hb dX12_folds_65 (lv_at hl 6 rfl) ?_
              refine lv_iconst (v := 1) hx hb dX12_folds_67 (by decide) ?_
              refine lv_iadd hx hb dX12_folds_68 ?_
              refine lv_istore (lv' := [(6, .int (x6_56 + (1 : Int32))), (0, .ref h), (1, .int a1), (2, .int a2), (3, .int a3), (4, .int ((1 : Int32) <<< (v_names &&& 31))), (5, .int x5_47)]) hx hb dX12_folds_69 hl (by decide) rfl (fun ls hl => ?_)
              refine lv_goto (tgt := 56) hx hb dX12_folds_71 (by decide) ?_
              exact ih_56 (x6_56 + (1 : Int32)) H locs ls K_56 hP hD hS (lv_sub hl [1, 2, 3, 4, 5, 6, 0] rfl) hk_56 hf
        refine L_56 _ _ _ _ ls _ hP hD hS (lv_sub hl [1, 2, 3, 4, 5, 6, 0] rfl) (fun x6_56_37 H locs ls hP hD hS hl hf => ?_) hf
        refine lv_aload_n hx hb dX12_folds_74 rfl (lv_at hl 0 rfl) ?_
        refine gf_X12_30 X rfl hP 0 rfl rfl dX12_folds_75 ?_
        refine lv_aload_n hx hb dX12_folds_78 rfl (lv_at hl 0 rfl) ?_
        refine gf_X12_24 X rfl hP 0 rfl rfl dX12_folds_79 ?_
        refine lv_iload hx hb dX12_folds_82 (lv_at hl 6 rfl) ?_
        obtain ⟨hi_39, hf⟩ := ifs hf
        refine va_iald (D := g.1) hx hb hG.1 hP 3 1 rfl rfl (ix_in hi_39) dX12_folds_84 ?_
        obtain ⟨hi_40, hf⟩ := ifs hf
        refine va_zald (D := g.1) hx hb hG.1 hP 4 3 rfl rfl (ix_in hi_40) dX12_folds_85 ?_
        refine lv_aload_n hx hb dX12_folds_86 rfl (lv_at hl 0 rfl) ?_
        refine gf_X12_24 X rfl hP 0 rfl rfl dX12_folds_87 ?_
        refine lv_iload hx hb dX12_folds_90 (lv_at hl 6 rfl) ?_
        obtain ⟨hi_41, hf⟩ := ifs hf
        refine va_iald (D := g.1) hx hb hG.1 hP 3 1 rfl rfl (ix_in hi_41) dX12_folds_92 ?_
        refine lv_iload_n hx hb dX12_folds_93 rfl (lv_at hl 3 rfl) ?_
        refine jn_elim hf (fun j_102 hj_102 hf => ?_)
        have J_102 : ∀ (s1_102 : Int32) (H : Heap) (locs : List Loc) (ls : Array Slot), va_P g.1 vwCl [oX12 h h_tape v_taped h_text v_size v_token v_begin v_end v_tokens v_code v_faultKind v_faultPlace v_names v_blocks h_nameCode h_nameBlock h_blockMany h_blockAll v_nodeMany v_top h_kind h_left h_right v_namesWas v_blocksWas v_nodeManyWas v_topWas h_nameCodeWas h_nameBlockWas h_blockManyWas h_blockAllWas h_kindWas h_leftWas h_rightWas h_wait h_done v_waits v_dones v_opened h_leaf h_fold h_kept h_now v_played v_depth v_prefix h_moveMade h_out v_written h_later v_laters, aZ g h_leaf 4096 v_leaf, aZ g h_fold 8192 v_fold_47, aI g h_nameBlock 12 v_nameBlock, aZ g h_blockAll 6 v_blockAll] H → va_D A [oX12 h h_tape v_taped h_text v_size v_token v_begin v_end v_tokens v_code v_faultKind v_faultPlace v_names v_blocks h_nameCode h_nameBlock h_blockMany h_blockAll v_nodeMany v_top h_kind h_left h_right v_namesWas v_blocksWas v_nodeManyWas v_topWas h_nameCodeWas h_nameBlockWas h_blockManyWas h_blockAllWas h_kindWas h_leftWas h_rightWas h_wait h_done v_waits v_dones v_opened h_leaf h_fold h_kept h_now v_played v_depth v_prefix h_moveMade h_out v_written h_later v_laters, aZ g h_leaf 4096 v_leaf, aZ g h_fold 8192 v_fold_47, aI g h_nameBlock 12 v_nameBlock, aZ g h_blockAll 6 v_blockAll] → va_S A s.heap H locs → lv_has ls 10 [(0, .ref h), (1, .int a1), (2, .int a2), (3, .int a3), (4, .int ((1 : Int32) <<< (v_names &&& 31))), (5, .int x5_47), (6, .int x6_56_37)] → j_102 s1_102 = some u_fold → W p l e ({ frames := 0, cells := 0, slots := 0, locals := 0 }) s m [.ref h, .int a1, .int a2, .int a3].toArray below meth c H locs 0 0 (MQ below (fun _ => QW g [oX12 h h_tape v_taped h_text v_size v_token v_begin v_end v_tokens v_code v_faultKind v_faultPlace v_names v_blocks h_nameCode h_nameBlock h_blockMany h_blockAll v_nodeMany v_top h_kind h_left h_right v_namesWas v_blocksWas v_nodeManyWas v_topWas h_nameCodeWas h_nameBlockWas h_blockManyWas h_blockAllWas h_kindWas h_leftWas h_rightWas h_wait h_done v_waits v_dones v_opened h_leaf h_fold h_kept h_now v_played v_depth v_prefix h_moveMade h_out v_written h_later v_laters, aZ g h_leaf 4096 v_leaf, aZ g h_fold 8192 v_fold, aI g h_nameBlock 12 v_nameBlock, aZ g h_blockAll 6 v_blockAll] s.heap.size none [oX12 h h_tape v_taped h_text v_size v_token v_begin v_end v_tokens v_code v_faultKind v_faultPlace v_names v_blocks h_nameCode h_nameBlock h_blockMany h_blockAll v_nodeMany v_top h_kind h_left h_right v_namesWas v_blocksWas v_nodeManyWas v_topWas h_nameCodeWas h_nameBlockWas h_blockManyWas h_blockAllWas h_kindWas h_leftWas h_rightWas h_wait h_done v_waits v_dones v_opened h_leaf h_fold h_kept h_now v_played v_depth v_prefix h_moveMade h_out v_written h_later v_laters, aZ g h_leaf 4096 v_leaf, aZ g h_fold 8192 u_fold, aI g h_nameBlock 12 v_nameBlock, aZ g h_blockAll 6 v_blockAll]) [.ref h, .int a1, .int a2, .int a3].toArray s 0 0 (va_A [oX12 h h_tape v_taped h_text v_size v_token v_begin v_end v_tokens v_code v_faultKind v_faultPlace v_names v_blocks h_nameCode h_nameBlock h_blockMany h_blockAll v_nodeMany v_top h_kind h_left h_right v_namesWas v_blocksWas v_nodeManyWas v_topWas h_nameCodeWas h_nameBlockWas h_blockManyWas h_blockAllWas h_kindWas h_leftWas h_rightWas h_wait h_done v_waits v_dones v_opened h_leaf h_fold h_kept h_now v_played v_depth v_prefix h_moveMade h_out v_written h_later v_laters, aZ g h_leaf 4096 v_leaf, aZ g h_fold 8192 v_fold, aI g h_nameBlock 12 v_nameBlock, aZ g h_blockAll 6 v_blockAll] s.heap.size)) (F0 m 102 ls [.int s1_102, .int (v_blockAll (v_nameBlock x6_56_37.toNatClampNeg).toNatClampNeg)]) := by
          intro s1_102 H locs ls hP hD hS hl hf
          rw [hj_102] at hf
          refine jn_elim hf (fun j_110 hj_110 hf => ?_)
          have J_110 : ∀ (s0_110 : Int32) (H : Heap) (locs : List Loc) (ls : Array Slot), va_P g.1 vwCl [oX12 h h_tape v_taped h_text v_size v_token v_begin v_end v_tokens v_code v_faultKind v_faultPlace v_names v_blocks h_nameCode h_nameBlock h_blockMany h_blockAll v_nodeMany v_top h_kind h_left h_right v_namesWas v_blocksWas v_nodeManyWas v_topWas h_nameCodeWas h_nameBlockWas h_blockManyWas h_blockAllWas h_kindWas h_leftWas h_rightWas h_wait h_done v_waits v_dones v_opened h_leaf h_fold h_kept h_now v_played v_depth v_prefix h_moveMade h_out v_written h_later v_laters, aZ g h_leaf 4096 v_leaf, aZ g h_fold 8192 v_fold_47, aI g h_nameBlock 12 v_nameBlock, aZ g h_blockAll 6 v_blockAll] H → va_D A [oX12 h h_tape v_taped h_text v_size v_token v_begin v_end v_tokens v_code v_faultKind v_faultPlace v_names v_blocks h_nameCode h_nameBlock h_blockMany h_blockAll v_nodeMany v_top h_kind h_left h_right v_namesWas v_blocksWas v_nodeManyWas v_topWas h_nameCodeWas h_nameBlockWas h_blockManyWas h_blockAllWas h_kindWas h_leftWas h_rightWas h_wait h_done v_waits v_dones v_opened h_leaf h_fold h_kept h_now v_played v_depth v_prefix h_moveMade h_out v_written h_later v_laters, aZ g h_leaf 4096 v_leaf, aZ g h_fold 8192 v_fold_47, aI g h_nameBlock 12 v_nameBlock, aZ g h_blockAll 6 v_blockAll] → va_S A s.heap H locs → lv_has ls 10 [(0, .ref h), (1, .int a1), (2, .int a2), (3, .int a3), (4, .int ((1 : Int32) <<< (v_names &&& 31))), (5, .int x5_47), (6, .int x6_56_37)] → j_110 s0_110 = some u_fold → W p l e ({ frames := 0, cells := 0, slots := 0, locals := 0 }) s m [.ref h, .int a1, .int a2, .int a3].toArray below meth c H locs 0 0 (MQ below (fun _ => QW g [oX12 h h_tape v_taped h_text v_size v_token v_begin v_end v_tokens v_code v_faultKind v_faultPlace v_names v_blocks h_nameCode h_nameBlock h_blockMany h_blockAll v_nodeMany v_top h_kind h_left h_right v_namesWas v_blocksWas v_nodeManyWas v_topWas h_nameCodeWas h_nameBlockWas h_blockManyWas h_blockAllWas h_kindWas h_leftWas h_rightWas h_wait h_done v_waits v_dones v_opened h_leaf h_fold h_kept h_now v_played v_depth v_prefix h_moveMade h_out v_written h_later v_laters, aZ g h_leaf 4096 v_leaf, aZ g h_fold 8192 v_fold, aI g h_nameBlock 12 v_nameBlock, aZ g h_blockAll 6 v_blockAll] s.heap.size none [oX12 h h_tape v_taped h_text v_size v_token v_begin v_end v_tokens v_code v_faultKind v_faultPlace v_names v_blocks h_nameCode h_nameBlock h_blockMany h_blockAll v_nodeMany v_top h_kind h_left h_right v_namesWas v_blocksWas v_nodeManyWas v_topWas h_nameCodeWas h_nameBlockWas h_blockManyWas h_blockAllWas h_kindWas h_leftWas h_rightWas h_wait h_done v_waits v_dones v_opened h_leaf h_fold h_kept h_now v_played v_depth v_prefix h_moveMade h_out v_written h_later v_laters, aZ g h_leaf 4096 v_leaf, aZ g h_fold 8192 u_fold, aI g h_nameBlock 12 v_nameBlock, aZ g h_blockAll 6 v_blockAll]) [.ref h, .int a1, .int a2, .int a3].toArray s 0 0 (va_A [oX12 h h_tape v_taped h_text v_size v_token v_begin v_end v_tokens v_code v_faultKind v_faultPlace v_names v_blocks h_nameCode h_nameBlock h_blockMany h_blockAll v_nodeMany v_top h_kind h_left h_right v_namesWas v_blocksWas v_nodeManyWas v_topWas h_nameCodeWas h_nameBlockWas h_blockManyWas h_blockAllWas h_kindWas h_leftWas h_rightWas h_wait h_done v_waits v_dones v_opened h_leaf h_fold h_kept h_now v_played v_depth v_prefix h_moveMade h_out v_written h_later v_laters, aZ g h_leaf 4096 v_leaf, aZ g h_fold 8192 v_fold, aI g h_nameBlock 12 v_nameBlock, aZ g h_blockAll 6 v_blockAll] s.heap.size)) (F0 m 110 ls [.int s0_110]) := by
            intro s0_110 H locs ls hP hD hS hl hf
            rw [hj_110] at hf
            refine lv_istore (lv' := [(7, .int s0_110), (0, .ref h), (1, .int a1), (2, .int a2), (3, .int a3), (4, .int ((1 : Int32) <<< (v_names &&& 31))), (5, .int x5_47), (6, .int x6_56_37)]) hx hb dX12_folds_110 hl (by decide) rfl (fun ls hl => ?_)
            refine lv_aload_n hx hb dX12_folds_112 rfl (lv_at hl 1 rfl) ?_
            refine gf_X12_73 X rfl hP 0 rfl rfl dX12_folds_113 ?_
            refine lv_iconst (v := 2) hx hb dX12_folds_116 (by decide) ?_
            refine lv_iload hx hb dX12_folds_117 (lv_at hl 6 rfl) ?_
            refine lv_imul hx hb dX12_folds_119 ?_
            obtain ⟨hi_42, hf⟩ := ifs hf
            refine va_zald (D := g.1) hx hb hG.1 hP 2 3 rfl rfl (ix_in hi_42) dX12_folds_120 ?_
            refine lv_istore (lv' := [(8, .int (v_fold_47 ((2 : Int32) * x5_47).toNatClampNeg)), (7, .int s0_110), (0, .ref h), (1, .int a1), (2, .int a2), (3, .int a3), (4, .int ((1 : Int32) <<< (v_names &&& 31))), (5, .int x5_47), (6, .int x6_56_37)]) hx hb dX12_folds_121 hl (by decide) rfl (fun ls hl => ?_)
            refine lv_aload_n hx hb dX12_folds_123 rfl (lv_at hl 2 rfl) ?_
            refine gf_X12_73 X rfl hP 0 rfl rfl dX12_folds_124 ?_
            refine lv_iconst (v := 2) hx hb dX12_folds_127 (by decide) ?_
            refine lv_iload hx hb dX12_folds_128 (lv_at hl 7 rfl) ?_
            refine lv_imul hx hb dX12_folds_130 ?_
            refine lv_iconst (v := 1) hx hb dX12_folds_131 (by decide) ?_
            refine lv_iadd hx hb dX12_folds_132 ?_
            obtain ⟨hi_43, hf⟩ := ifs hf
            refine va_zald (D := g.1) hx hb hG.1 hP 2 3 rfl rfl (ix_in hi_43) dX12_folds_133 ?_
            refine lv_istore (lv' := [(9, .int (v_fold_47 (((2 : Int32) * x5_47) + (1 : Int32)).toNatClampNeg)), (8, .int (v_fold_47 ((2 : Int32) * x5_47).toNatClampNeg)), (7, .int s0_110), (0, .ref h), (1, .int a1), (2, .int a2), (3, .int a3), (4, .int ((1 : Int32) <<< (v_names &&& 31))), (5, .int x5_47), (6, .int x6_56_37)]) hx hb dX12_folds_134 hl (by decide) rfl (fun ls hl => ?_)
            refine lv_aload_n hx hb dX12_folds_136 rfl (lv_at hl 3 rfl) ?_
            refine gf_X12_73 X rfl hP 0 rfl rfl dX12_folds_137 ?_
            refine lv_iload hx hb dX12_folds_140 (lv_at hl 8 rfl) ?_
            refine lv_iload hx hb dX12_folds_142 (lv_at hl 9 rfl) ?_
            refine lv_iload_n hx hb dX12_folds_144 rfl (lv_at hl 4 rfl) ?_
            refine lv_icmp_ne (tgt := 162) hx hb dX12_folds_145 (by decide) (fun c_44 => ?_) (fun c_44 => ?_)
            · have hf := iff_ hf c_44
              refine lv_iload hx hb dX12_folds_162 (lv_at hl 2 rfl) ?_
              refine lv_if_eq (tgt := 185) hx hb dX12_folds_164 (by decide) (fun c_45 => ?_) (fun c_45 => ?_)
              · have hf := ift hf c_45
                refine lv_iload hx hb dX12_folds_185 (lv_at hl 1 rfl) ?_
                refine lv_if_ne (tgt := 195) hx hb dX12_folds_187 (by decide) (fun c_46 => ?_) (fun c_46 => ?_)
                · have hf := iff_ hf c_46
                  refine lv_iconst (v := 1) hx hb dX12_folds_195 (by decide) ?_
                  refine lv_goto (tgt := 200) hx hb dX12_folds_196 (by decide) ?_
                  obtain ⟨hi_47, hf⟩ := ifs hf
                  refine va_zast (D := g.1) hx hb hG.1 hP hD hS 2 3 rfl rfl (ix_in hi_47) dX12_folds_200 (fun H locs hP hD hS => ?_)
                  have hP : va_P g.1 vwCl [oX12 h h_tape v_taped h_text v_size v_token v_begin v_end v_tokens v_code v_faultKind v_faultPlace v_names v_blocks h_nameCode h_nameBlock h_blockMany h_blockAll v_nodeMany v_top h_kind h_left h_right v_namesWas v_blocksWas v_nodeManyWas v_topWas h_nameCodeWas h_nameBlockWas h_blockManyWas h_blockAllWas h_kindWas h_leftWas h_rightWas h_wait h_done v_waits v_dones v_opened h_leaf h_fold h_kept h_now v_played v_depth v_prefix h_moveMade h_out v_written h_later v_laters, aZ g h_leaf 4096 v_leaf, aZ g h_fold 8192 (upd v_fold_47 x5_47.toNatClampNeg (vp_nar .boolean 1)), aI g h_nameBlock 12 v_nameBlock, aZ g h_blockAll 6 v_blockAll] H := hP
                  have hD : va_D A [oX12 h h_tape v_taped h_text v_size v_token v_begin v_end v_tokens v_code v_faultKind v_faultPlace v_names v_blocks h_nameCode h_nameBlock h_blockMany h_blockAll v_nodeMany v_top h_kind h_left h_right v_namesWas v_blocksWas v_nodeManyWas v_topWas h_nameCodeWas h_nameBlockWas h_blockManyWas h_blockAllWas h_kindWas h_leftWas h_rightWas h_wait h_done v_waits v_dones v_opened h_leaf h_fold h_kept h_now v_played v_depth v_prefix h_moveMade h_out v_written h_later v_laters, aZ g h_leaf 4096 v_leaf, aZ g h_fold 8192 (upd v_fold_47 x5_47.toNatClampNeg (vp_nar .boolean 1)), aI g h_nameBlock 12 v_nameBlock, aZ g h_blockAll 6 v_blockAll] := hD
                  refine lv_iinc (v := x5_47 + (-1)) (lv' := [(5, .int (x5_47 + (-1))), (9, .int (v_fold_47 (((2 : Int32) * x5_47) + (1 : Int32)).toNatClampNeg)), (8, .int (v_fold_47 ((2 : Int32) * x5_47).toNatClampNeg)), (7, .int s0_110), (0, .ref h), (1, .int a1), (2, .int a2), (3, .int a3), (4, .int ((1 : Int32) <<< (v_names &&& 31))), (6, .int x6_56_37)]) hx hb dX12_folds_201 hl (k := 8) rfl rfl (by decide) rfl (fun ls hl => ?_)
                  refine lv_goto (tgt := 47) hx hb dX12_folds_204 (by decide) ?_
                  exact ih_47 (x5_47 + (-1)) (upd v_fold_47 x5_47.toNatClampNeg (vp_nar .boolean 1)) H locs ls K_47 hP hD hS (lv_sub hl [4, 5, 6, 7, 8, 0] rfl) hk_47 hf
                · have hf := ift hf c_46
                  refine lv_iload hx hb dX12_folds_190 (lv_at hl 0 rfl) ?_
                  refine lv_if_eq (tgt := 199) hx hb dX12_folds_192 (by decide) (fun c_48 => ?_) (fun c_48 => ?_)
                  · have hf := ift hf c_48
                    refine lv_iconst (v := 0) hx hb dX12_folds_199 (by decide) ?_
                    obtain ⟨hi_49, hf⟩ := ifs hf
                    refine va_zast (D := g.1) hx hb hG.1 hP hD hS 2 3 rfl rfl (ix_in hi_49) dX12_folds_200 (fun H locs hP hD hS => ?_)
                    have hP : va_P g.1 vwCl [oX12 h h_tape v_taped h_text v_size v_token v_begin v_end v_tokens v_code v_faultKind v_faultPlace v_names v_blocks h_nameCode h_nameBlock h_blockMany h_blockAll v_nodeMany v_top h_kind h_left h_right v_namesWas v_blocksWas v_nodeManyWas v_topWas h_nameCodeWas h_nameBlockWas h_blockManyWas h_blockAllWas h_kindWas h_leftWas h_rightWas h_wait h_done v_waits v_dones v_opened h_leaf h_fold h_kept h_now v_played v_depth v_prefix h_moveMade h_out v_written h_later v_laters, aZ g h_leaf 4096 v_leaf, aZ g h_fold 8192 (upd v_fold_47 x5_47.toNatClampNeg (vp_nar .boolean 0)), aI g h_nameBlock 12 v_nameBlock, aZ g h_blockAll 6 v_blockAll] H := hP
                    have hD : va_D A [oX12 h h_tape v_taped h_text v_size v_token v_begin v_end v_tokens v_code v_faultKind v_faultPlace v_names v_blocks h_nameCode h_nameBlock h_blockMany h_blockAll v_nodeMany v_top h_kind h_left h_right v_namesWas v_blocksWas v_nodeManyWas v_topWas h_nameCodeWas h_nameBlockWas h_blockManyWas h_blockAllWas h_kindWas h_leftWas h_rightWas h_wait h_done v_waits v_dones v_opened h_leaf h_fold h_kept h_now v_played v_depth v_prefix h_moveMade h_out v_written h_later v_laters, aZ g h_leaf 4096 v_leaf, aZ g h_fold 8192 (upd v_fold_47 x5_47.toNatClampNeg (vp_nar .boolean 0)), aI g h_nameBlock 12 v_nameBlock, aZ g h_blockAll 6 v_blockAll] := hD
                    refine lv_iinc (v := x5_47 + (-1)) (lv' := [(5, .int (x5_47 + (-1))), (9, .int (v_fold_47 (((2 : Int32) * x5_47) + (1 : Int32)).toNatClampNeg)), (8, .int (v_fold_47 ((2 : Int32) * x5_47).toNatClampNeg)), (7, .int s0_110), (0, .ref h), (1, .int a1), (2, .int a2), (3, .int a3), (4, .int ((1 : Int32) <<< (v_names &&& 31))), (6, .int x6_56_37)]) hx hb dX12_folds_201 hl (k := 8) rfl rfl (by decide) rfl (fun ls hl => ?_)
                    refine lv_goto (tgt := 47) hx hb dX12_folds_204 (by decide) ?_
                    exact ih_47 (x5_47 + (-1)) (upd v_fold_47 x5_47.toNatClampNeg (vp_nar .boolean 0)) H locs ls K_47 hP hD hS (lv_sub hl [4, 5, 6, 7, 8, 0] rfl) hk_47 hf
                  · have hf := iff_ hf c_48
                    refine lv_iconst (v := 1) hx hb dX12_folds_195 (by decide) ?_
                    refine lv_goto (tgt := 200) hx hb dX12_folds_196 (by decide) ?_
                    obtain ⟨hi_50, hf⟩ := ifs hf
                    refine va_zast (D := g.1) hx hb hG.1 hP hD hS 2 3 rfl rfl (ix_in hi_50) dX12_folds_200 (fun H locs hP hD hS => ?_)
                    have hP : va_P g.1 vwCl [oX12 h h_tape v_taped h_text v_size v_token v_begin v_end v_tokens v_code v_faultKind v_faultPlace v_names v_blocks h_nameCode h_nameBlock h_blockMany h_blockAll v_nodeMany v_top h_kind h_left h_right v_namesWas v_blocksWas v_nodeManyWas v_topWas h_nameCodeWas h_nameBlockWas h_blockManyWas h_blockAllWas h_kindWas h_leftWas h_rightWas h_wait h_done v_waits v_dones v_opened h_leaf h_fold h_kept h_now v_played v_depth v_prefix h_moveMade h_out v_written h_later v_laters, aZ g h_leaf 4096 v_leaf, aZ g h_fold 8192 (upd v_fold_47 x5_47.toNatClampNeg (vp_nar .boolean 1)), aI g h_nameBlock 12 v_nameBlock, aZ g h_blockAll 6 v_blockAll] H := hP
                    have hD : va_D A [oX12 h h_tape v_taped h_text v_size v_token v_begin v_end v_tokens v_code v_faultKind v_faultPlace v_names v_blocks h_nameCode h_nameBlock h_blockMany h_blockAll v_nodeMany v_top h_kind h_left h_right v_namesWas v_blocksWas v_nodeManyWas v_topWas h_nameCodeWas h_nameBlockWas h_blockManyWas h_blockAllWas h_kindWas h_leftWas h_rightWas h_wait h_done v_waits v_dones v_opened h_leaf h_fold h_kept h_now v_played v_depth v_prefix h_moveMade h_out v_written h_later v_laters, aZ g h_leaf 4096 v_leaf, aZ g h_fold 8192 (upd v_fold_47 x5_47.toNatClampNeg (vp_nar .boolean 1)), aI g h_nameBlock 12 v_nameBlock, aZ g h_blockAll 6 v_blockAll] := hD
                    refine lv_iinc (v := x5_47 + (-1)) (lv' := [(5, .int (x5_47 + (-1))), (9, .int (v_fold_47 (((2 : Int32) * x5_47) + (1 : Int32)).toNatClampNeg)), (8, .int (v_fold_47 ((2 : Int32) * x5_47).toNatClampNeg)), (7, .int s0_110), (0, .ref h), (1, .int a1), (2, .int a2), (3, .int a3), (4, .int ((1 : Int32) <<< (v_names &&& 31))), (6, .int x6_56_37)]) hx hb dX12_folds_201 hl (k := 8) rfl rfl (by decide) rfl (fun ls hl => ?_)
                    refine lv_goto (tgt := 47) hx hb dX12_folds_204 (by decide) ?_
                    exact ih_47 (x5_47 + (-1)) (upd v_fold_47 x5_47.toNatClampNeg (vp_nar .boolean 1)) H locs ls K_47 hP hD hS (lv_sub hl [4, 5, 6, 7, 8, 0] rfl) hk_47 hf
              · have hf := iff_ hf c_45
                refine lv_iload hx hb dX12_folds_167 (lv_at hl 1 rfl) ?_
                refine lv_if_eq (tgt := 181) hx hb dX12_folds_169 (by decide) (fun c_51 => ?_) (fun c_51 => ?_)
                · have hf := ift hf c_51
                  refine lv_iconst (v := 0) hx hb dX12_folds_181 (by decide) ?_
                  refine lv_goto (tgt := 200) hx hb dX12_folds_182 (by decide) ?_
                  obtain ⟨hi_52, hf⟩ := ifs hf
                  refine va_zast (D := g.1) hx hb hG.1 hP hD hS 2 3 rfl rfl (ix_in hi_52) dX12_folds_200 (fun H locs hP hD hS => ?_)
                  have hP : va_P g.1 vwCl [oX12 h h_tape v_taped h_text v_size v_token v_begin v_end v_tokens v_code v_faultKind v_faultPlace v_names v_blocks h_nameCode h_nameBlock h_blockMany h_blockAll v_nodeMany v_top h_kind h_left h_right v_namesWas v_blocksWas v_nodeManyWas v_topWas h_nameCodeWas h_nameBlockWas h_blockManyWas h_blockAllWas h_kindWas h_leftWas h_rightWas h_wait h_done v_waits v_dones v_opened h_leaf h_fold h_kept h_now v_played v_depth v_prefix h_moveMade h_out v_written h_later v_laters, aZ g h_leaf 4096 v_leaf, aZ g h_fold 8192 (upd v_fold_47 x5_47.toNatClampNeg (vp_nar .boolean 0)), aI g h_nameBlock 12 v_nameBlock, aZ g h_blockAll 6 v_blockAll] H := hP
                  have hD : va_D A [oX12 h h_tape v_taped h_text v_size v_token v_begin v_end v_tokens v_code v_faultKind v_faultPlace v_names v_blocks h_nameCode h_nameBlock h_blockMany h_blockAll v_nodeMany v_top h_kind h_left h_right v_namesWas v_blocksWas v_nodeManyWas v_topWas h_nameCodeWas h_nameBlockWas h_blockManyWas h_blockAllWas h_kindWas h_leftWas h_rightWas h_wait h_done v_waits v_dones v_opened h_leaf h_fold h_kept h_now v_played v_depth v_prefix h_moveMade h_out v_written h_later v_laters, aZ g h_leaf 4096 v_leaf, aZ g h_fold 8192 (upd v_fold_47 x5_47.toNatClampNeg (vp_nar .boolean 0)), aI g h_nameBlock 12 v_nameBlock, aZ g h_blockAll 6 v_blockAll] := hD
                  refine lv_iinc (v := x5_47 + (-1)) (lv' := [(5, .int (x5_47 + (-1))), (9, .int (v_fold_47 (((2 : Int32) * x5_47) + (1 : Int32)).toNatClampNeg)), (8, .int (v_fold_47 ((2 : Int32) * x5_47).toNatClampNeg)), (7, .int s0_110), (0, .ref h), (1, .int a1), (2, .int a2), (3, .int a3), (4, .int ((1 : Int32) <<< (v_names &&& 31))), (6, .int x6_56_37)]) hx hb dX12_folds_201 hl (k := 8) rfl rfl (by decide) rfl (fun ls hl => ?_)
                  refine lv_goto (tgt := 47) hx hb dX12_folds_204 (by decide) ?_
                  exact ih_47 (x5_47 + (-1)) (upd v_fold_47 x5_47.toNatClampNeg (vp_nar .boolean 0)) H locs ls K_47 hP hD hS (lv_sub hl [4, 5, 6, 7, 8, 0] rfl) hk_47 hf
                · have hf := iff_ hf c_51
                  refine lv_iload hx hb dX12_folds_172 (lv_at hl 0 rfl) ?_
                  refine lv_if_eq (tgt := 181) hx hb dX12_folds_174 (by decide) (fun c_53 => ?_) (fun c_53 => ?_)
                  · have hf := ift hf c_53
                    refine lv_iconst (v := 0) hx hb dX12_folds_181 (by decide) ?_
                    refine lv_goto (tgt := 200) hx hb dX12_folds_182 (by decide) ?_
                    obtain ⟨hi_54, hf⟩ := ifs hf
                    refine va_zast (D := g.1) hx hb hG.1 hP hD hS 2 3 rfl rfl (ix_in hi_54) dX12_folds_200 (fun H locs hP hD hS => ?_)
                    have hP : va_P g.1 vwCl [oX12 h h_tape v_taped h_text v_size v_token v_begin v_end v_tokens v_code v_faultKind v_faultPlace v_names v_blocks h_nameCode h_nameBlock h_blockMany h_blockAll v_nodeMany v_top h_kind h_left h_right v_namesWas v_blocksWas v_nodeManyWas v_topWas h_nameCodeWas h_nameBlockWas h_blockManyWas h_blockAllWas h_kindWas h_leftWas h_rightWas h_wait h_done v_waits v_dones v_opened h_leaf h_fold h_kept h_now v_played v_depth v_prefix h_moveMade h_out v_written h_later v_laters, aZ g h_leaf 4096 v_leaf, aZ g h_fold 8192 (upd v_fold_47 x5_47.toNatClampNeg (vp_nar .boolean 0)), aI g h_nameBlock 12 v_nameBlock, aZ g h_blockAll 6 v_blockAll] H := hP
                    have hD : va_D A [oX12 h h_tape v_taped h_text v_size v_token v_begin v_end v_tokens v_code v_faultKind v_faultPlace v_names v_blocks h_nameCode h_nameBlock h_blockMany h_blockAll v_nodeMany v_top h_kind h_left h_right v_namesWas v_blocksWas v_nodeManyWas v_topWas h_nameCodeWas h_nameBlockWas h_blockManyWas h_blockAllWas h_kindWas h_leftWas h_rightWas h_wait h_done v_waits v_dones v_opened h_leaf h_fold h_kept h_now v_played v_depth v_prefix h_moveMade h_out v_written h_later v_laters, aZ g h_leaf 4096 v_leaf, aZ g h_fold 8192 (upd v_fold_47 x5_47.toNatClampNeg (vp_nar .boolean 0)), aI g h_nameBlock 12 v_nameBlock, aZ g h_blockAll 6 v_blockAll] := hD
                    refine lv_iinc (v := x5_47 + (-1)) (lv' := [(5, .int (x5_47 + (-1))), (9, .int (v_fold_47 (((2 : Int32) * x5_47) + (1 : Int32)).toNatClampNeg)), (8, .int (v_fold_47 ((2 : Int32) * x5_47).toNatClampNeg)), (7, .int s0_110), (0, .ref h), (1, .int a1), (2, .int a2), (3, .int a3), (4, .int ((1 : Int32) <<< (v_names &&& 31))), (6, .int x6_56_37)]) hx hb dX12_folds_201 hl (k := 8) rfl rfl (by decide) rfl (fun ls hl => ?_)
                    refine lv_goto (tgt := 47) hx hb dX12_folds_204 (by decide) ?_
                    exact ih_47 (x5_47 + (-1)) (upd v_fold_47 x5_47.toNatClampNeg (vp_nar .boolean 0)) H locs ls K_47 hP hD hS (lv_sub hl [4, 5, 6, 7, 8, 0] rfl) hk_47 hf
                  · have hf := iff_ hf c_53
                    refine lv_iconst (v := 1) hx hb dX12_folds_177 (by decide) ?_
                    refine lv_goto (tgt := 200) hx hb dX12_folds_178 (by decide) ?_
                    obtain ⟨hi_55, hf⟩ := ifs hf
                    refine va_zast (D := g.1) hx hb hG.1 hP hD hS 2 3 rfl rfl (ix_in hi_55) dX12_folds_200 (fun H locs hP hD hS => ?_)
                    have hP : va_P g.1 vwCl [oX12 h h_tape v_taped h_text v_size v_token v_begin v_end v_tokens v_code v_faultKind v_faultPlace v_names v_blocks h_nameCode h_nameBlock h_blockMany h_blockAll v_nodeMany v_top h_kind h_left h_right v_namesWas v_blocksWas v_nodeManyWas v_topWas h_nameCodeWas h_nameBlockWas h_blockManyWas h_blockAllWas h_kindWas h_leftWas h_rightWas h_wait h_done v_waits v_dones v_opened h_leaf h_fold h_kept h_now v_played v_depth v_prefix h_moveMade h_out v_written h_later v_laters, aZ g h_leaf 4096 v_leaf, aZ g h_fold 8192 (upd v_fold_47 x5_47.toNatClampNeg (vp_nar .boolean 1)), aI g h_nameBlock 12 v_nameBlock, aZ g h_blockAll 6 v_blockAll] H := hP
                    have hD : va_D A [oX12 h h_tape v_taped h_text v_size v_token v_begin v_end v_tokens v_code v_faultKind v_faultPlace v_names v_blocks h_nameCode h_nameBlock h_blockMany h_blockAll v_nodeMany v_top h_kind h_left h_right v_namesWas v_blocksWas v_nodeManyWas v_topWas h_nameCodeWas h_nameBlockWas h_blockManyWas h_blockAllWas h_kindWas h_leftWas h_rightWas h_wait h_done v_waits v_dones v_opened h_leaf h_fold h_kept h_now v_played v_depth v_prefix h_moveMade h_out v_written h_later v_laters, aZ g h_leaf 4096 v_leaf, aZ g h_fold 8192 (upd v_fold_47 x5_47.toNatClampNeg (vp_nar .boolean 1)), aI g h_nameBlock 12 v_nameBlock, aZ g h_blockAll 6 v_blockAll] := hD
                    refine lv_iinc (v := x5_47 + (-1)) (lv' := [(5, .int (x5_47 + (-1))), (9, .int (v_fold_47 (((2 : Int32) * x5_47) + (1 : Int32)).toNatClampNeg)), (8, .int (v_fold_47 ((2 : Int32) * x5_47).toNatClampNeg)), (7, .int s0_110), (0, .ref h), (1, .int a1), (2, .int a2), (3, .int a3), (4, .int ((1 : Int32) <<< (v_names &&& 31))), (6, .int x6_56_37)]) hx hb dX12_folds_201 hl (k := 8) rfl rfl (by decide) rfl (fun ls hl => ?_)
                    refine lv_goto (tgt := 47) hx hb dX12_folds_204 (by decide) ?_
                    exact ih_47 (x5_47 + (-1)) (upd v_fold_47 x5_47.toNatClampNeg (vp_nar .boolean 1)) H locs ls K_47 hP hD hS (lv_sub hl [4, 5, 6, 7, 8, 0] rfl) hk_47 hf
            · have hf := ift hf c_44
              refine lv_iload_n hx hb dX12_folds_148 rfl (lv_at hl 5 rfl) ?_
              refine lv_if_ne (tgt := 157) hx hb dX12_folds_149 (by decide) (fun c_56 => ?_) (fun c_56 => ?_)
              · have hf := iff_ hf c_56
                refine lv_iload hx hb dX12_folds_157 (lv_at hl 0 rfl) ?_
                refine lv_goto (tgt := 200) hx hb dX12_folds_159 (by decide) ?_
                obtain ⟨hi_57, hf⟩ := ifs hf
                refine va_zast (D := g.1) hx hb hG.1 hP hD hS 2 3 rfl rfl (ix_in hi_57) dX12_folds_200 (fun H locs hP hD hS => ?_)
                have hP : va_P g.1 vwCl [oX12 h h_tape v_taped h_text v_size v_token v_begin v_end v_tokens v_code v_faultKind v_faultPlace v_names v_blocks h_nameCode h_nameBlock h_blockMany h_blockAll v_nodeMany v_top h_kind h_left h_right v_namesWas v_blocksWas v_nodeManyWas v_topWas h_nameCodeWas h_nameBlockWas h_blockManyWas h_blockAllWas h_kindWas h_leftWas h_rightWas h_wait h_done v_waits v_dones v_opened h_leaf h_fold h_kept h_now v_played v_depth v_prefix h_moveMade h_out v_written h_later v_laters, aZ g h_leaf 4096 v_leaf, aZ g h_fold 8192 (upd v_fold_47 x5_47.toNatClampNeg (vp_nar .boolean (v_fold_47 (((2 : Int32) * x5_47) + (1 : Int32)).toNatClampNeg))), aI g h_nameBlock 12 v_nameBlock, aZ g h_blockAll 6 v_blockAll] H := hP
                have hD : va_D A [oX12 h h_tape v_taped h_text v_size v_token v_begin v_end v_tokens v_code v_faultKind v_faultPlace v_names v_blocks h_nameCode h_nameBlock h_blockMany h_blockAll v_nodeMany v_top h_kind h_left h_right v_namesWas v_blocksWas v_nodeManyWas v_topWas h_nameCodeWas h_nameBlockWas h_blockManyWas h_blockAllWas h_kindWas h_leftWas h_rightWas h_wait h_done v_waits v_dones v_opened h_leaf h_fold h_kept h_now v_played v_depth v_prefix h_moveMade h_out v_written h_later v_laters, aZ g h_leaf 4096 v_leaf, aZ g h_fold 8192 (upd v_fold_47 x5_47.toNatClampNeg (vp_nar .boolean (v_fold_47 (((2 : Int32) * x5_47) + (1 : Int32)).toNatClampNeg))), aI g h_nameBlock 12 v_nameBlock, aZ g h_blockAll 6 v_blockAll] := hD
                refine lv_iinc (v := x5_47 + (-1)) (lv' := [(5, .int (x5_47 + (-1))), (9, .int (v_fold_47 (((2 : Int32) * x5_47) + (1 : Int32)).toNatClampNeg)), (8, .int (v_fold_47 ((2 : Int32) * x5_47).toNatClampNeg)), (7, .int s0_110), (0, .ref h), (1, .int a1), (2, .int a2), (3, .int a3), (4, .int ((1 : Int32) <<< (v_names &&& 31))), (6, .int x6_56_37)]) hx hb dX12_folds_201 hl (k := 8) rfl rfl (by decide) rfl (fun ls hl => ?_)
                refine lv_goto (tgt := 47) hx hb dX12_folds_204 (by decide) ?_
                exact ih_47 (x5_47 + (-1)) (upd v_fold_47 x5_47.toNatClampNeg (vp_nar .boolean (v_fold_47 (((2 : Int32) * x5_47) + (1 : Int32)).toNatClampNeg))) H locs ls K_47 hP hD hS (lv_sub hl [4, 5, 6, 7, 8, 0] rfl) hk_47 hf
              · have hf := ift hf c_56
                refine lv_iload hx hb dX12_folds_152 (lv_at hl 1 rfl) ?_
                refine lv_goto (tgt := 200) hx hb dX12_folds_154 (by decide) ?_
                obtain ⟨hi_58, hf⟩ := ifs hf
                refine va_zast (D := g.1) hx hb hG.1 hP hD hS 2 3 rfl rfl (ix_in hi_58) dX12_folds_200 (fun H locs hP hD hS => ?_)
                have hP : va_P g.1 vwCl [oX12 h h_tape v_taped h_text v_size v_token v_begin v_end v_tokens v_code v_faultKind v_faultPlace v_names v_blocks h_nameCode h_nameBlock h_blockMany h_blockAll v_nodeMany v_top h_kind h_left h_right v_namesWas v_blocksWas v_nodeManyWas v_topWas h_nameCodeWas h_nameBlockWas h_blockManyWas h_blockAllWas h_kindWas h_leftWas h_rightWas h_wait h_done v_waits v_dones v_opened h_leaf h_fold h_kept h_now v_played v_depth v_prefix h_moveMade h_out v_written h_later v_laters, aZ g h_leaf 4096 v_leaf, aZ g h_fold 8192 (upd v_fold_47 x5_47.toNatClampNeg (vp_nar .boolean (v_fold_47 ((2 : Int32) * x5_47).toNatClampNeg))), aI g h_nameBlock 12 v_nameBlock, aZ g h_blockAll 6 v_blockAll] H := hP
                have hD : va_D A [oX12 h h_tape v_taped h_text v_size v_token v_begin v_end v_tokens v_code v_faultKind v_faultPlace v_names v_blocks h_nameCode h_nameBlock h_blockMany h_blockAll v_nodeMany v_top h_kind h_left h_right v_namesWas v_blocksWas v_nodeManyWas v_topWas h_nameCodeWas h_nameBlockWas h_blockManyWas h_blockAllWas h_kindWas h_leftWas h_rightWas h_wait h_done v_waits v_dones v_opened h_leaf h_fold h_kept h_now v_played v_depth v_prefix h_moveMade h_out v_written h_later v_laters, aZ g h_leaf 4096 v_leaf, aZ g h_fold 8192 (upd v_fold_47 x5_47.toNatClampNeg (vp_nar .boolean (v_fold_47 ((2 : Int32) * x5_47).toNatClampNeg))), aI g h_nameBlock 12 v_nameBlock, aZ g h_blockAll 6 v_blockAll] := hD
                refine lv_iinc (v := x5_47 + (-1)) (lv' := [(5, .int (x5_47 + (-1))), (9, .int (v_fold_47 (((2 : Int32) * x5_47) + (1 : Int32)).toNatClampNeg)), (8, .int (v_fold_47 ((2 : Int32) * x5_47).toNatClampNeg)), (7, .int s0_110), (0, .ref h), (1, .int a1), (2, .int a2), (3, .int a3), (4, .int ((1 : Int32) <<< (v_names &&& 31))), (6, .int x6_56_37)]) hx hb dX12_folds_201 hl (k := 8) rfl rfl (by decide) rfl (fun ls hl => ?_)
                refine lv_goto (tgt := 47) hx hb dX12_folds_204 (by decide) ?_
                exact ih_47 (x5_47 + (-1)) (upd v_fold_47 x5_47.toNatClampNeg (vp_nar .boolean (v_fold_47 ((2 : Int32) * x5_47).toNatClampNeg))) H locs ls K_47 hP hD hS (lv_sub hl [4, 5, 6, 7, 8, 0] rfl) hk_47 hf
          refine lv_icmp_eq (tgt := 109) hx hb dX12_folds_102 (by decide) (fun c_59 => ?_) (fun c_59 => ?_)
          · have hf := ift hf c_59
            refine lv_iconst (v := 0) hx hb dX12_folds_109 (by decide) ?_
            exact J_110 0 _ _ ls hP hD hS (lv_sub hl [0, 1, 2, 3, 4, 5, 6] rfl) hf
          · have hf := iff_ hf c_59
            refine lv_iconst (v := 1) hx hb dX12_folds_105 (by decide) ?_
            refine lv_goto (tgt := 110) hx hb dX12_folds_106 (by decide) ?_
            exact J_110 1 _ _ ls hP hD hS (lv_sub hl [0, 1, 2, 3, 4, 5, 6] rfl) hf
        refine lv_icmp_ne (tgt := 101) hx hb dX12_folds_94 (by decide) (fun c_60 => ?_) (fun c_60 => ?_)
        · have hf := iff_ hf c_60
          refine lv_iconst (v := 0) hx hb dX12_folds_101 (by decide) ?_
          exact J_102 0 _ _ ls hP hD hS (lv_sub hl [0, 1, 2, 3, 4, 5, 6] rfl) hf
        · have hf := ift hf c_60
          refine lv_iconst (v := 1) hx hb dX12_folds_97 (by decide) ?_
          refine lv_goto (tgt := 102) hx hb dX12_folds_98 (by decide) ?_
          exact J_102 1 _ _ ls hP hD hS (lv_sub hl [0, 1, 2, 3, 4, 5, 6] rfl) hf
  refine L_47 _ _ _ _ _ ls _ hP hD hS (lv_sub hl [1, 2, 3, 4, 5, 0] rfl) (fun x5_47_34 v_fold_47_35 H locs ls hP hD hS hl hf => ?_) hf
  cases hf
  exact ret_v X hAe hP hD hS rfl dX12_folds_207
def lp_X12_keeps_2 (v_names_2f : Int32) (v_fold_2f : Nat → Int32) : Nat → Int32 → (Nat → Int32) → (Int32 → (Nat → Int32) → Option ((Nat → Int32))) → Option ((Nat → Int32))
  | 0, _, _, _ => none
  | n_2 + 1, x1_2, v_kept_2, K_2 =>
    if (2 : Int32) <<< (v_names_2f &&& 31) ≤ x1_2 then
    K_2 x1_2 v_kept_2
    else
    (if ix x1_2 8192 then
    if ix x1_2 8192 then
    lp_X12_keeps_2 v_names_2f v_fold_2f n_2 (x1_2 + 1) (upd v_kept_2 x1_2.toNatClampNeg (vp_nar .boolean (v_fold_2f x1_2.toNatClampNeg))) K_2
    else none
    else none)
def f_X12_keeps (v_names : Int32) (v_fold : Nat → Int32) (v_kept : Nat → Int32) : Option ((Nat → Int32)) :=
  lp_X12_keeps_2 v_names v_fold 5000 1 v_kept (fun x1_2_4 v_kept_2_5 => 
  some v_kept_2_5)
set_option maxHeartbeats 4000000 in
set_option maxRecDepth 100000 in
theorem c_X12_keeps (l : Launch) (g : GT) (h : Nat) (h_tape : Nat) (v_taped : Int32) (h_text : Nat) (v_size : Int32) (v_token : Int32) (v_begin : Int32) (v_end : Int32) (v_tokens : Int32) (v_code : Int32) (v_faultKind : Int32) (v_faultPlace : Int32) (v_names : Int32) (v_blocks : Int32) (h_nameCode : Nat) (h_nameBlock : Nat) (h_blockMany : Nat) (h_blockAll : Nat) (v_nodeMany : Int32) (v_top : Int32) (h_kind : Nat) (h_left : Nat) (h_right : Nat) (v_namesWas : Int32) (v_blocksWas : Int32) (v_nodeManyWas : Int32) (v_topWas : Int32) (h_nameCodeWas : Nat) (h_nameBlockWas : Nat) (h_blockManyWas : Nat) (h_blockAllWas : Nat) (h_kindWas : Nat) (h_leftWas : Nat) (h_rightWas : Nat) (h_wait : Nat) (h_done : Nat) (v_waits : Int32) (v_dones : Int32) (v_opened : Int32) (h_leaf : Nat) (h_fold : Nat) (h_kept : Nat) (h_now : Nat) (v_played : Int32) (v_depth : Int32) (v_prefix : Int32) (h_moveMade : Nat) (h_out : Nat) (v_written : Int32) (h_later : Nat) (v_laters : Int32) (v_fold : Nat → Int32) (v_kept : Nat → Int32) (u_kept : Nat → Int32) (hf : f_X12_keeps v_names v_fold v_kept = some u_kept) : Con l g yX12_keeps cX12_keeps 2 none ({ frames := 0, cells := 0, slots := 0, locals := 0 }) [.ref h] [oX12 h h_tape v_taped h_text v_size v_token v_begin v_end v_tokens v_code v_faultKind v_faultPlace v_names v_blocks h_nameCode h_nameBlock h_blockMany h_blockAll v_nodeMany v_top h_kind h_left h_right v_namesWas v_blocksWas v_nodeManyWas v_topWas h_nameCodeWas h_nameBlockWas h_blockManyWas h_blockAllWas h_kindWas h_leftWas h_rightWas h_wait h_done v_waits v_dones v_opened h_leaf h_fold h_kept h_now v_played v_depth v_prefix h_moveMade h_out v_written h_later v_laters, aZ g h_fold 8192 v_fold, aZ g h_kept 8192 v_kept] none [oX12 h h_tape v_taped h_text v_size v_token v_begin v_end v_tokens v_code v_faultKind v_faultPlace v_names v_blocks h_nameCode h_nameBlock h_blockMany h_blockAll v_nodeMany v_top h_kind h_left h_right v_namesWas v_blocksWas v_nodeManyWas v_topWas h_nameCodeWas h_nameBlockWas h_blockManyWas h_blockAllWas h_kindWas h_leftWas h_rightWas h_wait h_done v_waits v_dones v_opened h_leaf h_fold h_kept h_now v_played v_depth v_prefix h_moveMade h_out v_written h_later v_laters, aZ g h_fold 8192 v_fold, aZ g h_kept 8192 u_kept] := by
  refine Con.of (by decide) (Nat.le_of_ble_eq_true rfl) ?_
  intro p e s m below meth c A ls hAe X hP hD hS hl
  obtain ⟨hx, hb, hml, hr, hown, hts, hlk, hnm, hA, hG, hZ⟩ := id X
  have hown : s.vm.findClass RX12 = some m.cls := hown
  have hl : lv_has ls 2 [(0, .ref h)] := hl
  unfold f_X12_keeps at hf
  refine lv_iconst (v := 1) hx hb dX12_keeps_0 (by decide) ?_
  refine lv_istore_n (lv' := [(1, .int 1), (0, .ref h)]) hx hb dX12_keeps_1 rfl hl (by decide) rfl (fun ls hl => ?_)
  have L_2 : ∀ (n : Nat) (x1_2 : Int32) (v_kept_2 : Nat → Int32) (H : Heap) (locs : List Loc) (ls : Array Slot) (K_2 : Int32 → (Nat → Int32) → Option ((Nat → Int32))), va_P g.1 vwCl [oX12 h h_tape v_taped h_text v_size v_token v_begin v_end v_tokens v_code v_faultKind v_faultPlace v_names v_blocks h_nameCode h_nameBlock h_blockMany h_blockAll v_nodeMany v_top h_kind h_left h_right v_namesWas v_blocksWas v_nodeManyWas v_topWas h_nameCodeWas h_nameBlockWas h_blockManyWas h_blockAllWas h_kindWas h_leftWas h_rightWas h_wait h_done v_waits v_dones v_opened h_leaf h_fold h_kept h_now v_played v_depth v_prefix h_moveMade h_out v_written h_later v_laters, aZ g h_fold 8192 v_fold, aZ g h_kept 8192 v_kept_2] H → va_D A [oX12 h h_tape v_taped h_text v_size v_token v_begin v_end v_tokens v_code v_faultKind v_faultPlace v_names v_blocks h_nameCode h_nameBlock h_blockMany h_blockAll v_nodeMany v_top h_kind h_left h_right v_namesWas v_blocksWas v_nodeManyWas v_topWas h_nameCodeWas h_nameBlockWas h_blockManyWas h_blockAllWas h_kindWas h_leftWas h_rightWas h_wait h_done v_waits v_dones v_opened h_leaf h_fold h_kept h_now v_played v_depth v_prefix h_moveMade h_out v_written h_later v_laters, aZ g h_fold 8192 v_fold, aZ g h_kept 8192 v_kept_2] → va_S A s.heap H locs → lv_has ls 2 [(0, .ref h), (1, .int x1_2)] → (∀ (z_x1_2 : Int32) (z_v_kept_2 : Nat → Int32) (H : Heap) (locs : List Loc) (ls : Array Slot), va_P g.1 vwCl [oX12 h h_tape v_taped h_text v_size v_token v_begin v_end v_tokens v_code v_faultKind v_faultPlace v_names v_blocks h_nameCode h_nameBlock h_blockMany h_blockAll v_nodeMany v_top h_kind h_left h_right v_namesWas v_blocksWas v_nodeManyWas v_topWas h_nameCodeWas h_nameBlockWas h_blockManyWas h_blockAllWas h_kindWas h_leftWas h_rightWas h_wait h_done v_waits v_dones v_opened h_leaf h_fold h_kept h_now v_played v_depth v_prefix h_moveMade h_out v_written h_later v_laters, aZ g h_fold 8192 v_fold, aZ g h_kept 8192 z_v_kept_2] H → va_D A [oX12 h h_tape v_taped h_text v_size v_token v_begin v_end v_tokens v_code v_faultKind v_faultPlace v_names v_blocks h_nameCode h_nameBlock h_blockMany h_blockAll v_nodeMany v_top h_kind h_left h_right v_namesWas v_blocksWas v_nodeManyWas v_topWas h_nameCodeWas h_nameBlockWas h_blockManyWas h_blockAllWas h_kindWas h_leftWas h_rightWas h_wait h_done v_waits v_dones v_opened h_leaf h_fold h_kept h_now v_played v_depth v_prefix h_moveMade h_out v_written h_later v_laters, aZ g h_fold 8192 v_fold, aZ g h_kept 8192 z_v_kept_2] → va_S A s.heap H locs → lv_has ls 2 [(0, .ref h), (1, .int z_x1_2)] → K_2 z_x1_2 z_v_kept_2 = some u_kept → W p l e ({ frames := 0, cells := 0, slots := 0, locals := 0 }) s m [.ref h].toArray below meth c H locs 0 0 (MQ below (fun _ => QW g [oX12 h h_tape v_taped h_text v_size v_token v_begin v_end v_tokens v_code v_faultKind v_faultPlace v_names v_blocks h_nameCode h_nameBlock h_blockMany h_blockAll v_nodeMany v_top h_kind h_left h_right v_namesWas v_blocksWas v_nodeManyWas v_topWas h_nameCodeWas h_nameBlockWas h_blockManyWas h_blockAllWas h_kindWas h_leftWas h_rightWas h_wait h_done v_waits v_dones v_opened h_leaf h_fold h_kept h_now v_played v_depth v_prefix h_moveMade h_out v_written h_later v_laters, aZ g h_fold 8192 v_fold, aZ g h_kept 8192 v_kept] s.heap.size none [oX12 h h_tape v_taped h_text v_size v_token v_begin v_end v_tokens v_code v_faultKind v_faultPlace v_names v_blocks h_nameCode h_nameBlock h_blockMany h_blockAll v_nodeMany v_top h_kind h_left h_right v_namesWas v_blocksWas v_nodeManyWas v_topWas h_nameCodeWas h_nameBlockWas h_blockManyWas h_blockAllWas h_kindWas h_leftWas h_rightWas h_wait h_done v_waits v_dones v_opened h_leaf h_fold h_kept h_now v_played v_depth v_prefix h_moveMade h_out v_written h_later v_laters, aZ g h_fold 8192 v_fold, aZ g h_kept 8192 u_kept]) [.ref h].toArray s 0 0 (va_A [oX12 h h_tape v_taped h_text v_size v_token v_begin v_end v_tokens v_code v_faultKind v_faultPlace v_names v_blocks h_nameCode h_nameBlock h_blockMany h_blockAll v_nodeMany v_top h_kind h_left h_right v_namesWas v_blocksWas v_nodeManyWas v_topWas h_nameCodeWas h_nameBlockWas h_blockManyWas h_blockAllWas h_kindWas h_leftWas h_rightWas h_wait h_done v_waits v_dones v_opened h_leaf h_fold h_kept h_now v_played v_depth v_prefix h_moveMade h_out v_written h_later v_laters, aZ g h_fold 8192 v_fold, aZ g h_kept 8192 v_kept] s.heap.size)) (F0 m 30 ls [])) → lp_X12_keeps_2 v_names v_fold n x1_2 v_kept_2 K_2 = some u_kept → W p l e ({ frames := 0, cells := 0, slots := 0, locals := 0 }) s m [.ref h].toArray below meth c H locs 0 0 (MQ below (fun _ => QW g [oX12 h h_tape v_taped h_text v_size v_token v_begin v_end v_tokens v_code v_faultKind v_faultPlace v_names v_blocks h_nameCode h_nameBlock h_blockMany h_blockAll v_nodeMany v_top h_kind h_left h_right v_namesWas v_blocksWas v_nodeManyWas v_topWas h_nameCodeWas h_nameBlockWas h_blockManyWas h_blockAllWas h_kindWas h_leftWas h_rightWas h_wait h_done v_waits v_dones v_opened h_leaf h_fold h_kept h_now v_played v_depth v_prefix h_moveMade h_out v_written h_later v_laters, aZ g h_fold 8192 v_fold, aZ g h_kept 8192 v_kept] s.heap.size none [oX12 h h_tape v_taped h_text v_size v_token v_begin v_end v_tokens v_code v_faultKind v_faultPlace v_names v_blocks h_nameCode h_nameBlock h_blockMany h_blockAll v_nodeMany v_top h_kind h_left h_right v_namesWas v_blocksWas v_nodeManyWas v_topWas h_nameCodeWas h_nameBlockWas h_blockManyWas h_blockAllWas h_kindWas h_leftWas h_rightWas h_wait h_done v_waits v_dones v_opened h_leaf h_fold h_kept h_now v_played v_depth v_prefix h_moveMade h_out v_written h_later v_laters, aZ g h_fold 8192 v_fold, aZ g h_kept 8192 u_kept]) [.ref h].toArray s 0 0 (va_A [oX12 h h_tape v_taped h_text v_size v_token v_begin v_end v_tokens v_code v_faultKind v_faultPlace v_names v_blocks h_nameCode h_nameBlock h_blockMany h_blockAll v_nodeMany v_top h_kind h_left h_right v_namesWas v_blocksWas v_nodeManyWas v_topWas h_nameCodeWas h_nameBlockWas h_blockManyWas h_blockAllWas h_kindWas h_leftWas h_rightWas h_wait h_done v_waits v_dones v_opened h_leaf h_fold h_kept h_now v_played v_depth v_prefix h_moveMade h_out v_written h_later v_laters, aZ g h_fold 8192 v_fold, aZ g h_kept 8192 v_kept] s.heap.size)) (F0 m 2 ls []) := by
    intro n
    induction n with
    | zero =>
      intro x1_2 v_kept_2 H locs ls K_2 hP hD hS hl hk hf
      have hf : (none : Option ((Nat → Int32))) = some _ := hf
      cases hf
    | succ n_2 ih_2 =>
      intro x1_2 v_kept_2 H locs ls K_2 hP hD hS hl hk_2 hf
      refine lv_iload_n hx hb dX12_keeps_2 rfl (lv_at hl 1 rfl) ?_
      refine lv_iconst (v := 2) hx hb dX12_keeps_3 (by decide) ?_
      refine lv_aload_n hx hb dX12_keeps_4 rfl (lv_at hl 0 rfl) ?_
      refine gf_X12_159 X rfl hP 0 rfl rfl dX12_keeps_5 ?_
      refine lv_ishl hx hb dX12_keeps_8 ?_
      refine lv_icmp_ge (tgt := 30) hx hb dX12_keeps_9 (by decide) (fun c_6 => ?_) (fun c_6 => ?_)
      · have hf := ift hf c_6
        exact hk_2 x1_2 v_kept_2 H locs ls hP hD hS (lv_sub hl [0, 1] rfl) hf
      · have hf := iff_ hf c_6
        refine lv_aload_n hx hb dX12_keeps_12 rfl (lv_at hl 0 rfl) ?_
        refine gf_X12_76 X rfl hP 0 rfl rfl dX12_keeps_13 ?_
        refine lv_iload_n hx hb dX12_keeps_16 rfl (lv_at hl 1 rfl) ?_
        refine lv_aload_n hx hb dX12_keeps_17 rfl (lv_at hl 0 rfl) ?_
        refine gf_X12_73 X rfl hP 0 rfl rfl dX12_keeps_18 ?_
        refine lv_iload_n hx hb dX12_keeps_21 rfl (lv_at hl 1 rfl) ?_
        obtain ⟨hi_7, hf⟩ := ifs hf
        refine va_zald (D := g.1) hx hb hG.1 hP 1 3 rfl rfl (ix_in hi_7) dX12_keeps_22 ?_
        obtain ⟨hi_8, hf⟩ := ifs hf
        refine va_zast (D := g.1) hx hb hG.1 hP hD hS 2 3 rfl rfl (ix_in hi_8) dX12_keeps_23 (fun H locs hP hD hS => ?_)
        have hP : va_P g.1 vwCl [oX12 h h_tape v_taped h_text v_size v_token v_begin v_end v_tokens v_code v_faultKind v_faultPlace v_names v_blocks h_nameCode h_nameBlock h_blockMany h_blockAll v_nodeMany v_top h_kind h_left h_right v_namesWas v_blocksWas v_nodeManyWas v_topWas h_nameCodeWas h_nameBlockWas h_blockManyWas h_blockAllWas h_kindWas h_leftWas h_rightWas h_wait h_done v_waits v_dones v_opened h_leaf h_fold h_kept h_now v_played v_depth v_prefix h_moveMade h_out v_written h_later v_laters, aZ g h_fold 8192 v_fold, aZ g h_kept 8192 (upd v_kept_2 x1_2.toNatClampNeg (vp_nar .boolean (v_fold x1_2.toNatClampNeg)))] H := hP
        have hD : va_D A [oX12 h h_tape v_taped h_text v_size v_token v_begin v_end v_tokens v_code v_faultKind v_faultPlace v_names v_blocks h_nameCode h_nameBlock h_blockMany h_blockAll v_nodeMany v_top h_kind h_left h_right v_namesWas v_blocksWas v_nodeManyWas v_topWas h_nameCodeWas h_nameBlockWas h_blockManyWas h_blockAllWas h_kindWas h_leftWas h_rightWas h_wait h_done v_waits v_dones v_opened h_leaf h_fold h_kept h_now v_played v_depth v_prefix h_moveMade h_out v_written h_later v_laters, aZ g h_fold 8192 v_fold, aZ g h_kept 8192 (upd v_kept_2 x1_2.toNatClampNeg (vp_nar .boolean (v_fold x1_2.toNatClampNeg)))] := hD
        refine lv_iinc (v := x1_2 + 1) (lv' := [(1, .int (x1_2 + 1)), (0, .ref h)]) hx hb dX12_keeps_24 hl (k := 1) rfl rfl (by decide) rfl (fun ls hl => ?_)
        refine lv_goto (tgt := 2) hx hb dX12_keeps_27 (by decide) ?_
        exact ih_2 (x1_2 + 1) (upd v_kept_2 x1_2.toNatClampNeg (vp_nar .boolean (v_fold x1_2.toNatClampNeg))) H locs ls K_2 hP hD hS (lv_sub hl [1, 0] rfl) hk_2 hf
  refine L_2 _ _ _ _ _ ls _ hP hD hS (lv_sub hl [1, 0] rfl) (fun x1_2_4 v_kept_2_5 H locs ls hP hD hS hl hf => ?_) hf
  cases hf
  exact ret_v X hAe hP hD hS rfl dX12_keeps_30
def f_X12_hand (v_depth : Int32) (v_prefix : Int32) : Option (Int32) :=
  some (((1 : Int32) <<< (v_depth &&& 31)) ||| v_prefix)
set_option maxHeartbeats 4000000 in
set_option maxRecDepth 100000 in
theorem c_X12_hand (l : Launch) (g : GT) (h : Nat) (h_tape : Nat) (v_taped : Int32) (h_text : Nat) (v_size : Int32) (v_token : Int32) (v_begin : Int32) (v_end : Int32) (v_tokens : Int32) (v_code : Int32) (v_faultKind : Int32) (v_faultPlace : Int32) (v_names : Int32) (v_blocks : Int32) (h_nameCode : Nat) (h_nameBlock : Nat) (h_blockMany : Nat) (h_blockAll : Nat) (v_nodeMany : Int32) (v_top : Int32) (h_kind : Nat) (h_left : Nat) (h_right : Nat) (v_namesWas : Int32) (v_blocksWas : Int32) (v_nodeManyWas : Int32) (v_topWas : Int32) (h_nameCodeWas : Nat) (h_nameBlockWas : Nat) (h_blockManyWas : Nat) (h_blockAllWas : Nat) (h_kindWas : Nat) (h_leftWas : Nat) (h_rightWas : Nat) (h_wait : Nat) (h_done : Nat) (v_waits : Int32) (v_dones : Int32) (v_opened : Int32) (h_leaf : Nat) (h_fold : Nat) (h_kept : Nat) (h_now : Nat) (v_played : Int32) (v_depth : Int32) (v_prefix : Int32) (h_moveMade : Nat) (h_out : Nat) (v_written : Int32) (h_later : Nat) (v_laters : Int32) (r_ : Int32) (hf : f_X12_hand v_depth v_prefix = some r_) : Con l g yX12_hand cX12_hand 1 (some .int) ({ frames := 0, cells := 0, slots := 0, locals := 0 }) [.ref h] [oX12 h h_tape v_taped h_text v_size v_token v_begin v_end v_tokens v_code v_faultKind v_faultPlace v_names v_blocks h_nameCode h_nameBlock h_blockMany h_blockAll v_nodeMany v_top h_kind h_left h_right v_namesWas v_blocksWas v_nodeManyWas v_topWas h_nameCodeWas h_nameBlockWas h_blockManyWas h_blockAllWas h_kindWas h_leftWas h_rightWas h_wait h_done v_waits v_dones v_opened h_leaf h_fold h_kept h_now v_played v_depth v_prefix h_moveMade h_out v_written h_later v_laters] (some (.int r_)) [oX12 h h_tape v_taped h_text v_size v_token v_begin v_end v_tokens v_code v_faultKind v_faultPlace v_names v_blocks h_nameCode h_nameBlock h_blockMany h_blockAll v_nodeMany v_top h_kind h_left h_right v_namesWas v_blocksWas v_nodeManyWas v_topWas h_nameCodeWas h_nameBlockWas h_blockManyWas h_blockAllWas h_kindWas h_leftWas h_rightWas h_wait h_done v_waits v_dones v_opened h_leaf h_fold h_kept h_now v_played v_depth v_prefix h_moveMade h_out v_written h_later v_laters] := by
  refine Con.of (by decide) (Nat.le_of_ble_eq_true rfl) ?_
  intro p e s m below meth c A ls hAe X hP hD hS hl
  obtain ⟨hx, hb, hml, hr, hown, hts, hlk, hnm, hA, hG, hZ⟩ := id X
  have hown : s.vm.findClass RX12 = some m.cls := hown
  have hl : lv_has ls 1 [(0, .ref h)] := hl
  unfold f_X12_hand at hf
  refine lv_iconst (v := 1) hx hb dX12_hand_0 (by decide) ?_
  refine lv_aload_n hx hb dX12_hand_1 rfl (lv_at hl 0 rfl) ?_
  refine gf_X12_225 X rfl hP 0 rfl rfl dX12_hand_2 ?_
  refine lv_ishl hx hb dX12_hand_5 ?_
  refine lv_aload_n hx hb dX12_hand_6 rfl (lv_at hl 0 rfl) ?_
  refine gf_X12_228 X rfl hP 0 rfl rfl dX12_hand_7 ?_
  refine lv_ior hx hb dX12_hand_10 ?_
  cases hf
  exact ret_i X hAe hP hD hS rfl dX12_hand_11
def f_X12_truth (v_depth : Int32) (v_prefix : Int32) (v_kept : Nat → Int32) : Option (Int32) :=
  (f_X12_hand v_depth v_prefix).bind fun r_1 =>
  if ix r_1 8192 then
  if v_kept r_1.toNatClampNeg = 0 then
  some 0
  else
  some 1
  else none
set_option maxHeartbeats 4000000 in
set_option maxRecDepth 100000 in
theorem c_X12_truth (l : Launch) (g : GT) (h : Nat) (h_tape : Nat) (v_taped : Int32) (h_text : Nat) (v_size : Int32) (v_token : Int32) (v_begin : Int32) (v_end : Int32) (v_tokens : Int32) (v_code : Int32) (v_faultKind : Int32) (v_faultPlace : Int32) (v_names : Int32) (v_blocks : Int32) (h_nameCode : Nat) (h_nameBlock : Nat) (h_blockMany : Nat) (h_blockAll : Nat) (v_nodeMany : Int32) (v_top : Int32) (h_kind : Nat) (h_left : Nat) (h_right : Nat) (v_namesWas : Int32) (v_blocksWas : Int32) (v_nodeManyWas : Int32) (v_topWas : Int32) (h_nameCodeWas : Nat) (h_nameBlockWas : Nat) (h_blockManyWas : Nat) (h_blockAllWas : Nat) (h_kindWas : Nat) (h_leftWas : Nat) (h_rightWas : Nat) (h_wait : Nat) (h_done : Nat) (v_waits : Int32) (v_dones : Int32) (v_opened : Int32) (h_leaf : Nat) (h_fold : Nat) (h_kept : Nat) (h_now : Nat) (v_played : Int32) (v_depth : Int32) (v_prefix : Int32) (h_moveMade : Nat) (h_out : Nat) (v_written : Int32) (h_later : Nat) (v_laters : Int32) (v_kept : Nat → Int32) (r_ : Int32) (hf : f_X12_truth v_depth v_prefix v_kept = some r_) : Con l g yX12_truth cX12_truth 1 (some .int) ({ frames := 1, cells := 0, slots := 0, locals := 20 }) [.ref h] [oX12 h h_tape v_taped h_text v_size v_token v_begin v_end v_tokens v_code v_faultKind v_faultPlace v_names v_blocks h_nameCode h_nameBlock h_blockMany h_blockAll v_nodeMany v_top h_kind h_left h_right v_namesWas v_blocksWas v_nodeManyWas v_topWas h_nameCodeWas h_nameBlockWas h_blockManyWas h_blockAllWas h_kindWas h_leftWas h_rightWas h_wait h_done v_waits v_dones v_opened h_leaf h_fold h_kept h_now v_played v_depth v_prefix h_moveMade h_out v_written h_later v_laters, aZ g h_kept 8192 v_kept] (some (.int r_)) [oX12 h h_tape v_taped h_text v_size v_token v_begin v_end v_tokens v_code v_faultKind v_faultPlace v_names v_blocks h_nameCode h_nameBlock h_blockMany h_blockAll v_nodeMany v_top h_kind h_left h_right v_namesWas v_blocksWas v_nodeManyWas v_topWas h_nameCodeWas h_nameBlockWas h_blockManyWas h_blockAllWas h_kindWas h_leftWas h_rightWas h_wait h_done v_waits v_dones v_opened h_leaf h_fold h_kept h_now v_played v_depth v_prefix h_moveMade h_out v_written h_later v_laters, aZ g h_kept 8192 v_kept] := by
  refine Con.of (by decide) (Nat.le_of_ble_eq_true rfl) ?_
  intro p e s m below meth c A ls hAe X hP hD hS hl
  obtain ⟨hx, hb, hml, hr, hown, hts, hlk, hnm, hA, hG, hZ⟩ := id X
  have hown : s.vm.findClass RX12 = some m.cls := hown
  have hl : lv_has ls 1 [(0, .ref h)] := hl
  unfold f_X12_truth at hf
  refine lv_aload_n hx hb dX12_truth_0 rfl (lv_at hl 0 rfl) ?_
  refine gf_X12_76 X rfl hP 0 rfl rfl dX12_truth_1 ?_
  refine lv_aload_n hx hb dX12_truth_4 rfl (lv_at hl 0 rfl) ?_
  obtain ⟨r_1, hf_2, hf⟩ := obind hf
  refine gcV (rest := [.ref h_kept]) (wn := [oX12 h h_tape v_taped h_text v_size v_token v_begin v_end v_tokens v_code v_faultKind v_faultPlace v_names v_blocks h_nameCode h_nameBlock h_blockMany h_blockAll v_nodeMany v_top h_kind h_left h_right v_namesWas v_blocksWas v_nodeManyWas v_topWas h_nameCodeWas h_nameBlockWas h_blockManyWas h_blockAllWas h_kindWas h_leftWas h_rightWas h_wait h_done v_waits v_dones v_opened h_leaf h_fold h_kept h_now v_played v_depth v_prefix h_moveMade h_out v_written h_later v_laters, aZ g h_kept 8192 v_kept]) X hP hD hS hl (c_X12_hand l g h h_tape v_taped h_text v_size v_token v_begin v_end v_tokens v_code v_faultKind v_faultPlace v_names v_blocks h_nameCode h_nameBlock h_blockMany h_blockAll v_nodeMany v_top h_kind h_left h_right v_namesWas v_blocksWas v_nodeManyWas v_topWas h_nameCodeWas h_nameBlockWas h_blockManyWas h_blockAllWas h_kindWas h_leftWas h_rightWas h_wait h_done v_waits v_dones v_opened h_leaf h_fold h_kept h_now v_played v_depth v_prefix h_moveMade h_out v_written h_later v_laters r_1 hf_2) [0] rfl rfl rfl [.inr 0, .inl 1] rfl rfl cd_X12_hand rfl im_X12_hand se_X12_hand ml_X12_235 0 rfl rfl rfl rfl rfl ⟨(Nat.le_of_ble_eq_true rfl), (Nat.le_of_ble_eq_true rfl)⟩ rfl (Nat.le_of_ble_eq_true rfl) dX12_truth_5 ⟨(Nat.le_of_ble_eq_true rfl), (Nat.le_of_ble_eq_true rfl)⟩ (fun H locs hP hD hS => ?_)
  obtain ⟨hi_3, hf⟩ := ifs hf
  refine va_zald (D := g.1) hx hb hG.1 hP 1 3 rfl rfl (ix_in hi_3) dX12_truth_8 ?_
  refine lv_if_eq (tgt := 16) hx hb dX12_truth_9 (by decide) (fun c_4 => ?_) (fun c_4 => ?_)
  · have hf := ift hf c_4
    refine lv_iconst (v := 0) hx hb dX12_truth_16 (by decide) ?_
    cases hf
    exact ret_i X hAe hP hD hS rfl dX12_truth_17
  · have hf := iff_ hf c_4
    refine lv_iconst (v := 1) hx hb dX12_truth_12 (by decide) ?_
    refine lv_goto (tgt := 17) hx hb dX12_truth_13 (by decide) ?_
    cases hf
    exact ret_i X hAe hP hD hS rfl dX12_truth_17
def f_X12_turn (v_blocks : Int32) (v_played : Int32) (v_blockAll : Nat → Int32) : Option (Int32) :=
  if v_played = v_blocks then
  some (-1)
  else
  (if ix v_played 6 then
  if v_blockAll v_played.toNatClampNeg = 0 then
  some 0
  else
  some 1
  else none)
set_option maxHeartbeats 4000000 in
set_option maxRecDepth 100000 in
theorem c_X12_turn (l : Launch) (g : GT) (h : Nat) (h_tape : Nat) (v_taped : Int32) (h_text : Nat) (v_size : Int32) (v_token : Int32) (v_begin : Int32) (v_end : Int32) (v_tokens : Int32) (v_code : Int32) (v_faultKind : Int32) (v_faultPlace : Int32) (v_names : Int32) (v_blocks : Int32) (h_nameCode : Nat) (h_nameBlock : Nat) (h_blockMany : Nat) (h_blockAll : Nat) (v_nodeMany : Int32) (v_top : Int32) (h_kind : Nat) (h_left : Nat) (h_right : Nat) (v_namesWas : Int32) (v_blocksWas : Int32) (v_nodeManyWas : Int32) (v_topWas : Int32) (h_nameCodeWas : Nat) (h_nameBlockWas : Nat) (h_blockManyWas : Nat) (h_blockAllWas : Nat) (h_kindWas : Nat) (h_leftWas : Nat) (h_rightWas : Nat) (h_wait : Nat) (h_done : Nat) (v_waits : Int32) (v_dones : Int32) (v_opened : Int32) (h_leaf : Nat) (h_fold : Nat) (h_kept : Nat) (h_now : Nat) (v_played : Int32) (v_depth : Int32) (v_prefix : Int32) (h_moveMade : Nat) (h_out : Nat) (v_written : Int32) (h_later : Nat) (v_laters : Int32) (v_blockAll : Nat → Int32) (r_ : Int32) (hf : f_X12_turn v_blocks v_played v_blockAll = some r_) : Con l g yX12_turn cX12_turn 1 (some .int) ({ frames := 0, cells := 0, slots := 0, locals := 0 }) [.ref h] [oX12 h h_tape v_taped h_text v_size v_token v_begin v_end v_tokens v_code v_faultKind v_faultPlace v_names v_blocks h_nameCode h_nameBlock h_blockMany h_blockAll v_nodeMany v_top h_kind h_left h_right v_namesWas v_blocksWas v_nodeManyWas v_topWas h_nameCodeWas h_nameBlockWas h_blockManyWas h_blockAllWas h_kindWas h_leftWas h_rightWas h_wait h_done v_waits v_dones v_opened h_leaf h_fold h_kept h_now v_played v_depth v_prefix h_moveMade h_out v_written h_later v_laters, aZ g h_blockAll 6 v_blockAll] (some (.int r_)) [oX12 h h_tape v_taped h_text v_size v_token v_begin v_end v_tokens v_code v_faultKind v_faultPlace v_names v_blocks h_nameCode h_nameBlock h_blockMany h_blockAll v_nodeMany v_top h_kind h_left h_right v_namesWas v_blocksWas v_nodeManyWas v_topWas h_nameCodeWas h_nameBlockWas h_blockManyWas h_blockAllWas h_kindWas h_leftWas h_rightWas h_wait h_done v_waits v_dones v_opened h_leaf h_fold h_kept h_now v_played v_depth v_prefix h_moveMade h_out v_written h_later v_laters, aZ g h_blockAll 6 v_blockAll] := by
  refine Con.of (by decide) (Nat.le_of_ble_eq_true rfl) ?_
  intro p e s m below meth c A ls hAe X hP hD hS hl
  obtain ⟨hx, hb, hml, hr, hown, hts, hlk, hnm, hA, hG, hZ⟩ := id X
  have hown : s.vm.findClass RX12 = some m.cls := hown
  have hl : lv_has ls 1 [(0, .ref h)] := hl
  unfold f_X12_turn at hf
  refine lv_aload_n hx hb dX12_turn_0 rfl (lv_at hl 0 rfl) ?_
  refine gf_X12_222 X rfl hP 0 rfl rfl dX12_turn_1 ?_
  refine lv_aload_n hx hb dX12_turn_4 rfl (lv_at hl 0 rfl) ?_
  refine gf_X12_165 X rfl hP 0 rfl rfl dX12_turn_5 ?_
  refine lv_icmp_ne (tgt := 15) hx hb dX12_turn_8 (by decide) (fun c_1 => ?_) (fun c_1 => ?_)
  · have hf := iff_ hf c_1
    refine lv_aload_n hx hb dX12_turn_15 rfl (lv_at hl 0 rfl) ?_
    refine gf_X12_30 X rfl hP 0 rfl rfl dX12_turn_16 ?_
    refine lv_aload_n hx hb dX12_turn_19 rfl (lv_at hl 0 rfl) ?_
    refine gf_X12_222 X rfl hP 0 rfl rfl dX12_turn_20 ?_
    obtain ⟨hi_2, hf⟩ := ifs hf
    refine va_zald (D := g.1) hx hb hG.1 hP 1 3 rfl rfl (ix_in hi_2) dX12_turn_23 ?_
    refine lv_if_eq (tgt := 31) hx hb dX12_turn_24 (by decide) (fun c_3 => ?_) (fun c_3 => ?_)
    · have hf := ift hf c_3
      refine lv_iconst (v := 0) hx hb dX12_turn_31 (by decide) ?_
      cases hf
      exact ret_i X hAe hP hD hS rfl dX12_turn_32
    · have hf := iff_ hf c_3
      refine lv_iconst (v := 1) hx hb dX12_turn_27 (by decide) ?_
      refine lv_goto (tgt := 32) hx hb dX12_turn_28 (by decide) ?_
      cases hf
      exact ret_i X hAe hP hD hS rfl dX12_turn_32
  · have hf := ift hf c_1
    refine lv_iconst (v := (-1)) hx hb dX12_turn_11 (by decide) ?_
    refine lv_goto (tgt := 32) hx hb dX12_turn_12 (by decide) ?_
    cases hf
    exact ret_i X hAe hP hD hS rfl dX12_turn_32
def f_X12_isMove (v_blocks : Int32) (v_played : Int32) (v_blockMany : Nat → Int32) (a1 : Int32) : Option (Bool) :=
  if v_blocks ≤ v_played then
  some false
  else
  (if a1 < 0 then
  some false
  else
  (if ix v_played 6 then
  if (1 : Int32) <<< ((v_blockMany v_played.toNatClampNeg) &&& 31) ≤ a1 then
  some false
  else
  some true
  else none))
set_option maxHeartbeats 4000000 in
set_option maxRecDepth 100000 in
theorem c_X12_isMove (l : Launch) (g : GT) (h : Nat) (h_tape : Nat) (v_taped : Int32) (h_text : Nat) (v_size : Int32) (v_token : Int32) (v_begin : Int32) (v_end : Int32) (v_tokens : Int32) (v_code : Int32) (v_faultKind : Int32) (v_faultPlace : Int32) (v_names : Int32) (v_blocks : Int32) (h_nameCode : Nat) (h_nameBlock : Nat) (h_blockMany : Nat) (h_blockAll : Nat) (v_nodeMany : Int32) (v_top : Int32) (h_kind : Nat) (h_left : Nat) (h_right : Nat) (v_namesWas : Int32) (v_blocksWas : Int32) (v_nodeManyWas : Int32) (v_topWas : Int32) (h_nameCodeWas : Nat) (h_nameBlockWas : Nat) (h_blockManyWas : Nat) (h_blockAllWas : Nat) (h_kindWas : Nat) (h_leftWas : Nat) (h_rightWas : Nat) (h_wait : Nat) (h_done : Nat) (v_waits : Int32) (v_dones : Int32) (v_opened : Int32) (h_leaf : Nat) (h_fold : Nat) (h_kept : Nat) (h_now : Nat) (v_played : Int32) (v_depth : Int32) (v_prefix : Int32) (h_moveMade : Nat) (h_out : Nat) (v_written : Int32) (h_later : Nat) (v_laters : Int32) (v_blockMany : Nat → Int32) (a1 : Int32) (r_ : Bool) (hf : f_X12_isMove v_blocks v_played v_blockMany a1 = some r_) : Con l g yX12_isMove cX12_isMove 2 (some .boolean) ({ frames := 0, cells := 0, slots := 0, locals := 0 }) [.ref h, .int a1] [oX12 h h_tape v_taped h_text v_size v_token v_begin v_end v_tokens v_code v_faultKind v_faultPlace v_names v_blocks h_nameCode h_nameBlock h_blockMany h_blockAll v_nodeMany v_top h_kind h_left h_right v_namesWas v_blocksWas v_nodeManyWas v_topWas h_nameCodeWas h_nameBlockWas h_blockManyWas h_blockAllWas h_kindWas h_leftWas h_rightWas h_wait h_done v_waits v_dones v_opened h_leaf h_fold h_kept h_now v_played v_depth v_prefix h_moveMade h_out v_written h_later v_laters, aI g h_blockMany 6 v_blockMany] (some (.int (b2i r_))) [oX12 h h_tape v_taped h_text v_size v_token v_begin v_end v_tokens v_code v_faultKind v_faultPlace v_names v_blocks h_nameCode h_nameBlock h_blockMany h_blockAll v_nodeMany v_top h_kind h_left h_right v_namesWas v_blocksWas v_nodeManyWas v_topWas h_nameCodeWas h_nameBlockWas h_blockManyWas h_blockAllWas h_kindWas h_leftWas h_rightWas h_wait h_done v_waits v_dones v_opened h_leaf h_fold h_kept h_now v_played v_depth v_prefix h_moveMade h_out v_written h_later v_laters, aI g h_blockMany 6 v_blockMany] := by
  refine Con.of (by decide) (Nat.le_of_ble_eq_true rfl) ?_
  intro p e s m below meth c A ls hAe X hP hD hS hl
  obtain ⟨hx, hb, hml, hr, hown, hts, hlk, hnm, hA, hG, hZ⟩ := id X
  have hown : s.vm.findClass RX12 = some m.cls := hown
  have hl : lv_has ls 2 [(0, .ref h), (1, .int a1)] := hl
  unfold f_X12_isMove at hf
  refine lv_aload_n hx hb dX12_isMove_0 rfl (lv_at hl 0 rfl) ?_
  refine gf_X12_222 X rfl hP 0 rfl rfl dX12_isMove_1 ?_
  refine lv_aload_n hx hb dX12_isMove_4 rfl (lv_at hl 0 rfl) ?_
  refine gf_X12_165 X rfl hP 0 rfl rfl dX12_isMove_5 ?_
  refine lv_icmp_ge (tgt := 34) hx hb dX12_isMove_8 (by decide) (fun c_1 => ?_) (fun c_1 => ?_)
  · have hf := ift hf c_1
    refine lv_iconst (v := 0) hx hb dX12_isMove_34 (by decide) ?_
    cases hf
    exact ret_z (v := false) X hAe hP hD hS rfl dX12_isMove_35
  · have hf := iff_ hf c_1
    refine lv_iload_n hx hb dX12_isMove_11 rfl (lv_at hl 1 rfl) ?_
    refine lv_if_lt (tgt := 34) hx hb dX12_isMove_12 (by decide) (fun c_2 => ?_) (fun c_2 => ?_)
    · have hf := ift hf c_2
      refine lv_iconst (v := 0) hx hb dX12_isMove_34 (by decide) ?_
      cases hf
      exact ret_z (v := false) X hAe hP hD hS rfl dX12_isMove_35
    · have hf := iff_ hf c_2
      refine lv_iload_n hx hb dX12_isMove_15 rfl (lv_at hl 1 rfl) ?_
      refine lv_iconst (v := 1) hx hb dX12_isMove_16 (by decide) ?_
      refine lv_aload_n hx hb dX12_isMove_17 rfl (lv_at hl 0 rfl) ?_
      refine gf_X12_27 X rfl hP 0 rfl rfl dX12_isMove_18 ?_
      refine lv_aload_n hx hb dX12_isMove_21 rfl (lv_at hl 0 rfl) ?_
      refine gf_X12_222 X rfl hP 0 rfl rfl dX12_isMove_22 ?_
      obtain ⟨hi_3, hf⟩ := ifs hf
      refine va_iald (D := g.1) hx hb hG.1 hP 1 1 rfl rfl (ix_in hi_3) dX12_isMove_25 ?_
      refine lv_ishl hx hb dX12_isMove_26 ?_
      refine lv_icmp_ge (tgt := 34) hx hb dX12_isMove_27 (by decide) (fun c_4 => ?_) (fun c_4 => ?_)
      · have hf := ift hf c_4
        refine lv_iconst (v := 0) hx hb dX12_isMove_34 (by decide) ?_
        cases hf
        exact ret_z (v := false) X hAe hP hD hS rfl dX12_isMove_35
      · have hf := iff_ hf c_4
        refine lv_iconst (v := 1) hx hb dX12_isMove_30 (by decide) ?_
        refine lv_goto (tgt := 35) hx hb dX12_isMove_31 (by decide) ?_
        cases hf
        exact ret_z (v := true) X hAe hP hD hS rfl dX12_isMove_35
def f_X12_isWon (v_played : Int32) (v_depth : Int32) (v_prefix : Int32) (v_blockMany : Nat → Int32) (v_kept : Nat → Int32) (v_blockAll : Nat → Int32) (a1 : Int32) : Option (Bool) :=
  (f_X12_hand v_depth v_prefix).bind fun r_1 =>
  if ix v_played 6 then
  if ix ((r_1 <<< ((v_blockMany v_played.toNatClampNeg) &&& 31)) ||| a1) 8192 then
  if ix v_played 6 then
  if v_kept ((r_1 <<< ((v_blockMany v_played.toNatClampNeg) &&& 31)) ||| a1).toNatClampNeg = v_blockAll v_played.toNatClampNeg then
  some false
  else
  some true
  else none
  else none
  else none
set_option maxHeartbeats 4000000 in
set_option maxRecDepth 100000 in
theorem c_X12_isWon (l : Launch) (g : GT) (h : Nat) (h_tape : Nat) (v_taped : Int32) (h_text : Nat) (v_size : Int32) (v_token : Int32) (v_begin : Int32) (v_end : Int32) (v_tokens : Int32) (v_code : Int32) (v_faultKind : Int32) (v_faultPlace : Int32) (v_names : Int32) (v_blocks : Int32) (h_nameCode : Nat) (h_nameBlock : Nat) (h_blockMany : Nat) (h_blockAll : Nat) (v_nodeMany : Int32) (v_top : Int32) (h_kind : Nat) (h_left : Nat) (h_right : Nat) (v_namesWas : Int32) (v_blocksWas : Int32) (v_nodeManyWas : Int32) (v_topWas : Int32) (h_nameCodeWas : Nat) (h_nameBlockWas : Nat) (h_blockManyWas : Nat) (h_blockAllWas : Nat) (h_kindWas : Nat) (h_leftWas : Nat) (h_rightWas : Nat) (h_wait : Nat) (h_done : Nat) (v_waits : Int32) (v_dones : Int32) (v_opened : Int32) (h_leaf : Nat) (h_fold : Nat) (h_kept : Nat) (h_now : Nat) (v_played : Int32) (v_depth : Int32) (v_prefix : Int32) (h_moveMade : Nat) (h_out : Nat) (v_written : Int32) (h_later : Nat) (v_laters : Int32) (v_blockMany : Nat → Int32) (v_kept : Nat → Int32) (v_blockAll : Nat → Int32) (a1 : Int32) (r_ : Bool) (hf : f_X12_isWon v_played v_depth v_prefix v_blockMany v_kept v_blockAll a1 = some r_) : Con l g yX12_isWon cX12_isWon 2 (some .boolean) ({ frames := 1, cells := 0, slots := 0, locals := 20 }) [.ref h, .int a1] [oX12 h h_tape v_taped h_text v_size v_token v_begin v_end v_tokens v_code v_faultKind v_faultPlace v_names v_blocks h_nameCode h_nameBlock h_blockMany h_blockAll v_nodeMany v_top h_kind h_left h_right v_namesWas v_blocksWas v_nodeManyWas v_topWas h_nameCodeWas h_nameBlockWas h_blockManyWas h_blockAllWas h_kindWas h_leftWas h_rightWas h_wait h_done v_waits v_dones v_opened h_leaf h_fold h_kept h_now v_played v_depth v_prefix h_moveMade h_out v_written h_later v_laters, aI g h_blockMany 6 v_blockMany, aZ g h_kept 8192 v_kept, aZ g h_blockAll 6 v_blockAll] (some (.int (b2i r_))) [oX12 h h_tape v_taped h_text v_size v_token v_begin v_end v_tokens v_code v_faultKind v_faultPlace v_names v_blocks h_nameCode h_nameBlock h_blockMany h_blockAll v_nodeMany v_top h_kind h_left h_right v_namesWas v_blocksWas v_nodeManyWas v_topWas h_nameCodeWas h_nameBlockWas h_blockManyWas h_blockAllWas h_kindWas h_leftWas h_rightWas h_wait h_done v_waits v_dones v_opened h_leaf h_fold h_kept h_now v_played v_depth v_prefix h_moveMade h_out v_written h_later v_laters, aI g h_blockMany 6 v_blockMany, aZ g h_kept 8192 v_kept, aZ g h_blockAll 6 v_blockAll] := by
  refine Con.of (by decide) (Nat.le_of_ble_eq_true rfl) ?_
  intro p e s m below meth c A ls hAe X hP hD hS hl
  obtain ⟨hx, hb, hml, hr, hown, hts, hlk, hnm, hA, hG, hZ⟩ := id X
  have hown : s.vm.findClass RX12 = some m.cls := hown
  have hl : lv_has ls 2 [(0, .ref h), (1, .int a1)] := hl
  unfold f_X12_isWon at hf
  refine lv_aload_n hx hb dX12_isWon_0 rfl (lv_at hl 0 rfl) ?_
  refine gf_X12_76 X rfl hP 0 rfl rfl dX12_isWon_1 ?_
  refine lv_aload_n hx hb dX12_isWon_4 rfl (lv_at hl 0 rfl) ?_
  obtain ⟨r_1, hf_2, hf⟩ := obind hf
  refine gcV (rest := [.ref h_kept]) (wn := [oX12 h h_tape v_taped h_text v_size v_token v_begin v_end v_tokens v_code v_faultKind v_faultPlace v_names v_blocks h_nameCode h_nameBlock h_blockMany h_blockAll v_nodeMany v_top h_kind h_left h_right v_namesWas v_blocksWas v_nodeManyWas v_topWas h_nameCodeWas h_nameBlockWas h_blockManyWas h_blockAllWas h_kindWas h_leftWas h_rightWas h_wait h_done v_waits v_dones v_opened h_leaf h_fold h_kept h_now v_played v_depth v_prefix h_moveMade h_out v_written h_later v_laters, aI g h_blockMany 6 v_blockMany, aZ g h_kept 8192 v_kept, aZ g h_blockAll 6 v_blockAll]) X hP hD hS hl (c_X12_hand l g h h_tape v_taped h_text v_size v_token v_begin v_end v_tokens v_code v_faultKind v_faultPlace v_names v_blocks h_nameCode h_nameBlock h_blockMany h_blockAll v_nodeMany v_top h_kind h_left h_right v_namesWas v_blocksWas v_nodeManyWas v_topWas h_nameCodeWas h_nameBlockWas h_blockManyWas h_blockAllWas h_kindWas h_leftWas h_rightWas h_wait h_done v_waits v_dones v_opened h_leaf h_fold h_kept h_now v_played v_depth v_prefix h_moveMade h_out v_written h_later v_laters r_1 hf_2) [0] rfl rfl rfl [.inr 0, .inl 1, .inl 2, .inl 3] rfl rfl cd_X12_hand rfl im_X12_hand se_X12_hand ml_X12_235 0 rfl rfl rfl rfl rfl ⟨(Nat.le_of_ble_eq_true rfl), (Nat.le_of_ble_eq_true rfl)⟩ rfl (Nat.le_of_ble_eq_true rfl) dX12_isWon_5 ⟨(Nat.le_of_ble_eq_true rfl), (Nat.le_of_ble_eq_true rfl)⟩ (fun H locs hP hD hS => ?_)
  refine lv_aload_n hx hb dX12_isWon_8 rfl (lv_at hl 0 rfl) ?_
  refine gf_X12_27 X rfl hP 0 rfl rfl dX12_isWon_9 ?_
  refine lv_aload_n hx hb dX12_isWon_12 rfl (lv_at hl 0 rfl) ?_
  refine gf_X12_222 X rfl hP 0 rfl rfl dX12_isWon_13 ?_
  obtain ⟨hi_3, hf⟩ := ifs hf
  refine va_iald (D := g.1) hx hb hG.1 hP 1 1 rfl rfl (ix_in hi_3) dX12_isWon_16 ?_
  refine lv_ishl hx hb dX12_isWon_17 ?_
  refine lv_iload_n hx hb dX12_isWon_18 rfl (lv_at hl 1 rfl) ?_
  refine lv_ior hx hb dX12_isWon_19 ?_
  obtain ⟨hi_4, hf⟩ := ifs hf
  refine va_zald (D := g.1) hx hb hG.1 hP 2 3 rfl rfl (ix_in hi_4) dX12_isWon_20 ?_
  refine lv_aload_n hx hb dX12_isWon_21 rfl (lv_at hl 0 rfl) ?_
  refine gf_X12_30 X rfl hP 0 rfl rfl dX12_isWon_22 ?_
  refine lv_aload_n hx hb dX12_isWon_25 rfl (lv_at hl 0 rfl) ?_
  refine gf_X12_222 X rfl hP 0 rfl rfl dX12_isWon_26 ?_
  obtain ⟨hi_5, hf⟩ := ifs hf
  refine va_zald (D := g.1) hx hb hG.1 hP 3 3 rfl rfl (ix_in hi_5) dX12_isWon_29 ?_
  refine lv_icmp_eq (tgt := 37) hx hb dX12_isWon_30 (by decide) (fun c_6 => ?_) (fun c_6 => ?_)
  · have hf := ift hf c_6
    refine lv_iconst (v := 0) hx hb dX12_isWon_37 (by decide) ?_
    cases hf
    exact ret_z (v := false) X hAe hP hD hS rfl dX12_isWon_38
  · have hf := iff_ hf c_6
    refine lv_iconst (v := 1) hx hb dX12_isWon_33 (by decide) ?_
    refine lv_goto (tgt := 38) hx hb dX12_isWon_34 (by decide) ?_
    cases hf
    exact ret_z (v := true) X hAe hP hD hS rfl dX12_isWon_38
def lp_X12_move_2 (v_blocks_2f : Int32) (v_played_2f : Int32) (v_depth_2f : Int32) (v_prefix_2f : Int32) (v_blockMany_2f : Nat → Int32) (v_kept_2f : Nat → Int32) (v_blockAll_2f : Nat → Int32) : Nat → Int32 → (Int32 → Option (Int32)) → Option (Int32)
  | 0, _, _ => none
  | n_2 + 1, x1_2, K_2 =>
    (f_X12_isMove v_blocks_2f v_played_2f v_blockMany_2f x1_2).bind fun r_1 =>
    if b2i r_1 = 0 then
    K_2 x1_2
    else
    ((f_X12_isWon v_played_2f v_depth_2f v_prefix_2f v_blockMany_2f v_kept_2f v_blockAll_2f x1_2).bind fun r_4 =>
    if b2i r_4 = 0 then
    lp_X12_move_2 v_blocks_2f v_played_2f v_depth_2f v_prefix_2f v_blockMany_2f v_kept_2f v_blockAll_2f n_2 (x1_2 + 1) K_2
    else
    some x1_2)
def f_X12_move (v_blocks : Int32) (v_played : Int32) (v_depth : Int32) (v_prefix : Int32) (v_blockMany : Nat → Int32) (v_kept : Nat → Int32) (v_blockAll : Nat → Int32) : Option (Int32) :=
  lp_X12_move_2 v_blocks v_played v_depth v_prefix v_blockMany v_kept v_blockAll 5000 0 (fun x1_2_7 => 
  some (-1))
set_option maxHeartbeats 4000000 in
set_option maxRecDepth 100000 in
theorem c_X12_move (l : Launch) (g : GT) (h : Nat) (h_tape : Nat) (v_taped : Int32) (h_text : Nat) (v_size : Int32) (v_token : Int32) (v_begin : Int32) (v_end : Int32) (v_tokens : Int32) (v_code : Int32) (v_faultKind : Int32) (v_faultPlace : Int32) (v_names : Int32) (v_blocks : Int32) (h_nameCode : Nat) (h_nameBlock : Nat) (h_blockMany : Nat) (h_blockAll : Nat) (v_nodeMany : Int32) (v_top : Int32) (h_kind : Nat) (h_left : Nat) (h_right : Nat) (v_namesWas : Int32) (v_blocksWas : Int32) (v_nodeManyWas : Int32) (v_topWas : Int32) (h_nameCodeWas : Nat) (h_nameBlockWas : Nat) (h_blockManyWas : Nat) (h_blockAllWas : Nat) (h_kindWas : Nat) (h_leftWas : Nat) (h_rightWas : Nat) (h_wait : Nat) (h_done : Nat) (v_waits : Int32) (v_dones : Int32) (v_opened : Int32) (h_leaf : Nat) (h_fold : Nat) (h_kept : Nat) (h_now : Nat) (v_played : Int32) (v_depth : Int32) (v_prefix : Int32) (h_moveMade : Nat) (h_out : Nat) (v_written : Int32) (h_later : Nat) (v_laters : Int32) (v_blockMany : Nat → Int32) (v_kept : Nat → Int32) (v_blockAll : Nat → Int32) (r_ : Int32) (hf : f_X12_move v_blocks v_played v_depth v_prefix v_blockMany v_kept v_blockAll = some r_) : Con l g yX12_move cX12_move 2 (some .int) ({ frames := 2, cells := 0, slots := 0, locals := 41 }) [.ref h] [oX12 h h_tape v_taped h_text v_size v_token v_begin v_end v_tokens v_code v_faultKind v_faultPlace v_names v_blocks h_nameCode h_nameBlock h_blockMany h_blockAll v_nodeMany v_top h_kind h_left h_right v_namesWas v_blocksWas v_nodeManyWas v_topWas h_nameCodeWas h_nameBlockWas h_blockManyWas h_blockAllWas h_kindWas h_leftWas h_rightWas h_wait h_done v_waits v_dones v_opened h_leaf h_fold h_kept h_now v_played v_depth v_prefix h_moveMade h_out v_written h_later v_laters, aI g h_blockMany 6 v_blockMany, aZ g h_kept 8192 v_kept, aZ g h_blockAll 6 v_blockAll] (some (.int r_)) [oX12 h h_tape v_taped h_text v_size v_token v_begin v_end v_tokens v_code v_faultKind v_faultPlace v_names v_blocks h_nameCode h_nameBlock h_blockMany h_blockAll v_nodeMany v_top h_kind h_left h_right v_namesWas v_blocksWas v_nodeManyWas v_topWas h_nameCodeWas h_nameBlockWas h_blockManyWas h_blockAllWas h_kindWas h_leftWas h_rightWas h_wait h_done v_waits v_dones v_opened h_leaf h_fold h_kept h_now v_played v_depth v_prefix h_moveMade h_out v_written h_later v_laters, aI g h_blockMany 6 v_blockMany, aZ g h_kept 8192 v_kept, aZ g h_blockAll 6 v_blockAll] := by
  refine Con.of (by decide) (Nat.le_of_ble_eq_true rfl) ?_
  intro p e s m below meth c A ls hAe X hP hD hS hl
  obtain ⟨hx, hb, hml, hr, hown, hts, hlk, hnm, hA, hG, hZ⟩ := id X
  have hown : s.vm.findClass RX12 = some m.cls := hown
  have hl : lv_has ls 2 [(0, .ref h)] := hl
  unfold f_X12_move at hf
  refine lv_iconst (v := 0) hx hb dX12_move_0 (by decide) ?_
  refine lv_istore_n (lv' := [(1, .int 0), (0, .ref h)]) hx hb dX12_move_1 rfl hl (by decide) rfl (fun ls hl => ?_)
  have L_2 : ∀ (n : Nat) (x1_2 : Int32) (H : Heap) (locs : List Loc) (ls : Array Slot) (K_2 : Int32 → Option (Int32)), va_P g.1 vwCl [oX12 h h_tape v_taped h_text v_size v_token v_begin v_end v_tokens v_code v_faultKind v_faultPlace v_names v_blocks h_nameCode h_nameBlock h_blockMany h_blockAll v_nodeMany v_top h_kind h_left h_right v_namesWas v_blocksWas v_nodeManyWas v_topWas h_nameCodeWas h_nameBlockWas h_blockManyWas h_blockAllWas h_kindWas h_leftWas h_rightWas h_wait h_done v_waits v_dones v_opened h_leaf h_fold h_kept h_now v_played v_depth v_prefix h_moveMade h_out v_written h_later v_laters, aI g h_blockMany 6 v_blockMany, aZ g h_kept 8192 v_kept, aZ g h_blockAll 6 v_blockAll] H → va_D A [oX12 h h_tape v_taped h_text v_size v_token v_begin v_end v_tokens v_code v_faultKind v_faultPlace v_names v_blocks h_nameCode h_nameBlock h_blockMany h_blockAll v_nodeMany v_top h_kind h_left h_right v_namesWas v_blocksWas v_nodeManyWas v_topWas h_nameCodeWas h_nameBlockWas h_blockManyWas h_blockAllWas h_kindWas h_leftWas h_rightWas h_wait h_done v_waits v_dones v_opened h_leaf h_fold h_kept h_now v_played v_depth v_prefix h_moveMade h_out v_written h_later v_laters, aI g h_blockMany 6 v_blockMany, aZ g h_kept 8192 v_kept, aZ g h_blockAll 6 v_blockAll] → va_S A s.heap H locs → lv_has ls 2 [(0, .ref h), (1, .int x1_2)] → (∀ (z_x1_2 : Int32) (H : Heap) (locs : List Loc) (ls : Array Slot), va_P g.1 vwCl [oX12 h h_tape v_taped h_text v_size v_token v_begin v_end v_tokens v_code v_faultKind v_faultPlace v_names v_blocks h_nameCode h_nameBlock h_blockMany h_blockAll v_nodeMany v_top h_kind h_left h_right v_namesWas v_blocksWas v_nodeManyWas v_topWas h_nameCodeWas h_nameBlockWas h_blockManyWas h_blockAllWas h_kindWas h_leftWas h_rightWas h_wait h_done v_waits v_dones v_opened h_leaf h_fold h_kept h_now v_played v_depth v_prefix h_moveMade h_out v_written h_later v_laters, aI g h_blockMany 6 v_blockMany, aZ g h_kept 8192 v_kept, aZ g h_blockAll 6 v_blockAll] H → va_D A [oX12 h h_tape v_taped h_text v_size v_token v_begin v_end v_tokens v_code v_faultKind v_faultPlace v_names v_blocks h_nameCode h_nameBlock h_blockMany h_blockAll v_nodeMany v_top h_kind h_left h_right v_namesWas v_blocksWas v_nodeManyWas v_topWas h_nameCodeWas h_nameBlockWas h_blockManyWas h_blockAllWas h_kindWas h_leftWas h_rightWas h_wait h_done v_waits v_dones v_opened h_leaf h_fold h_kept h_now v_played v_depth v_prefix h_moveMade h_out v_written h_later v_laters, aI g h_blockMany 6 v_blockMany, aZ g h_kept 8192 v_kept, aZ g h_blockAll 6 v_blockAll] → va_S A s.heap H locs → lv_has ls 2 [(0, .ref h), (1, .int z_x1_2)] → K_2 z_x1_2 = some r_ → W p l e ({ frames := 2, cells := 0, slots := 0, locals := 41 }) s m [.ref h].toArray below meth c H locs 0 0 (MQ below (fun _ => QW g [oX12 h h_tape v_taped h_text v_size v_token v_begin v_end v_tokens v_code v_faultKind v_faultPlace v_names v_blocks h_nameCode h_nameBlock h_blockMany h_blockAll v_nodeMany v_top h_kind h_left h_right v_namesWas v_blocksWas v_nodeManyWas v_topWas h_nameCodeWas h_nameBlockWas h_blockManyWas h_blockAllWas h_kindWas h_leftWas h_rightWas h_wait h_done v_waits v_dones v_opened h_leaf h_fold h_kept h_now v_played v_depth v_prefix h_moveMade h_out v_written h_later v_laters, aI g h_blockMany 6 v_blockMany, aZ g h_kept 8192 v_kept, aZ g h_blockAll 6 v_blockAll] s.heap.size (some (.int r_)) [oX12 h h_tape v_taped h_text v_size v_token v_begin v_end v_tokens v_code v_faultKind v_faultPlace v_names v_blocks h_nameCode h_nameBlock h_blockMany h_blockAll v_nodeMany v_top h_kind h_left h_right v_namesWas v_blocksWas v_nodeManyWas v_topWas h_nameCodeWas h_nameBlockWas h_blockManyWas h_blockAllWas h_kindWas h_leftWas h_rightWas h_wait h_done v_waits v_dones v_opened h_leaf h_fold h_kept h_now v_played v_depth v_prefix h_moveMade h_out v_written h_later v_laters, aI g h_blockMany 6 v_blockMany, aZ g h_kept 8192 v_kept, aZ g h_blockAll 6 v_blockAll]) [.ref h].toArray s 0 0 (va_A [oX12 h h_tape v_taped h_text v_size v_token v_begin v_end v_tokens v_code v_faultKind v_faultPlace v_names v_blocks h_nameCode h_nameBlock h_blockMany h_blockAll v_nodeMany v_top h_kind h_left h_right v_namesWas v_blocksWas v_nodeManyWas v_topWas h_nameCodeWas h_nameBlockWas h_blockManyWas h_blockAllWas h_kindWas h_leftWas h_rightWas h_wait h_done v_waits v_dones v_opened h_leaf h_fold h_kept h_now v_played v_depth v_prefix h_moveMade h_out v_written h_later v_laters, aI g h_blockMany 6 v_blockMany, aZ g h_kept 8192 v_kept, aZ g h_blockAll 6 v_blockAll] s.heap.size)) (F0 m 26 ls [])) → lp_X12_move_2 v_blocks v_played v_depth v_prefix v_blockMany v_kept v_blockAll n x1_2 K_2 = some r_ → W p l e ({ frames := 2, cells := 0, slots := 0, locals := 41 }) s m [.ref h].toArray below meth c H locs 0 0 (MQ below (fun _ => QW g [oX12 h h_tape v_taped h_text v_size v_token v_begin v_end v_tokens v_code v_faultKind v_faultPlace v_names v_blocks h_nameCode h_nameBlock h_blockMany h_blockAll v_nodeMany v_top h_kind h_left h_right v_namesWas v_blocksWas v_nodeManyWas v_topWas h_nameCodeWas h_nameBlockWas h_blockManyWas h_blockAllWas h_kindWas h_leftWas h_rightWas h_wait h_done v_waits v_dones v_opened h_leaf h_fold h_kept h_now v_played v_depth v_prefix h_moveMade h_out v_written h_later v_laters, aI g h_blockMany 6 v_blockMany, aZ g h_kept 8192 v_kept, aZ g h_blockAll 6 v_blockAll] s.heap.size (some (.int r_)) [oX12 h h_tape v_taped h_text v_size v_token v_begin v_end v_tokens v_code v_faultKind v_faultPlace v_names v_blocks h_nameCode h_nameBlock h_blockMany h_blockAll v_nodeMany v_top h_kind h_left h_right v_namesWas v_blocksWas v_nodeManyWas v_topWas h_nameCodeWas h_nameBlockWas h_blockManyWas h_blockAllWas h_kindWas h_leftWas h_rightWas h_wait h_done v_waits v_dones v_opened h_leaf h_fold h_kept h_now v_played v_depth v_prefix h_moveMade h_out v_written h_later v_laters, aI g h_blockMany 6 v_blockMany, aZ g h_kept 8192 v_kept, aZ g h_blockAll 6 v_blockAll]) [.ref h].toArray s 0 0 (va_A [oX12 h h_tape v_taped h_text v_size v_token v_begin v_end v_tokens v_code v_faultKind v_faultPlace v_names v_blocks h_nameCode h_nameBlock h_blockMany h_blockAll v_nodeMany v_top h_kind h_left h_right v_namesWas v_blocksWas v_nodeManyWas v_topWas h_nameCodeWas h_nameBlockWas h_blockManyWas h_blockAllWas h_kindWas h_leftWas h_rightWas h_wait h_done v_waits v_dones v_opened h_leaf h_fold h_kept h_now v_played v_depth v_prefix h_moveMade h_out v_written h_later v_laters, aI g h_blockMany 6 v_blockMany, aZ g h_kept 8192 v_kept, aZ g h_blockAll 6 v_blockAll] s.heap.size)) (F0 m 2 ls []) := by
    intro n
    induction n with
    | zero =>
      intro x1_2 H locs ls K_2 hP hD hS hl hk hf
      have hf : (none : Option (Int32)) = some _ := hf
      cases hf
    | succ n_2 ih_2 =>
      intro x1_2 H locs ls K_2 hP hD hS hl hk_2 hf
      refine lv_aload_n hx hb dX12_move_2 rfl (lv_at hl 0 rfl) ?_
      refine lv_iload_n hx hb dX12_move_3 rfl (lv_at hl 1 rfl) ?_
      obtain ⟨r_8, hf_9, hf⟩ := obind hf
      refine gcV (rest := []) (wn := [oX12 h h_tape v_taped h_text v_size v_token v_begin v_end v_tokens v_code v_faultKind v_faultPlace v_names v_blocks h_nameCode h_nameBlock h_blockMany h_blockAll v_nodeMany v_top h_kind h_left h_right v_namesWas v_blocksWas v_nodeManyWas v_topWas h_nameCodeWas h_nameBlockWas h_blockManyWas h_blockAllWas h_kindWas h_leftWas h_rightWas h_wait h_done v_waits v_dones v_opened h_leaf h_fold h_kept h_now v_played v_depth v_prefix h_moveMade h_out v_written h_later v_laters, aI g h_blockMany 6 v_blockMany, aZ g h_kept 8192 v_kept, aZ g h_blockAll 6 v_blockAll]) X hP hD hS hl (c_X12_isMove l g h h_tape v_taped h_text v_size v_token v_begin v_end v_tokens v_code v_faultKind v_faultPlace v_names v_blocks h_nameCode h_nameBlock h_blockMany h_blockAll v_nodeMany v_top h_kind h_left h_right v_namesWas v_blocksWas v_nodeManyWas v_topWas h_nameCodeWas h_nameBlockWas h_blockManyWas h_blockAllWas h_kindWas h_leftWas h_rightWas h_wait h_done v_waits v_dones v_opened h_leaf h_fold h_kept h_now v_played v_depth v_prefix h_moveMade h_out v_written h_later v_laters v_blockMany x1_2 r_8 hf_9) [0, 1] rfl rfl rfl [.inr 0, .inr 1, .inl 2, .inl 3] rfl rfl cd_X12_isMove rfl im_X12_isMove se_X12_isMove ml_X12_239 0 rfl rfl rfl rfl rfl ⟨(Nat.le_of_ble_eq_true rfl), (Nat.le_of_ble_eq_true rfl)⟩ rfl (Nat.le_of_ble_eq_true rfl) dX12_move_4 ⟨(Nat.le_of_ble_eq_true rfl), (Nat.le_of_ble_eq_true rfl)⟩ (fun H locs hP hD hS => ?_)
      refine lv_if_eq (tgt := 26) hx hb dX12_move_7 (by decide) (fun c_10 => ?_) (fun c_10 => ?_)
      · have hf := ift hf c_10
        exact hk_2 x1_2 H locs ls hP hD hS (lv_sub hl [0, 1] rfl) hf
      · have hf := iff_ hf c_10
        refine lv_aload_n hx hb dX12_move_10 rfl (lv_at hl 0 rfl) ?_
        refine lv_iload_n hx hb dX12_move_11 rfl (lv_at hl 1 rfl) ?_
        obtain ⟨r_11, hf_12, hf⟩ := obind hf
        refine gcV (rest := []) (wn := [oX12 h h_tape v_taped h_text v_size v_token v_begin v_end v_tokens v_code v_faultKind v_faultPlace v_names v_blocks h_nameCode h_nameBlock h_blockMany h_blockAll v_nodeMany v_top h_kind h_left h_right v_namesWas v_blocksWas v_nodeManyWas v_topWas h_nameCodeWas h_nameBlockWas h_blockManyWas h_blockAllWas h_kindWas h_leftWas h_rightWas h_wait h_done v_waits v_dones v_opened h_leaf h_fold h_kept h_now v_played v_depth v_prefix h_moveMade h_out v_written h_later v_laters, aI g h_blockMany 6 v_blockMany, aZ g h_kept 8192 v_kept, aZ g h_blockAll 6 v_blockAll]) X hP hD hS hl (c_X12_isWon l g h h_tape v_taped h_text v_size v_token v_begin v_end v_tokens v_code v_faultKind v_faultPlace v_names v_blocks h_nameCode h_nameBlock h_blockMany h_blockAll v_nodeMany v_top h_kind h_left h_right v_namesWas v_blocksWas v_nodeManyWas v_topWas h_nameCodeWas h_nameBlockWas h_blockManyWas h_blockAllWas h_kindWas h_leftWas h_rightWas h_wait h_done v_waits v_dones v_opened h_leaf h_fold h_kept h_now v_played v_depth v_prefix h_moveMade h_out v_written h_later v_laters v_blockMany v_kept v_blockAll x1_2 r_11 hf_12) [0, 1, 2, 3] rfl rfl rfl [.inr 0, .inr 1, .inr 2, .inr 3] rfl rfl cd_X12_isWon rfl im_X12_isWon se_X12_isWon ml_X12_242 0 rfl rfl rfl rfl rfl ⟨(Nat.le_of_ble_eq_true rfl), (Nat.le_of_ble_eq_true rfl)⟩ rfl (Nat.le_of_ble_eq_true rfl) dX12_move_12 ⟨(Nat.le_of_ble_eq_true rfl), (Nat.le_of_ble_eq_true rfl)⟩ (fun H locs hP hD hS => ?_)
        refine lv_if_eq (tgt := 20) hx hb dX12_move_15 (by decide) (fun c_13 => ?_) (fun c_13 => ?_)
        · have hf := ift hf c_13
          refine lv_iinc (v := x1_2 + 1) (lv' := [(1, .int (x1_2 + 1)), (0, .ref h)]) hx hb dX12_move_20 hl (k := 1) rfl rfl (by decide) rfl (fun ls hl => ?_)
          refine lv_goto (tgt := 2) hx hb dX12_move_23 (by decide) ?_
          exact ih_2 (x1_2 + 1) H locs ls K_2 hP hD hS (lv_sub hl [1, 0] rfl) hk_2 hf
        · have hf := iff_ hf c_13
          refine lv_iload_n hx hb dX12_move_18 rfl (lv_at hl 1 rfl) ?_
          cases hf
          exact ret_i X hAe hP hD hS rfl dX12_move_19
  refine L_2 _ _ _ _ ls _ hP hD hS (lv_sub hl [1, 0] rfl) (fun x1_2_7 H locs ls hP hD hS hl hf => ?_) hf
  refine lv_iconst (v := (-1)) hx hb dX12_move_26 (by decide) ?_
  cases hf
  exact ret_i X hAe hP hD hS rfl dX12_move_27
def f_X12_wins (v_blocks : Int32) (v_played : Int32) (v_depth : Int32) (v_prefix : Int32) (v_blockMany : Nat → Int32) (v_kept : Nat → Int32) (v_blockAll : Nat → Int32) (a1 : Int32) : Option (Int32) :=
  (f_X12_isMove v_blocks v_played v_blockMany a1).bind fun r_1 =>
  if b2i r_1 = 0 then
  some (-1)
  else
  ((f_X12_isWon v_played v_depth v_prefix v_blockMany v_kept v_blockAll a1).bind fun r_4 =>
  if b2i r_4 = 0 then
  some 0
  else
  some 1)
set_option maxHeartbeats 4000000 in
set_option maxRecDepth 100000 in
theorem c_X12_wins (l : Launch) (g : GT) (h : Nat) (h_tape : Nat) (v_taped : Int32) (h_text : Nat) (v_size : Int32) (v_token : Int32) (v_begin : Int32) (v_end : Int32) (v_tokens : Int32) (v_code : Int32) (v_faultKind : Int32) (v_faultPlace : Int32) (v_names : Int32) (v_blocks : Int32) (h_nameCode : Nat) (h_nameBlock : Nat) (h_blockMany : Nat) (h_blockAll : Nat) (v_nodeMany : Int32) (v_top : Int32) (h_kind : Nat) (h_left : Nat) (h_right : Nat) (v_namesWas : Int32) (v_blocksWas : Int32) (v_nodeManyWas : Int32) (v_topWas : Int32) (h_nameCodeWas : Nat) (h_nameBlockWas : Nat) (h_blockManyWas : Nat) (h_blockAllWas : Nat) (h_kindWas : Nat) (h_leftWas : Nat) (h_rightWas : Nat) (h_wait : Nat) (h_done : Nat) (v_waits : Int32) (v_dones : Int32) (v_opened : Int32) (h_leaf : Nat) (h_fold : Nat) (h_kept : Nat) (h_now : Nat) (v_played : Int32) (v_depth : Int32) (v_prefix : Int32) (h_moveMade : Nat) (h_out : Nat) (v_written : Int32) (h_later : Nat) (v_laters : Int32) (v_blockMany : Nat → Int32) (v_kept : Nat → Int32) (v_blockAll : Nat → Int32) (a1 : Int32) (r_ : Int32) (hf : f_X12_wins v_blocks v_played v_depth v_prefix v_blockMany v_kept v_blockAll a1 = some r_) : Con l g yX12_wins cX12_wins 2 (some .int) ({ frames := 2, cells := 0, slots := 0, locals := 41 }) [.ref h, .int a1] [oX12 h h_tape v_taped h_text v_size v_token v_begin v_end v_tokens v_code v_faultKind v_faultPlace v_names v_blocks h_nameCode h_nameBlock h_blockMany h_blockAll v_nodeMany v_top h_kind h_left h_right v_namesWas v_blocksWas v_nodeManyWas v_topWas h_nameCodeWas h_nameBlockWas h_blockManyWas h_blockAllWas h_kindWas h_leftWas h_rightWas h_wait h_done v_waits v_dones v_opened h_leaf h_fold h_kept h_now v_played v_depth v_prefix h_moveMade h_out v_written h_later v_laters, aI g h_blockMany 6 v_blockMany, aZ g h_kept 8192 v_kept, aZ g h_blockAll 6 v_blockAll] (some (.int r_)) [oX12 h h_tape v_taped h_text v_size v_token v_begin v_end v_tokens v_code v_faultKind v_faultPlace v_names v_blocks h_nameCode h_nameBlock h_blockMany h_blockAll v_nodeMany v_top h_kind h_left h_right v_namesWas v_blocksWas v_nodeManyWas v_topWas h_nameCodeWas h_nameBlockWas h_blockManyWas h_blockAllWas h_kindWas h_leftWas h_rightWas h_wait h_done v_waits v_dones v_opened h_leaf h_fold h_kept h_now v_played v_depth v_prefix h_moveMade h_out v_written h_later v_laters, aI g h_blockMany 6 v_blockMany, aZ g h_kept 8192 v_kept, aZ g h_blockAll 6 v_blockAll] := by
  refine Con.of (by decide) (Nat.le_of_ble_eq_true rfl) ?_
  intro p e s m below meth c A ls hAe X hP hD hS hl
  obtain ⟨hx, hb, hml, hr, hown, hts, hlk, hnm, hA, hG, hZ⟩ := id X
  have hown : s.vm.findClass RX12 = some m.cls := hown
  have hl : lv_has ls 2 [(0, .ref h), (1, .int a1)] := hl
  unfold f_X12_wins at hf
  refine lv_aload_n hx hb dX12_wins_0 rfl (lv_at hl 0 rfl) ?_
  refine lv_iload_n hx hb dX12_wins_1 rfl (lv_at hl 1 rfl) ?_
  obtain ⟨r_1, hf_2, hf⟩ := obind hf
  refine gcV (rest := []) (wn := [oX12 h h_tape v_taped h_text v_size v_token v_begin v_end v_tokens v_code v_faultKind v_faultPlace v_names v_blocks h_nameCode h_nameBlock h_blockMany h_blockAll v_nodeMany v_top h_kind h_left h_right v_namesWas v_blocksWas v_nodeManyWas v_topWas h_nameCodeWas h_nameBlockWas h_blockManyWas h_blockAllWas h_kindWas h_leftWas h_rightWas h_wait h_done v_waits v_dones v_opened h_leaf h_fold h_kept h_now v_played v_depth v_prefix h_moveMade h_out v_written h_later v_laters, aI g h_blockMany 6 v_blockMany, aZ g h_kept 8192 v_kept, aZ g h_blockAll 6 v_blockAll]) X hP hD hS hl (c_X12_isMove l g h h_tape v_taped h_text v_size v_token v_begin v_end v_tokens v_code v_faultKind v_faultPlace v_names v_blocks h_nameCode h_nameBlock h_blockMany h_blockAll v_nodeMany v_top h_kind h_left h_right v_namesWas v_blocksWas v_nodeManyWas v_topWas h_nameCodeWas h_nameBlockWas h_blockManyWas h_blockAllWas h_kindWas h_leftWas h_rightWas h_wait h_done v_waits v_dones v_opened h_leaf h_fold h_kept h_now v_played v_depth v_prefix h_moveMade h_out v_written h_later v_laters v_blockMany a1 r_1 hf_2) [0, 1] rfl rfl rfl [.inr 0, .inr 1, .inl 2, .inl 3] rfl rfl cd_X12_isMove rfl im_X12_isMove se_X12_isMove ml_X12_239 0 rfl rfl rfl rfl rfl ⟨(Nat.le_of_ble_eq_true rfl), (Nat.le_of_ble_eq_true rfl)⟩ rfl (Nat.le_of_ble_eq_true rfl) dX12_wins_2 ⟨(Nat.le_of_ble_eq_true rfl), (Nat.le_of_ble_eq_true rfl)⟩ (fun H locs hP hD hS => ?_)
  refine lv_if_ne (tgt := 10) hx hb dX12_wins_5 (by decide) (fun c_3 => ?_) (fun c_3 => ?_)
  · have hf := iff_ hf c_3
    refine lv_aload_n hx hb dX12_wins_10 rfl (lv_at hl 0 rfl) ?_
    refine lv_iload_n hx hb dX12_wins_11 rfl (lv_at hl 1 rfl) ?_
    obtain ⟨r_4, hf_5, hf⟩ := obind hf
    refine gcV (rest := []) (wn := [oX12 h h_tape v_taped h_text v_size v_token v_begin v_end v_tokens v_code v_faultKind v_faultPlace v_names v_blocks h_nameCode h_nameBlock h_blockMany h_blockAll v_nodeMany v_top h_kind h_left h_right v_namesWas v_blocksWas v_nodeManyWas v_topWas h_nameCodeWas h_nameBlockWas h_blockManyWas h_blockAllWas h_kindWas h_leftWas h_rightWas h_wait h_done v_waits v_dones v_opened h_leaf h_fold h_kept h_now v_played v_depth v_prefix h_moveMade h_out v_written h_later v_laters, aI g h_blockMany 6 v_blockMany, aZ g h_kept 8192 v_kept, aZ g h_blockAll 6 v_blockAll]) X hP hD hS hl (c_X12_isWon l g h h_tape v_taped h_text v_size v_token v_begin v_end v_tokens v_code v_faultKind v_faultPlace v_names v_blocks h_nameCode h_nameBlock h_blockMany h_blockAll v_nodeMany v_top h_kind h_left h_right v_namesWas v_blocksWas v_nodeManyWas v_topWas h_nameCodeWas h_nameBlockWas h_blockManyWas h_blockAllWas h_kindWas h_leftWas h_rightWas h_wait h_done v_waits v_dones v_opened h_leaf h_fold h_kept h_now v_played v_depth v_prefix h_moveMade h_out v_written h_later v_laters v_blockMany v_kept v_blockAll a1 r_4 hf_5) [0, 1, 2, 3] rfl rfl rfl [.inr 0, .inr 1, .inr 2, .inr 3] rfl rfl cd_X12_isWon rfl im_X12_isWon se_X12_isWon ml_X12_242 0 rfl rfl rfl rfl rfl ⟨(Nat.le_of_ble_eq_true rfl), (Nat.le_of_ble_eq_true rfl)⟩ rfl (Nat.le_of_ble_eq_true rfl) dX12_wins_12 ⟨(Nat.le_of_ble_eq_true rfl), (Nat.le_of_ble_eq_true rfl)⟩ (fun H locs hP hD hS => ?_)
    refine lv_if_eq (tgt := 22) hx hb dX12_wins_15 (by decide) (fun c_6 => ?_) (fun c_6 => ?_)
    · have hf := ift hf c_6
      refine lv_iconst (v := 0) hx hb dX12_wins_22 (by decide) ?_
      cases hf
      exact ret_i X hAe hP hD hS rfl dX12_wins_23
    · have hf := iff_ hf c_6
      refine lv_iconst (v := 1) hx hb dX12_wins_18 (by decide) ?_
      refine lv_goto (tgt := 23) hx hb dX12_wins_19 (by decide) ?_
      cases hf
      exact ret_i X hAe hP hD hS rfl dX12_wins_23
  · have hf := ift hf c_3
    refine lv_iconst (v := (-1)) hx hb dX12_wins_8 (by decide) ?_
    cases hf
    exact ret_i X hAe hP hD hS rfl dX12_wins_9
def lp_X12_moves_17 (v_blocks_17f : Int32) (v_played_17f : Int32) (v_depth_17f : Int32) (v_prefix_17f : Int32) (v_blockMany_17f : Nat → Int32) (v_kept_17f : Nat → Int32) (v_blockAll_17f : Nat → Int32) : Nat → Int32 → Int32 → (Int32 → Int32 → Option (Int32)) → Option (Int32)
  | 0, _, _, _ => none
  | n_17 + 1, x1_17, x2_17, K_17 =>
    (f_X12_isMove v_blocks_17f v_played_17f v_blockMany_17f x2_17).bind fun r_2 =>
    if b2i r_2 = 0 then
    K_17 x1_17 x2_17
    else
    ((f_X12_isWon v_played_17f v_depth_17f v_prefix_17f v_blockMany_17f v_kept_17f v_blockAll_17f x2_17).bind fun r_5 =>
    if b2i r_5 = 0 then
    lp_X12_moves_17 v_blocks_17f v_played_17f v_depth_17f v_prefix_17f v_blockMany_17f v_kept_17f v_blockAll_17f n_17 (x1_17 + (0 : Int32)) (x2_17 + 1) K_17
    else
    lp_X12_moves_17 v_blocks_17f v_played_17f v_depth_17f v_prefix_17f v_blockMany_17f v_kept_17f v_blockAll_17f n_17 (x1_17 + (1 : Int32)) (x2_17 + 1) K_17)
def f_X12_moves (v_blocks : Int32) (v_played : Int32) (v_depth : Int32) (v_prefix : Int32) (v_blockMany : Nat → Int32) (v_kept : Nat → Int32) (v_blockAll : Nat → Int32) : Option (Int32) :=
  if v_played = v_blocks then
  some (-1)
  else
  (lp_X12_moves_17 v_blocks v_played v_depth v_prefix v_blockMany v_kept v_blockAll 5000 0 0 (fun x1_17_8 x2_17_9 => 
  some x1_17_8))
set_option maxHeartbeats 4000000 in
set_option maxRecDepth 100000 in
theorem c_X12_moves (l : Launch) (g : GT) (h : Nat) (h_tape : Nat) (v_taped : Int32) (h_text : Nat) (v_size : Int32) (v_token : Int32) (v_begin : Int32) (v_end : Int32) (v_tokens : Int32) (v_code : Int32) (v_faultKind : Int32) (v_faultPlace : Int32) (v_names : Int32) (v_blocks : Int32) (h_nameCode : Nat) (h_nameBlock : Nat) (h_blockMany : Nat) (h_blockAll : Nat) (v_nodeMany : Int32) (v_top : Int32) (h_kind : Nat) (h_left : Nat) (h_right : Nat) (v_namesWas : Int32) (v_blocksWas : Int32) (v_nodeManyWas : Int32) (v_topWas : Int32) (h_nameCodeWas : Nat) (h_nameBlockWas : Nat) (h_blockManyWas : Nat) (h_blockAllWas : Nat) (h_kindWas : Nat) (h_leftWas : Nat) (h_rightWas : Nat) (h_wait : Nat) (h_done : Nat) (v_waits : Int32) (v_dones : Int32) (v_opened : Int32) (h_leaf : Nat) (h_fold : Nat) (h_kept : Nat) (h_now : Nat) (v_played : Int32) (v_depth : Int32) (v_prefix : Int32) (h_moveMade : Nat) (h_out : Nat) (v_written : Int32) (h_later : Nat) (v_laters : Int32) (v_blockMany : Nat → Int32) (v_kept : Nat → Int32) (v_blockAll : Nat → Int32) (r_ : Int32) (hf : f_X12_moves v_blocks v_played v_depth v_prefix v_blockMany v_kept v_blockAll = some r_) : Con l g yX12_moves cX12_moves 3 (some .int) ({ frames := 2, cells := 0, slots := 0, locals := 41 }) [.ref h] [oX12 h h_tape v_taped h_text v_size v_token v_begin v_end v_tokens v_code v_faultKind v_faultPlace v_names v_blocks h_nameCode h_nameBlock h_blockMany h_blockAll v_nodeMany v_top h_kind h_left h_right v_namesWas v_blocksWas v_nodeManyWas v_topWas h_nameCodeWas h_nameBlockWas h_blockManyWas h_blockAllWas h_kindWas h_leftWas h_rightWas h_wait h_done v_waits v_dones v_opened h_leaf h_fold h_kept h_now v_played v_depth v_prefix h_moveMade h_out v_written h_later v_laters, aI g h_blockMany 6 v_blockMany, aZ g h_kept 8192 v_kept, aZ g h_blockAll 6 v_blockAll] (some (.int r_)) [oX12 h h_tape v_taped h_text v_size v_token v_begin v_end v_tokens v_code v_faultKind v_faultPlace v_names v_blocks h_nameCode h_nameBlock h_blockMany h_blockAll v_nodeMany v_top h_kind h_left h_right v_namesWas v_blocksWas v_nodeManyWas v_topWas h_nameCodeWas h_nameBlockWas h_blockManyWas h_blockAllWas h_kindWas h_leftWas h_rightWas h_wait h_done v_waits v_dones v_opened h_leaf h_fold h_kept h_now v_played v_depth v_prefix h_moveMade h_out v_written h_later v_laters, aI g h_blockMany 6 v_blockMany, aZ g h_kept 8192 v_kept, aZ g h_blockAll 6 v_blockAll] := by
  refine Con.of (by decide) (Nat.le_of_ble_eq_true rfl) ?_
  intro p e s m below meth c A ls hAe X hP hD hS hl
  obtain ⟨hx, hb, hml, hr, hown, hts, hlk, hnm, hA, hG, hZ⟩ := id X
  have hown : s.vm.findClass RX12 = some m.cls := hown
  have hl : lv_has ls 3 [(0, .ref h)] := hl
  unfold f_X12_moves at hf
  refine lv_aload_n hx hb dX12_moves_0 rfl (lv_at hl 0 rfl) ?_
  refine gf_X12_222 X rfl hP 0 rfl rfl dX12_moves_1 ?_
  refine lv_aload_n hx hb dX12_moves_4 rfl (lv_at hl 0 rfl) ?_
  refine gf_X12_165 X rfl hP 0 rfl rfl dX12_moves_5 ?_
  refine lv_icmp_ne (tgt := 13) hx hb dX12_moves_8 (by decide) (fun c_1 => ?_) (fun c_1 => ?_)
  · have hf := iff_ hf c_1
    refine lv_iconst (v := 0) hx hb dX12_moves_13 (by decide) ?_
    refine lv_istore_n (lv' := [(1, .int 0), (0, .ref h)]) hx hb dX12_moves_14 rfl hl (by decide) rfl (fun ls hl => ?_)
    refine lv_iconst (v := 0) hx hb dX12_moves_15 (by decide) ?_
    refine lv_istore_n (lv' := [(2, .int 0), (1, .int 0), (0, .ref h)]) hx hb dX12_moves_16 rfl hl (by decide) rfl (fun ls hl => ?_)
    have L_17 : ∀ (n : Nat) (x1_17 : Int32) (x2_17 : Int32) (H : Heap) (locs : List Loc) (ls : Array Slot) (K_17 : Int32 → Int32 → Option (Int32)), va_P g.1 vwCl [oX12 h h_tape v_taped h_text v_size v_token v_begin v_end v_tokens v_code v_faultKind v_faultPlace v_names v_blocks h_nameCode h_nameBlock h_blockMany h_blockAll v_nodeMany v_top h_kind h_left h_right v_namesWas v_blocksWas v_nodeManyWas v_topWas h_nameCodeWas h_nameBlockWas h_blockManyWas h_blockAllWas h_kindWas h_leftWas h_rightWas h_wait h_done v_waits v_dones v_opened h_leaf h_fold h_kept h_now v_played v_depth v_prefix h_moveMade h_out v_written h_later v_laters, aI g h_blockMany 6 v_blockMany, aZ g h_kept 8192 v_kept, aZ g h_blockAll 6 v_blockAll] H → va_D A [oX12 h h_tape v_taped h_text v_size v_token v_begin v_end v_tokens v_code v_faultKind v_faultPlace v_names v_blocks h_nameCode h_nameBlock h_blockMany h_blockAll v_nodeMany v_top h_kind h_left h_right v_namesWas v_blocksWas v_nodeManyWas v_topWas h_nameCodeWas h_nameBlockWas h_blockManyWas h_blockAllWas h_kindWas h_leftWas h_rightWas h_wait h_done v_waits v_dones v_opened h_leaf h_fold h_kept h_now v_played v_depth v_prefix h_moveMade h_out v_written h_later v_laters, aI g h_blockMany 6 v_blockMany, aZ g h_kept 8192 v_kept, aZ g h_blockAll 6 v_blockAll] → va_S A s.heap H locs → lv_has ls 3 [(0, .ref h), (1, .int x1_17), (2, .int x2_17)] → (∀ (z_x1_17 : Int32) (z_x2_17 : Int32) (H : Heap) (locs : List Loc) (ls : Array Slot), va_P g.1 vwCl [oX12 h h_tape v_taped h_text v_size v_token v_begin v_end v_tokens v_code v_faultKind v_faultPlace v_names v_blocks h_nameCode h_nameBlock h_blockMany h_blockAll v_nodeMany v_top h_kind h_left h_right v_namesWas v_blocksWas v_nodeManyWas v_topWas h_nameCodeWas h_nameBlockWas h_blockManyWas h_blockAllWas h_kindWas h_leftWas h_rightWas h_wait h_done v_waits v_dones v_opened h_leaf h_fold h_kept h_now v_played v_depth v_prefix h_moveMade h_out v_written h_later v_laters, aI g h_blockMany 6 v_blockMany, aZ g h_kept 8192 v_kept, aZ g h_blockAll 6 v_blockAll] H → va_D A [oX12 h h_tape v_taped h_text v_size v_token v_begin v_end v_tokens v_code v_faultKind v_faultPlace v_names v_blocks h_nameCode h_nameBlock h_blockMany h_blockAll v_nodeMany v_top h_kind h_left h_right v_namesWas v_blocksWas v_nodeManyWas v_topWas h_nameCodeWas h_nameBlockWas h_blockManyWas h_blockAllWas h_kindWas h_leftWas h_rightWas h_wait h_done v_waits v_dones v_opened h_leaf h_fold h_kept h_now v_played v_depth v_prefix h_moveMade h_out v_written h_later v_laters, aI g h_blockMany 6 v_blockMany, aZ g h_kept 8192 v_kept, aZ g h_blockAll 6 v_blockAll] → va_S A s.heap H locs → lv_has ls 3 [(0, .ref h), (1, .int z_x1_17), (2, .int z_x2_17)] → K_17 z_x1_17 z_x2_17 = some r_ → W p l e ({ frames := 2, cells := 0, slots := 0, locals := 41 }) s m [.ref h].toArray below meth c H locs 0 0 (MQ below (fun _ => QW g [oX12 h h_tape v_taped h_text v_size v_token v_begin v_end v_tokens v_code v_faultKind v_faultPlace v_names v_blocks h_nameCode h_nameBlock h_blockMany h_blockAll v_nodeMany v_top h_kind h_left h_right v_namesWas v_blocksWas v_nodeManyWas v_topWas h_nameCodeWas h_nameBlockWas h_blockManyWas h_blockAllWas h_kindWas h_leftWas h_rightWas h_wait h_done v_waits v_dones v_opened h_leaf h_fold h_kept h_now v_played v_depth v_prefix h_moveMade h_out v_written h_later v_laters, aI g h_blockMany 6 v_blockMany, aZ g h_kept 8192 v_kept, aZ g h_blockAll 6 v_blockAll] s.heap.size (some (.int r_)) [oX12 h h_tape v_taped h_text v_size v_token v_begin v_end v_tokens v_code v_faultKind v_faultPlace v_names v_blocks h_nameCode h_nameBlock h_blockMany h_blockAll v_nodeMany v_top h_kind h_left h_right v_namesWas v_blocksWas v_nodeManyWas v_topWas h_nameCodeWas h_nameBlockWas h_blockManyWas h_blockAllWas h_kindWas h_leftWas h_rightWas h_wait h_done v_waits v_dones v_opened h_leaf h_fold h_kept h_now v_played v_depth v_prefix h_moveMade h_out v_written h_later v_laters, aI g h_blockMany 6 v_blockMany, aZ g h_kept 8192 v_kept, aZ g h_blockAll 6 v_blockAll]) [.ref h].toArray s 0 0 (va_A [oX12 h h_tape v_taped h_text v_size v_token v_begin v_end v_tokens v_code v_faultKind v_faultPlace v_names v_blocks h_nameCode h_nameBlock h_blockMany h_blockAll v_nodeMany v_top h_kind h_left h_right v_namesWas v_blocksWas v_nodeManyWas v_topWas h_nameCodeWas h_nameBlockWas h_blockManyWas h_blockAllWas h_kindWas h_leftWas h_rightWas h_wait h_done v_waits v_dones v_opened h_leaf h_fold h_kept h_now v_played v_depth v_prefix h_moveMade h_out v_written h_later v_laters, aI g h_blockMany 6 v_blockMany, aZ g h_kept 8192 v_kept, aZ g h_blockAll 6 v_blockAll] s.heap.size)) (F0 m 47 ls [])) → lp_X12_moves_17 v_blocks v_played v_depth v_prefix v_blockMany v_kept v_blockAll n x1_17 x2_17 K_17 = some r_ → W p l e ({ frames := 2, cells := 0, slots := 0, locals := 41 }) s m [.ref h].toArray below meth c H locs 0 0 (MQ below (fun _ => QW g [oX12 h h_tape v_taped h_text v_size v_token v_begin v_end v_tokens v_code v_faultKind v_faultPlace v_names v_blocks h_nameCode h_nameBlock h_blockMany h_blockAll v_nodeMany v_top h_kind h_left h_right v_namesWas v_blocksWas v_nodeManyWas v_topWas h_nameCodeWas h_nameBlockWas h_blockManyWas h_blockAllWas h_kindWas h_leftWas h_rightWas h_wait h_done v_waits v_dones v_opened h_leaf h_fold h_kept h_now v_played v_depth v_prefix h_moveMade h_out v_written h_later v_laters, aI g h_blockMany 6 v_blockMany, aZ g h_kept 8192 v_kept, aZ g h_blockAll 6 v_blockAll] s.heap.size (some (.int r_)) [oX12 h h_tape v_taped h_text v_size v_token v_begin v_end v_tokens v_code v_faultKind v_faultPlace v_names v_blocks h_nameCode h_nameBlock h_blockMany h_blockAll v_nodeMany v_top h_kind h_left h_right v_namesWas v_blocksWas v_nodeManyWas v_topWas h_nameCodeWas h_nameBlockWas h_blockManyWas h_blockAllWas h_kindWas h_leftWas h_rightWas h_wait h_done v_waits v_dones v_opened h_leaf h_fold h_kept h_now v_played v_depth v_prefix h_moveMade h_out v_written h_later v_laters, aI g h_blockMany 6 v_blockMany, aZ g h_kept 8192 v_kept, aZ g h_blockAll 6 v_blockAll]) [.ref h].toArray s 0 0 (va_A [oX12 h h_tape v_taped h_text v_size v_token v_begin v_end v_tokens v_code v_faultKind v_faultPlace v_names v_blocks h_nameCode h_nameBlock h_blockMany h_blockAll v_nodeMany v_top h_kind h_left h_right v_namesWas v_blocksWas v_nodeManyWas v_topWas h_nameCodeWas h_nameBlockWas h_blockManyWas h_blockAllWas h_kindWas h_leftWas h_rightWas h_wait h_done v_waits v_dones v_opened h_leaf h_fold h_kept h_now v_played v_depth v_prefix h_moveMade h_out v_written h_later v_laters, aI g h_blockMany 6 v_blockMany, aZ g h_kept 8192 v_kept, aZ g h_blockAll 6 v_blockAll] s.heap.size)) (F0 m 17 ls []) := by
      intro n
      induction n with
      | zero =>
        intro x1_17 x2_17 H locs ls K_17 hP hD hS hl hk hf
        have hf : (none : Option (Int32)) = some _ := hf
        cases hf
      | succ n_17 ih_17 =>
        intro x1_17 x2_17 H locs ls K_17 hP hD hS hl hk_17 hf
        refine lv_aload_n hx hb dX12_moves_17 rfl (lv_at hl 0 rfl) ?_
        refine lv_iload_n hx hb dX12_moves_18 rfl (lv_at hl 2 rfl) ?_
        obtain ⟨r_10, hf_11, hf⟩ := obind hf
        refine gcV (rest := []) (wn := [oX12 h h_tape v_taped h_text v_size v_token v_begin v_end v_tokens v_code v_faultKind v_faultPlace v_names v_blocks h_nameCode h_nameBlock h_blockMany h_blockAll v_nodeMany v_top h_kind h_left h_right v_namesWas v_blocksWas v_nodeManyWas v_topWas h_nameCodeWas h_nameBlockWas h_blockManyWas h_blockAllWas h_kindWas h_leftWas h_rightWas h_wait h_done v_waits v_dones v_opened h_leaf h_fold h_kept h_now v_played v_depth v_prefix h_moveMade h_out v_written h_later v_laters, aI g h_blockMany 6 v_blockMany, aZ g h_kept 8192 v_kept, aZ g h_blockAll 6 v_blockAll]) X hP hD hS hl (c_X12_isMove l g h h_tape v_taped h_text v_size v_token v_begin v_end v_tokens v_code v_faultKind v_faultPlace v_names v_blocks h_nameCode h_nameBlock h_blockMany h_blockAll v_nodeMany v_top h_kind h_left h_right v_namesWas v_blocksWas v_nodeManyWas v_topWas h_nameCodeWas h_nameBlockWas h_blockManyWas h_blockAllWas h_kindWas h_leftWas h_rightWas h_wait h_done v_waits v_dones v_opened h_leaf h_fold h_kept h_now v_played v_depth v_prefix h_moveMade h_out v_written h_later v_laters v_blockMany x2_17 r_10 hf_11) [0, 1] rfl rfl rfl [.inr 0, .inr 1, .inl 2, .inl 3] rfl rfl cd_X12_isMove rfl im_X12_isMove se_X12_isMove ml_X12_239 0 rfl rfl rfl rfl rfl ⟨(Nat.le_of_ble_eq_true rfl), (Nat.le_of_ble_eq_true rfl)⟩ rfl (Nat.le_of_ble_eq_true rfl) dX12_moves_19 ⟨(Nat.le_of_ble_eq_true rfl), (Nat.le_of_ble_eq_true rfl)⟩ (fun H locs hP hD hS => ?_)
        refine lv_if_eq (tgt := 47) hx hb dX12_moves_22 (by decide) (fun c_12 => ?_) (fun c_12 => ?_)
        · have hf := ift hf c_12
          exact hk_17 x1_17 x2_17 H locs ls hP hD hS (lv_sub hl [0, 1, 2] rfl) hf
        · have hf := iff_ hf c_12
          refine lv_iload_n hx hb dX12_moves_25 rfl (lv_at hl 1 rfl) ?_
          refine lv_aload_n hx hb dX12_moves_26 rfl (lv_at hl 0 rfl) ?_
          refine lv_iload_n hx hb dX12_moves_27 rfl (lv_at hl 2 rfl) ?_
          obtain ⟨r_13, hf_14, hf⟩ := obind hf
          refine gcV (rest := [.int x1_17]) (wn := [oX12 h h_tape v_taped h_text v_size v_token v_begin v_end v_tokens v_code v_faultKind v_faultPlace v_names v_blocks h_nameCode h_nameBlock h_blockMany h_blockAll v_nodeMany v_top h_kind h_left h_right v_namesWas v_blocksWas v_nodeManyWas v_topWas h_nameCodeWas h_nameBlockWas h_blockManyWas h_blockAllWas h_kindWas h_leftWas h_rightWas h_wait h_done v_waits v_dones v_opened h_leaf h_fold h_kept h_now v_played v_depth v_prefix h_moveMade h_out v_written h_later v_laters, aI g h_blockMany 6 v_blockMany, aZ g h_kept 8192 v_kept, aZ g h_blockAll 6 v_blockAll]) X hP hD hS hl (c_X12_isWon l g h h_tape v_taped h_text v_size v_token v_begin v_end v_tokens v_code v_faultKind v_faultPlace v_names v_blocks h_nameCode h_nameBlock h_blockMany h_blockAll v_nodeMany v_top h_kind h_left h_right v_namesWas v_blocksWas v_nodeManyWas v_topWas h_nameCodeWas h_nameBlockWas h_blockManyWas h_blockAllWas h_kindWas h_leftWas h_rightWas h_wait h_done v_waits v_dones v_opened h_leaf h_fold h_kept h_now v_played v_depth v_prefix h_moveMade h_out v_written h_later v_laters v_blockMany v_kept v_blockAll x2_17 r_13 hf_14) [0, 1, 2, 3] rfl rfl rfl [.inr 0, .inr 1, .inr 2, .inr 3] rfl rfl cd_X12_isWon rfl im_X12_isWon se_X12_isWon ml_X12_242 0 rfl rfl rfl rfl rfl ⟨(Nat.le_of_ble_eq_true rfl), (Nat.le_of_ble_eq_true rfl)⟩ rfl (Nat.le_of_ble_eq_true rfl) dX12_moves_28 ⟨(Nat.le_of_ble_eq_true rfl), (Nat.le_of_ble_eq_true rfl)⟩ (fun H locs hP hD hS => ?_)
          refine lv_if_eq (tgt := 38) hx hb dX12_moves_31 (by decide) (fun c_15 => ?_) (fun c_15 => ?_)
          · have hf := ift hf c_15
            refine lv_iconst (v := 0) hx hb dX12_moves_38 (by decide) ?_
            refine lv_iadd hx hb dX12_moves_39 ?_
            refine lv_istore_n (lv' := [(1, .int (x1_17 + (0 : Int32))), (0, .ref h), (2, .int x2_17)]) hx hb dX12_moves_40 rfl hl (by decide) rfl (fun ls hl => ?_)
            refine lv_iinc (v := x2_17 + 1) (lv' := [(2, .int (x2_17 + 1)), (1, .int (x1_17 + (0 : Int32))), (0, .ref h)]) hx hb dX12_moves_41 hl (k := 2) rfl rfl (by decide) rfl (fun ls hl => ?_)
            refine lv_goto (tgt := 17) hx hb dX12_moves_44 (by decide) ?_
            exact ih_17 (x1_17 + (0 : Int32)) (x2_17 + 1) H locs ls K_17 hP hD hS (lv_sub hl [2, 1, 0] rfl) hk_17 hf
          · have hf := iff_ hf c_15
            refine lv_iconst (v := 1) hx hb dX12_moves_34 (by decide) ?_
            refine lv_goto (tgt := 39) hx hb dX12_moves_35 (by decide) ?_
            refine lv_iadd hx hb dX12_moves_39 ?_
            refine lv_istore_n (lv' := [(1, .int (x1_17 + (1 : Int32))), (0, .ref h), (2, .int x2_17)]) hx hb dX12_moves_40 rfl hl (by decide) rfl (fun ls hl => ?_)
            refine lv_iinc (v := x2_17 + 1) (lv' := [(2, .int (x2_17 + 1)), (1, .int (x1_17 + (1 : Int32))), (0, .ref h)]) hx hb dX12_moves_41 hl (k := 2) rfl rfl (by decide) rfl (fun ls hl => ?_)
            refine lv_goto (tgt := 17) hx hb dX12_moves_44 (by decide) ?_
            exact ih_17 (x1_17 + (1 : Int32)) (x2_17 + 1) H locs ls K_17 hP hD hS (lv_sub hl [2, 1, 0] rfl) hk_17 hf
    refine L_17 _ _ _ _ _ ls _ hP hD hS (lv_sub hl [2, 1, 0] rfl) (fun x1_17_8 x2_17_9 H locs ls hP hD hS hl hf => ?_) hf
    refine lv_iload_n hx hb dX12_moves_47 rfl (lv_at hl 1 rfl) ?_
    cases hf
    exact ret_i X hAe hP hD hS rfl dX12_moves_48
  · have hf := ift hf c_1
    refine lv_iconst (v := (-1)) hx hb dX12_moves_11 (by decide) ?_
    cases hf
    exact ret_i X hAe hP hD hS rfl dX12_moves_12
def f_X12_play (v_blocks : Int32) (v_played : Int32) (v_depth : Int32) (v_prefix : Int32) (v_blockMany : Nat → Int32) (v_moveMade : Nat → Int32) (a1 : Int32) : Option (Bool × Int32 × Int32 × Int32 × (Nat → Int32)) :=
  (f_X12_isMove v_blocks v_played v_blockMany a1).bind fun r_1 =>
  if b2i r_1 = 0 then
  some (false, v_played, v_depth, v_prefix, v_moveMade)
  else
  (if ix v_played 6 then
  if ix v_played 6 then
  if ix v_played 6 then
  some (true, v_played + (1 : Int32), v_depth + (v_blockMany v_played.toNatClampNeg), (v_prefix <<< ((v_blockMany v_played.toNatClampNeg) &&& 31)) ||| a1, upd v_moveMade v_played.toNatClampNeg a1)
  else none
  else none
  else none)
set_option maxHeartbeats 4000000 in
set_option maxRecDepth 100000 in
theorem c_X12_play (l : Launch) (g : GT) (h : Nat) (h_tape : Nat) (v_taped : Int32) (h_text : Nat) (v_size : Int32) (v_token : Int32) (v_begin : Int32) (v_end : Int32) (v_tokens : Int32) (v_code : Int32) (v_faultKind : Int32) (v_faultPlace : Int32) (v_names : Int32) (v_blocks : Int32) (h_nameCode : Nat) (h_nameBlock : Nat) (h_blockMany : Nat) (h_blockAll : Nat) (v_nodeMany : Int32) (v_top : Int32) (h_kind : Nat) (h_left : Nat) (h_right : Nat) (v_namesWas : Int32) (v_blocksWas : Int32) (v_nodeManyWas : Int32) (v_topWas : Int32) (h_nameCodeWas : Nat) (h_nameBlockWas : Nat) (h_blockManyWas : Nat) (h_blockAllWas : Nat) (h_kindWas : Nat) (h_leftWas : Nat) (h_rightWas : Nat) (h_wait : Nat) (h_done : Nat) (v_waits : Int32) (v_dones : Int32) (v_opened : Int32) (h_leaf : Nat) (h_fold : Nat) (h_kept : Nat) (h_now : Nat) (v_played : Int32) (v_depth : Int32) (v_prefix : Int32) (h_moveMade : Nat) (h_out : Nat) (v_written : Int32) (h_later : Nat) (v_laters : Int32) (v_blockMany : Nat → Int32) (v_moveMade : Nat → Int32) (a1 : Int32) (r_ : Bool) (u_played : Int32) (u_depth : Int32) (u_prefix : Int32) (u_moveMade : Nat → Int32) (hf : f_X12_play v_blocks v_played v_depth v_prefix v_blockMany v_moveMade a1 = some (r_, u_played, u_depth, u_prefix, u_moveMade)) : Con l g yX12_play cX12_play 2 (some .boolean) ({ frames := 1, cells := 0, slots := 0, locals := 21 }) [.ref h, .int a1] [oX12 h h_tape v_taped h_text v_size v_token v_begin v_end v_tokens v_code v_faultKind v_faultPlace v_names v_blocks h_nameCode h_nameBlock h_blockMany h_blockAll v_nodeMany v_top h_kind h_left h_right v_namesWas v_blocksWas v_nodeManyWas v_topWas h_nameCodeWas h_nameBlockWas h_blockManyWas h_blockAllWas h_kindWas h_leftWas h_rightWas h_wait h_done v_waits v_dones v_opened h_leaf h_fold h_kept h_now v_played v_depth v_prefix h_moveMade h_out v_written h_later v_laters, aI g h_blockMany 6 v_blockMany, aI g h_moveMade 6 v_moveMade] (some (.int (b2i r_))) [oX12 h h_tape v_taped h_text v_size v_token v_begin v_end v_tokens v_code v_faultKind v_faultPlace v_names v_blocks h_nameCode h_nameBlock h_blockMany h_blockAll v_nodeMany v_top h_kind h_left h_right v_namesWas v_blocksWas v_nodeManyWas v_topWas h_nameCodeWas h_nameBlockWas h_blockManyWas h_blockAllWas h_kindWas h_leftWas h_rightWas h_wait h_done v_waits v_dones v_opened h_leaf h_fold h_kept h_now u_played u_depth u_prefix h_moveMade h_out v_written h_later v_laters, aI g h_blockMany 6 v_blockMany, aI g h_moveMade 6 u_moveMade] := by
  refine Con.of (by decide) (Nat.le_of_ble_eq_true rfl) ?_
  intro p e s m below meth c A ls hAe X hP hD hS hl
  obtain ⟨hx, hb, hml, hr, hown, hts, hlk, hnm, hA, hG, hZ⟩ := id X
  have hown : s.vm.findClass RX12 = some m.cls := hown
  have hl : lv_has ls 2 [(0, .ref h), (1, .int a1)] := hl
  unfold f_X12_play at hf
  refine lv_aload_n hx hb dX12_play_0 rfl (lv_at hl 0 rfl) ?_
  refine lv_iload_n hx hb dX12_play_1 rfl (lv_at hl 1 rfl) ?_
  obtain ⟨r_1, hf_2, hf⟩ := obind hf
  refine gcV (rest := []) (wn := [oX12 h h_tape v_taped h_text v_size v_token v_begin v_end v_tokens v_code v_faultKind v_faultPlace v_names v_blocks h_nameCode h_nameBlock h_blockMany h_blockAll v_nodeMany v_top h_kind h_left h_right v_namesWas v_blocksWas v_nodeManyWas v_topWas h_nameCodeWas h_nameBlockWas h_blockManyWas h_blockAllWas h_kindWas h_leftWas h_rightWas h_wait h_done v_waits v_dones v_opened h_leaf h_fold h_kept h_now v_played v_depth v_prefix h_moveMade h_out v_written h_later v_laters, aI g h_blockMany 6 v_blockMany, aI g h_moveMade 6 v_moveMade]) X hP hD hS hl (c_X12_isMove l g h h_tape v_taped h_text v_size v_token v_begin v_end v_tokens v_code v_faultKind v_faultPlace v_names v_blocks h_nameCode h_nameBlock h_blockMany h_blockAll v_nodeMany v_top h_kind h_left h_right v_namesWas v_blocksWas v_nodeManyWas v_topWas h_nameCodeWas h_nameBlockWas h_blockManyWas h_blockAllWas h_kindWas h_leftWas h_rightWas h_wait h_done v_waits v_dones v_opened h_leaf h_fold h_kept h_now v_played v_depth v_prefix h_moveMade h_out v_written h_later v_laters v_blockMany a1 r_1 hf_2) [0, 1] rfl rfl rfl [.inr 0, .inr 1, .inl 2] rfl rfl cd_X12_isMove rfl im_X12_isMove se_X12_isMove ml_X12_239 0 rfl rfl rfl rfl rfl ⟨(Nat.le_of_ble_eq_true rfl), (Nat.le_of_ble_eq_true rfl)⟩ rfl (Nat.le_of_ble_eq_true rfl) dX12_play_2 ⟨(Nat.le_of_ble_eq_true rfl), (Nat.le_of_ble_eq_true rfl)⟩ (fun H locs hP hD hS => ?_)
  refine lv_if_ne (tgt := 10) hx hb dX12_play_5 (by decide) (fun c_3 => ?_) (fun c_3 => ?_)
  · have hf := iff_ hf c_3
    refine lv_aload_n hx hb dX12_play_10 rfl (lv_at hl 0 rfl) ?_
    refine gf_X12_82 X rfl hP 0 rfl rfl dX12_play_11 ?_
    refine lv_aload_n hx hb dX12_play_14 rfl (lv_at hl 0 rfl) ?_
    refine gf_X12_222 X rfl hP 0 rfl rfl dX12_play_15 ?_
    refine lv_iload_n hx hb dX12_play_18 rfl (lv_at hl 1 rfl) ?_
    obtain ⟨hi_4, hf⟩ := ifs hf
    refine va_iast (D := g.1) hx hb hG.1 hP hD hS 2 1 rfl rfl (ix_in hi_4) dX12_play_19 (fun H locs hP hD hS => ?_)
    have hP : va_P g.1 vwCl [oX12 h h_tape v_taped h_text v_size v_token v_begin v_end v_tokens v_code v_faultKind v_faultPlace v_names v_blocks h_nameCode h_nameBlock h_blockMany h_blockAll v_nodeMany v_top h_kind h_left h_right v_namesWas v_blocksWas v_nodeManyWas v_topWas h_nameCodeWas h_nameBlockWas h_blockManyWas h_blockAllWas h_kindWas h_leftWas h_rightWas h_wait h_done v_waits v_dones v_opened h_leaf h_fold h_kept h_now v_played v_depth v_prefix h_moveMade h_out v_written h_later v_laters, aI g h_blockMany 6 v_blockMany, aI g h_moveMade 6 (upd v_moveMade v_played.toNatClampNeg a1)] H := hP
    have hD : va_D A [oX12 h h_tape v_taped h_text v_size v_token v_begin v_end v_tokens v_code v_faultKind v_faultPlace v_names v_blocks h_nameCode h_nameBlock h_blockMany h_blockAll v_nodeMany v_top h_kind h_left h_right v_namesWas v_blocksWas v_nodeManyWas v_topWas h_nameCodeWas h_nameBlockWas h_blockManyWas h_blockAllWas h_kindWas h_leftWas h_rightWas h_wait h_done v_waits v_dones v_opened h_leaf h_fold h_kept h_now v_played v_depth v_prefix h_moveMade h_out v_written h_later v_laters, aI g h_blockMany 6 v_blockMany, aI g h_moveMade 6 (upd v_moveMade v_played.toNatClampNeg a1)] := hD
    refine lv_aload_n hx hb dX12_play_20 rfl (lv_at hl 0 rfl) ?_
    refine lv_aload_n hx hb dX12_play_21 rfl (lv_at hl 0 rfl) ?_
    refine gf_X12_228 X rfl hP 0 rfl rfl dX12_play_22 ?_
    refine lv_aload_n hx hb dX12_play_25 rfl (lv_at hl 0 rfl) ?_
    refine gf_X12_27 X rfl hP 0 rfl rfl dX12_play_26 ?_
    refine lv_aload_n hx hb dX12_play_29 rfl (lv_at hl 0 rfl) ?_
    refine gf_X12_222 X rfl hP 0 rfl rfl dX12_play_30 ?_
    obtain ⟨hi_5, hf⟩ := ifs hf
    refine va_iald (D := g.1) hx hb hG.1 hP 1 1 rfl rfl (ix_in hi_5) dX12_play_33 ?_
    refine lv_ishl hx hb dX12_play_34 ?_
    refine lv_iload_n hx hb dX12_play_35 rfl (lv_at hl 1 rfl) ?_
    refine lv_ior hx hb dX12_play_36 ?_
    refine pf_X12_228 X rfl hP hD hS 0 rfl (Nat.le_of_ble_eq_true rfl) dX12_play_37 (fun H locs hP hD hS => ?_)
    have hP : va_P g.1 vwCl [oX12 h h_tape v_taped h_text v_size v_token v_begin v_end v_tokens v_code v_faultKind v_faultPlace v_names v_blocks h_nameCode h_nameBlock h_blockMany h_blockAll v_nodeMany v_top h_kind h_left h_right v_namesWas v_blocksWas v_nodeManyWas v_topWas h_nameCodeWas h_nameBlockWas h_blockManyWas h_blockAllWas h_kindWas h_leftWas h_rightWas h_wait h_done v_waits v_dones v_opened h_leaf h_fold h_kept h_now v_played v_depth ((v_prefix <<< ((v_blockMany v_played.toNatClampNeg) &&& 31)) ||| a1) h_moveMade h_out v_written h_later v_laters, aI g h_blockMany 6 v_blockMany, aI g h_moveMade 6 (upd v_moveMade v_played.toNatClampNeg a1)] H := hP
    have hD : va_D A [oX12 h h_tape v_taped h_text v_size v_token v_begin v_end v_tokens v_code v_faultKind v_faultPlace v_names v_blocks h_nameCode h_nameBlock h_blockMany h_blockAll v_nodeMany v_top h_kind h_left h_right v_namesWas v_blocksWas v_nodeManyWas v_topWas h_nameCodeWas h_nameBlockWas h_blockManyWas h_blockAllWas h_kindWas h_leftWas h_rightWas h_wait h_done v_waits v_dones v_opened h_leaf h_fold h_kept h_now v_played v_depth ((v_prefix <<< ((v_blockMany v_played.toNatClampNeg) &&& 31)) ||| a1) h_moveMade h_out v_written h_later v_laters, aI g h_blockMany 6 v_blockMany, aI g h_moveMade 6 (upd v_moveMade v_played.toNatClampNeg a1)] := hD
    refine lv_aload_n hx hb dX12_play_40 rfl (lv_at hl 0 rfl) ?_
    refine lv_aload_n hx hb dX12_play_41 rfl (lv_at hl 0 rfl) ?_
    refine gf_X12_225 X rfl hP 0 rfl rfl dX12_play_42 ?_
    refine lv_aload_n hx hb dX12_play_45 rfl (lv_at hl 0 rfl) ?_
    refine gf_X12_27 X rfl hP 0 rfl rfl dX12_play_46 ?_
    refine lv_aload_n hx hb dX12_play_49 rfl (lv_at hl 0 rfl) ?_
    refine gf_X12_222 X rfl hP 0 rfl rfl dX12_play_50 ?_
    obtain ⟨hi_6, hf⟩ := ifs hf
    refine va_iald (D := g.1) hx hb hG.1 hP 1 1 rfl rfl (ix_in hi_6) dX12_play_53 ?_
    refine lv_iadd hx hb dX12_play_54 ?_
    refine pf_X12_225 X rfl hP hD hS 0 rfl (Nat.le_of_ble_eq_true rfl) dX12_play_55 (fun H locs hP hD hS => ?_)
    have hP : va_P g.1 vwCl [oX12 h h_tape v_taped h_text v_size v_token v_begin v_end v_tokens v_code v_faultKind v_faultPlace v_names v_blocks h_nameCode h_nameBlock h_blockMany h_blockAll v_nodeMany v_top h_kind h_left h_right v_namesWas v_blocksWas v_nodeManyWas v_topWas h_nameCodeWas h_nameBlockWas h_blockManyWas h_blockAllWas h_kindWas h_leftWas h_rightWas h_wait h_done v_waits v_dones v_opened h_leaf h_fold h_kept h_now v_played (v_depth + (v_blockMany v_played.toNatClampNeg)) ((v_prefix <<< ((v_blockMany v_played.toNatClampNeg) &&& 31)) ||| a1) h_moveMade h_out v_written h_later v_laters, aI g h_blockMany 6 v_blockMany, aI g h_moveMade 6 (upd v_moveMade v_played.toNatClampNeg a1)] H := hP
    have hD : va_D A [oX12 h h_tape v_taped h_text v_size v_token v_begin v_end v_tokens v_code v_faultKind v_faultPlace v_names v_blocks h_nameCode h_nameBlock h_blockMany h_blockAll v_nodeMany v_top h_kind h_left h_right v_namesWas v_blocksWas v_nodeManyWas v_topWas h_nameCodeWas h_nameBlockWas h_blockManyWas h_blockAllWas h_kindWas h_leftWas h_rightWas h_wait h_done v_waits v_dones v_opened h_leaf h_fold h_kept h_now v_played (v_depth + (v_blockMany v_played.toNatClampNeg)) ((v_prefix <<< ((v_blockMany v_played.toNatClampNeg) &&& 31)) ||| a1) h_moveMade h_out v_written h_later v_laters, aI g h_blockMany 6 v_blockMany, aI g h_moveMade 6 (upd v_moveMade v_played.toNatClampNeg a1)] := hD
    refine lv_aload_n hx hb dX12_play_58 rfl (lv_at hl 0 rfl) ?_
    refine lv_aload_n hx hb dX12_play_59 rfl (lv_at hl 0 rfl) ?_
    refine gf_X12_222 X rfl hP 0 rfl rfl dX12_play_60 ?_
    refine lv_iconst (v := 1) hx hb dX12_play_63 (by decide) ?_
    refine lv_iadd hx hb dX12_play_64 ?_
    refine pf_X12_222 X rfl hP hD hS 0 rfl (Nat.le_of_ble_eq_true rfl) dX12_play_65 (fun H locs hP hD hS => ?_)
    have hP : va_P g.1 vwCl [oX12 h h_tape v_taped h_text v_size v_token v_begin v_end v_tokens v_code v_faultKind v_faultPlace v_names v_blocks h_nameCode h_nameBlock h_blockMany h_blockAll v_nodeMany v_top h_kind h_left h_right v_namesWas v_blocksWas v_nodeManyWas v_topWas h_nameCodeWas h_nameBlockWas h_blockManyWas h_blockAllWas h_kindWas h_leftWas h_rightWas h_wait h_done v_waits v_dones v_opened h_leaf h_fold h_kept h_now (v_played + (1 : Int32)) (v_depth + (v_blockMany v_played.toNatClampNeg)) ((v_prefix <<< ((v_blockMany v_played.toNatClampNeg) &&& 31)) ||| a1) h_moveMade h_out v_written h_later v_laters, aI g h_blockMany 6 v_blockMany, aI g h_moveMade 6 (upd v_moveMade v_played.toNatClampNeg a1)] H := hP
    have hD : va_D A [oX12 h h_tape v_taped h_text v_size v_token v_begin v_end v_tokens v_code v_faultKind v_faultPlace v_names v_blocks h_nameCode h_nameBlock h_blockMany h_blockAll v_nodeMany v_top h_kind h_left h_right v_namesWas v_blocksWas v_nodeManyWas v_topWas h_nameCodeWas h_nameBlockWas h_blockManyWas h_blockAllWas h_kindWas h_leftWas h_rightWas h_wait h_done v_waits v_dones v_opened h_leaf h_fold h_kept h_now (v_played + (1 : Int32)) (v_depth + (v_blockMany v_played.toNatClampNeg)) ((v_prefix <<< ((v_blockMany v_played.toNatClampNeg) &&& 31)) ||| a1) h_moveMade h_out v_written h_later v_laters, aI g h_blockMany 6 v_blockMany, aI g h_moveMade 6 (upd v_moveMade v_played.toNatClampNeg a1)] := hD
    refine lv_iconst (v := 1) hx hb dX12_play_68 (by decide) ?_
    cases hf
    exact ret_z (v := true) X hAe hP hD hS rfl dX12_play_69
  · have hf := ift hf c_3
    refine lv_iconst (v := 0) hx hb dX12_play_8 (by decide) ?_
    cases hf
    exact ret_z (v := false) X hAe hP hD hS rfl dX12_play_9
def f_X12_undo (v_played : Int32) (v_depth : Int32) (v_prefix : Int32) (v_blockMany : Nat → Int32) (v_moveMade : Nat → Int32) : Option (Int32 × Int32 × Int32 × Int32) :=
  if v_played = 0 then
  some ((-1), v_played, v_depth, v_prefix)
  else
  (if ix (v_played - (1 : Int32)) 6 then
  if ix (v_played - (1 : Int32)) 6 then
  if ix (v_played - (1 : Int32)) 6 then
  some (v_moveMade (v_played - (1 : Int32)).toNatClampNeg, v_played - (1 : Int32), v_depth - (v_blockMany (v_played - (1 : Int32)).toNatClampNeg), v_prefix >>> ((v_blockMany (v_played - (1 : Int32)).toNatClampNeg) &&& 31))
  else none
  else none
  else none)
set_option maxHeartbeats 4000000 in
set_option maxRecDepth 100000 in
theorem c_X12_undo (l : Launch) (g : GT) (h : Nat) (h_tape : Nat) (v_taped : Int32) (h_text : Nat) (v_size : Int32) (v_token : Int32) (v_begin : Int32) (v_end : Int32) (v_tokens : Int32) (v_code : Int32) (v_faultKind : Int32) (v_faultPlace : Int32) (v_names : Int32) (v_blocks : Int32) (h_nameCode : Nat) (h_nameBlock : Nat) (h_blockMany : Nat) (h_blockAll : Nat) (v_nodeMany : Int32) (v_top : Int32) (h_kind : Nat) (h_left : Nat) (h_right : Nat) (v_namesWas : Int32) (v_blocksWas : Int32) (v_nodeManyWas : Int32) (v_topWas : Int32) (h_nameCodeWas : Nat) (h_nameBlockWas : Nat) (h_blockManyWas : Nat) (h_blockAllWas : Nat) (h_kindWas : Nat) (h_leftWas : Nat) (h_rightWas : Nat) (h_wait : Nat) (h_done : Nat) (v_waits : Int32) (v_dones : Int32) (v_opened : Int32) (h_leaf : Nat) (h_fold : Nat) (h_kept : Nat) (h_now : Nat) (v_played : Int32) (v_depth : Int32) (v_prefix : Int32) (h_moveMade : Nat) (h_out : Nat) (v_written : Int32) (h_later : Nat) (v_laters : Int32) (v_blockMany : Nat → Int32) (v_moveMade : Nat → Int32) (r_ : Int32) (u_played : Int32) (u_depth : Int32) (u_prefix : Int32) (hf : f_X12_undo v_played v_depth v_prefix v_blockMany v_moveMade = some (r_, u_played, u_depth, u_prefix)) : Con l g yX12_undo cX12_undo 1 (some .int) ({ frames := 0, cells := 0, slots := 0, locals := 0 }) [.ref h] [oX12 h h_tape v_taped h_text v_size v_token v_begin v_end v_tokens v_code v_faultKind v_faultPlace v_names v_blocks h_nameCode h_nameBlock h_blockMany h_blockAll v_nodeMany v_top h_kind h_left h_right v_namesWas v_blocksWas v_nodeManyWas v_topWas h_nameCodeWas h_nameBlockWas h_blockManyWas h_blockAllWas h_kindWas h_leftWas h_rightWas h_wait h_done v_waits v_dones v_opened h_leaf h_fold h_kept h_now v_played v_depth v_prefix h_moveMade h_out v_written h_later v_laters, aI g h_blockMany 6 v_blockMany, aI g h_moveMade 6 v_moveMade] (some (.int r_)) [oX12 h h_tape v_taped h_text v_size v_token v_begin v_end v_tokens v_code v_faultKind v_faultPlace v_names v_blocks h_nameCode h_nameBlock h_blockMany h_blockAll v_nodeMany v_top h_kind h_left h_right v_namesWas v_blocksWas v_nodeManyWas v_topWas h_nameCodeWas h_nameBlockWas h_blockManyWas h_blockAllWas h_kindWas h_leftWas h_rightWas h_wait h_done v_waits v_dones v_opened h_leaf h_fold h_kept h_now u_played u_depth u_prefix h_moveMade h_out v_written h_later v_laters, aI g h_blockMany 6 v_blockMany, aI g h_moveMade 6 v_moveMade] := by
  refine Con.of (by decide) (Nat.le_of_ble_eq_true rfl) ?_
  intro p e s m below meth c A ls hAe X hP hD hS hl
  obtain ⟨hx, hb, hml, hr, hown, hts, hlk, hnm, hA, hG, hZ⟩ := id X
  have hown : s.vm.findClass RX12 = some m.cls := hown
  have hl : lv_has ls 1 [(0, .ref h)] := hl
  unfold f_X12_undo at hf
  refine lv_aload_n hx hb dX12_undo_0 rfl (lv_at hl 0 rfl) ?_
  refine gf_X12_222 X rfl hP 0 rfl rfl dX12_undo_1 ?_
  refine lv_if_ne (tgt := 9) hx hb dX12_undo_4 (by decide) (fun c_1 => ?_) (fun c_1 => ?_)
  · have hf := iff_ hf c_1
    refine lv_aload_n hx hb dX12_undo_9 rfl (lv_at hl 0 rfl) ?_
    refine lv_aload_n hx hb dX12_undo_10 rfl (lv_at hl 0 rfl) ?_
    refine gf_X12_222 X rfl hP 0 rfl rfl dX12_undo_11 ?_
    refine lv_iconst (v := 1) hx hb dX12_undo_14 (by decide) ?_
    refine lv_isub hx hb dX12_undo_15 ?_
    refine pf_X12_222 X rfl hP hD hS 0 rfl (Nat.le_of_ble_eq_true rfl) dX12_undo_16 (fun H locs hP hD hS => ?_)
    have hP : va_P g.1 vwCl [oX12 h h_tape v_taped h_text v_size v_token v_begin v_end v_tokens v_code v_faultKind v_faultPlace v_names v_blocks h_nameCode h_nameBlock h_blockMany h_blockAll v_nodeMany v_top h_kind h_left h_right v_namesWas v_blocksWas v_nodeManyWas v_topWas h_nameCodeWas h_nameBlockWas h_blockManyWas h_blockAllWas h_kindWas h_leftWas h_rightWas h_wait h_done v_waits v_dones v_opened h_leaf h_fold h_kept h_now (v_played - (1 : Int32)) v_depth v_prefix h_moveMade h_out v_written h_later v_laters, aI g h_blockMany 6 v_blockMany, aI g h_moveMade 6 v_moveMade] H := hP
    have hD : va_D A [oX12 h h_tape v_taped h_text v_size v_token v_begin v_end v_tokens v_code v_faultKind v_faultPlace v_names v_blocks h_nameCode h_nameBlock h_blockMany h_blockAll v_nodeMany v_top h_kind h_left h_right v_namesWas v_blocksWas v_nodeManyWas v_topWas h_nameCodeWas h_nameBlockWas h_blockManyWas h_blockAllWas h_kindWas h_leftWas h_rightWas h_wait h_done v_waits v_dones v_opened h_leaf h_fold h_kept h_now (v_played - (1 : Int32)) v_depth v_prefix h_moveMade h_out v_written h_later v_laters, aI g h_blockMany 6 v_blockMany, aI g h_moveMade 6 v_moveMade] := hD
    refine lv_aload_n hx hb dX12_undo_19 rfl (lv_at hl 0 rfl) ?_
    refine lv_aload_n hx hb dX12_undo_20 rfl (lv_at hl 0 rfl) ?_
    refine gf_X12_228 X rfl hP 0 rfl rfl dX12_undo_21 ?_
    refine lv_aload_n hx hb dX12_undo_24 rfl (lv_at hl 0 rfl) ?_
    refine gf_X12_27 X rfl hP 0 rfl rfl dX12_undo_25 ?_
    refine lv_aload_n hx hb dX12_undo_28 rfl (lv_at hl 0 rfl) ?_
    refine gf_X12_222 X rfl hP 0 rfl rfl dX12_undo_29 ?_
    obtain ⟨hi_2, hf⟩ := ifs hf
    refine va_iald (D := g.1) hx hb hG.1 hP 1 1 rfl rfl (ix_in hi_2) dX12_undo_32 ?_
    refine lv_ishr hx hb dX12_undo_33 ?_
    refine pf_X12_228 X rfl hP hD hS 0 rfl (Nat.le_of_ble_eq_true rfl) dX12_undo_34 (fun H locs hP hD hS => ?_)
    have hP : va_P g.1 vwCl [oX12 h h_tape v_taped h_text v_size v_token v_begin v_end v_tokens v_code v_faultKind v_faultPlace v_names v_blocks h_nameCode h_nameBlock h_blockMany h_blockAll v_nodeMany v_top h_kind h_left h_right v_namesWas v_blocksWas v_nodeManyWas v_topWas h_nameCodeWas h_nameBlockWas h_blockManyWas h_blockAllWas h_kindWas h_leftWas h_rightWas h_wait h_done v_waits v_dones v_opened h_leaf h_fold h_kept h_now (v_played - (1 : Int32)) v_depth (v_prefix >>> ((v_blockMany (v_played - (1 : Int32)).toNatClampNeg) &&& 31)) h_moveMade h_out v_written h_later v_laters, aI g h_blockMany 6 v_blockMany, aI g h_moveMade 6 v_moveMade] H := hP
    have hD : va_D A [oX12 h h_tape v_taped h_text v_size v_token v_begin v_end v_tokens v_code v_faultKind v_faultPlace v_names v_blocks h_nameCode h_nameBlock h_blockMany h_blockAll v_nodeMany v_top h_kind h_left h_right v_namesWas v_blocksWas v_nodeManyWas v_topWas h_nameCodeWas h_nameBlockWas h_blockManyWas h_blockAllWas h_kindWas h_leftWas h_rightWas h_wait h_done v_waits v_dones v_opened h_leaf h_fold h_kept h_now (v_played - (1 : Int32)) v_depth (v_prefix >>> ((v_blockMany (v_played - (1 : Int32)).toNatClampNeg) &&& 31)) h_moveMade h_out v_written h_later v_laters, aI g h_blockMany 6 v_blockMany, aI g h_moveMade 6 v_moveMade] := hD
    refine lv_aload_n hx hb dX12_undo_37 rfl (lv_at hl 0 rfl) ?_
    refine lv_aload_n hx hb dX12_undo_38 rfl (lv_at hl 0 rfl) ?_
    refine gf_X12_225 X rfl hP 0 rfl rfl dX12_undo_39 ?_
    refine lv_aload_n hx hb dX12_undo_42 rfl (lv_at hl 0 rfl) ?_
    refine gf_X12_27 X rfl hP 0 rfl rfl dX12_undo_43 ?_
    refine lv_aload_n hx hb dX12_undo_46 rfl (lv_at hl 0 rfl) ?_
    refine gf_X12_222 X rfl hP 0 rfl rfl dX12_undo_47 ?_
    obtain ⟨hi_3, hf⟩ := ifs hf
    refine va_iald (D := g.1) hx hb hG.1 hP 1 1 rfl rfl (ix_in hi_3) dX12_undo_50 ?_
    refine lv_isub hx hb dX12_undo_51 ?_
    refine pf_X12_225 X rfl hP hD hS 0 rfl (Nat.le_of_ble_eq_true rfl) dX12_undo_52 (fun H locs hP hD hS => ?_)
    have hP : va_P g.1 vwCl [oX12 h h_tape v_taped h_text v_size v_token v_begin v_end v_tokens v_code v_faultKind v_faultPlace v_names v_blocks h_nameCode h_nameBlock h_blockMany h_blockAll v_nodeMany v_top h_kind h_left h_right v_namesWas v_blocksWas v_nodeManyWas v_topWas h_nameCodeWas h_nameBlockWas h_blockManyWas h_blockAllWas h_kindWas h_leftWas h_rightWas h_wait h_done v_waits v_dones v_opened h_leaf h_fold h_kept h_now (v_played - (1 : Int32)) (v_depth - (v_blockMany (v_played - (1 : Int32)).toNatClampNeg)) (v_prefix >>> ((v_blockMany (v_played - (1 : Int32)).toNatClampNeg) &&& 31)) h_moveMade h_out v_written h_later v_laters, aI g h_blockMany 6 v_blockMany, aI g h_moveMade 6 v_moveMade] H := hP
    have hD : va_D A [oX12 h h_tape v_taped h_text v_size v_token v_begin v_end v_tokens v_code v_faultKind v_faultPlace v_names v_blocks h_nameCode h_nameBlock h_blockMany h_blockAll v_nodeMany v_top h_kind h_left h_right v_namesWas v_blocksWas v_nodeManyWas v_topWas h_nameCodeWas h_nameBlockWas h_blockManyWas h_blockAllWas h_kindWas h_leftWas h_rightWas h_wait h_done v_waits v_dones v_opened h_leaf h_fold h_kept h_now (v_played - (1 : Int32)) (v_depth - (v_blockMany (v_played - (1 : Int32)).toNatClampNeg)) (v_prefix >>> ((v_blockMany (v_played - (1 : Int32)).toNatClampNeg) &&& 31)) h_moveMade h_out v_written h_later v_laters, aI g h_blockMany 6 v_blockMany, aI g h_moveMade 6 v_moveMade] := hD
    refine lv_aload_n hx hb dX12_undo_55 rfl (lv_at hl 0 rfl) ?_
    refine gf_X12_82 X rfl hP 0 rfl rfl dX12_undo_56 ?_
    refine lv_aload_n hx hb dX12_undo_59 rfl (lv_at hl 0 rfl) ?_
    refine gf_X12_222 X rfl hP 0 rfl rfl dX12_undo_60 ?_
    obtain ⟨hi_4, hf⟩ := ifs hf
    refine va_iald (D := g.1) hx hb hG.1 hP 2 1 rfl rfl (ix_in hi_4) dX12_undo_63 ?_
    cases hf
    exact ret_i X hAe hP hD hS rfl dX12_undo_64
  · have hf := ift hf c_1
    refine lv_iconst (v := (-1)) hx hb dX12_undo_7 (by decide) ?_
    cases hf
    exact ret_i X hAe hP hD hS rfl dX12_undo_8
def f_X12_fixed (v_names : Int32) (v_depth : Int32) (v_prefix : Int32) (v_leaf : Nat → Int32) (v_fold : Nat → Int32) (v_nameBlock : Nat → Int32) (v_blockAll : Nat → Int32) (v_kept : Nat → Int32) (a1 : Int32) (a2 : Int32) : Option (Int32 × (Nat → Int32)) :=
  if a1 < 0 then
  some ((-1), v_fold)
  else
  (if v_names ≤ a1 then
  some ((-1), v_fold)
  else
  (if a2 < 0 then
  some ((-1), v_fold)
  else
  (if a2 ≤ 1 then
  (if v_depth ≤ a1 then
  ((f_X12_folds v_names v_leaf v_fold v_nameBlock v_blockAll a1 a2 (-1)).bind fun v_fold_6 =>
  (f_X12_hand v_depth v_prefix).bind fun r_8 =>
  if ix r_8 8192 then
  if v_fold_6 r_8.toNatClampNeg = 0 then
  some (0, v_fold_6)
  else
  some (1, v_fold_6)
  else none)
  else
  (jn (κ := Int32 → Option (Int32 × (Nat → Int32))) (fun (s0_64 : Int32) =>
  if ix (((1 : Int32) <<< (v_depth &&& 31)) ||| s0_64) 8192 then
  if v_kept (((1 : Int32) <<< (v_depth &&& 31)) ||| s0_64).toNatClampNeg = 0 then
  some (0, v_fold)
  else
  some (1, v_fold)
  else none) fun j_64 =>
  if a2 = 1 then
  j_64 (v_prefix ||| ((1 : Int32) <<< (((v_depth - (1 : Int32)) - a1) &&& 31)))
  else
  j_64 (v_prefix &&& (((1 : Int32) <<< (((v_depth - (1 : Int32)) - a1) &&& 31)) ^^^ (-1 : Int32)))))
  else
  some ((-1), v_fold))))
set_option maxHeartbeats 4000000 in
set_option maxRecDepth 100000 in
theorem c_X12_fixed (l : Launch) (g : GT) (h : Nat) (h_tape : Nat) (v_taped : Int32) (h_text : Nat) (v_size : Int32) (v_token : Int32) (v_begin : Int32) (v_end : Int32) (v_tokens : Int32) (v_code : Int32) (v_faultKind : Int32) (v_faultPlace : Int32) (v_names : Int32) (v_blocks : Int32) (h_nameCode : Nat) (h_nameBlock : Nat) (h_blockMany : Nat) (h_blockAll : Nat) (v_nodeMany : Int32) (v_top : Int32) (h_kind : Nat) (h_left : Nat) (h_right : Nat) (v_namesWas : Int32) (v_blocksWas : Int32) (v_nodeManyWas : Int32) (v_topWas : Int32) (h_nameCodeWas : Nat) (h_nameBlockWas : Nat) (h_blockManyWas : Nat) (h_blockAllWas : Nat) (h_kindWas : Nat) (h_leftWas : Nat) (h_rightWas : Nat) (h_wait : Nat) (h_done : Nat) (v_waits : Int32) (v_dones : Int32) (v_opened : Int32) (h_leaf : Nat) (h_fold : Nat) (h_kept : Nat) (h_now : Nat) (v_played : Int32) (v_depth : Int32) (v_prefix : Int32) (h_moveMade : Nat) (h_out : Nat) (v_written : Int32) (h_later : Nat) (v_laters : Int32) (v_leaf : Nat → Int32) (v_fold : Nat → Int32) (v_nameBlock : Nat → Int32) (v_blockAll : Nat → Int32) (v_kept : Nat → Int32) (a1 : Int32) (a2 : Int32) (r_ : Int32) (u_fold : Nat → Int32) (hf : f_X12_fixed v_names v_depth v_prefix v_leaf v_fold v_nameBlock v_blockAll v_kept a1 a2 = some (r_, u_fold)) : Con l g yX12_fixed cX12_fixed 5 (some .int) ({ frames := 1, cells := 0, slots := 0, locals := 29 }) [.ref h, .int a1, .int a2] [oX12 h h_tape v_taped h_text v_size v_token v_begin v_end v_tokens v_code v_faultKind v_faultPlace v_names v_blocks h_nameCode h_nameBlock h_blockMany h_blockAll v_nodeMany v_top h_kind h_left h_right v_namesWas v_blocksWas v_nodeManyWas v_topWas h_nameCodeWas h_nameBlockWas h_blockManyWas h_blockAllWas h_kindWas h_leftWas h_rightWas h_wait h_done v_waits v_dones v_opened h_leaf h_fold h_kept h_now v_played v_depth v_prefix h_moveMade h_out v_written h_later v_laters, aZ g h_leaf 4096 v_leaf, aZ g h_fold 8192 v_fold, aI g h_nameBlock 12 v_nameBlock, aZ g h_blockAll 6 v_blockAll, aZ g h_kept 8192 v_kept] (some (.int r_)) [oX12 h h_tape v_taped h_text v_size v_token v_begin v_end v_tokens v_code v_faultKind v_faultPlace v_names v_blocks h_nameCode h_nameBlock h_blockMany h_blockAll v_nodeMany v_top h_kind h_left h_right v_namesWas v_blocksWas v_nodeManyWas v_topWas h_nameCodeWas h_nameBlockWas h_blockManyWas h_blockAllWas h_kindWas h_leftWas h_rightWas h_wait h_done v_waits v_dones v_opened h_leaf h_fold h_kept h_now v_played v_depth v_prefix h_moveMade h_out v_written h_later v_laters, aZ g h_leaf 4096 v_leaf, aZ g h_fold 8192 u_fold, aI g h_nameBlock 12 v_nameBlock, aZ g h_blockAll 6 v_blockAll, aZ g h_kept 8192 v_kept] := by
  refine Con.of (by decide) (Nat.le_of_ble_eq_true rfl) ?_
  intro p e s m below meth c A ls hAe X hP hD hS hl
  obtain ⟨hx, hb, hml, hr, hown, hts, hlk, hnm, hA, hG, hZ⟩ := id X
  have hown : s.vm.findClass RX12 = some m.cls := hown
  have hl : lv_has ls 5 [(0, .ref h), (1, .int a1), (2, .int a2)] := hl
  unfold f_X12_fixed at hf
  refine lv_iload_n hx hb dX12_fixed_0 rfl (lv_at hl 1 rfl) ?_
  refine lv_if_lt (tgt := 21) hx hb dX12_fixed_1 (by decide) (fun c_1 => ?_) (fun c_1 => ?_)
  · have hf := ift hf c_1
    refine lv_iconst (v := (-1)) hx hb dX12_fixed_21 (by decide) ?_
    cases hf
    exact ret_i X hAe hP hD hS rfl dX12_fixed_22
  · have hf := iff_ hf c_1
    refine lv_iload_n hx hb dX12_fixed_4 rfl (lv_at hl 1 rfl) ?_
    refine lv_aload_n hx hb dX12_fixed_5 rfl (lv_at hl 0 rfl) ?_
    refine gf_X12_159 X rfl hP 0 rfl rfl dX12_fixed_6 ?_
    refine lv_icmp_ge (tgt := 21) hx hb dX12_fixed_9 (by decide) (fun c_2 => ?_) (fun c_2 => ?_)
    · have hf := ift hf c_2
      refine lv_iconst (v := (-1)) hx hb dX12_fixed_21 (by decide) ?_
      cases hf
      exact ret_i X hAe hP hD hS rfl dX12_fixed_22
    · have hf := iff_ hf c_2
      refine lv_iload_n hx hb dX12_fixed_12 rfl (lv_at hl 2 rfl) ?_
      refine lv_if_lt (tgt := 21) hx hb dX12_fixed_13 (by decide) (fun c_3 => ?_) (fun c_3 => ?_)
      · have hf := ift hf c_3
        refine lv_iconst (v := (-1)) hx hb dX12_fixed_21 (by decide) ?_
        cases hf
        exact ret_i X hAe hP hD hS rfl dX12_fixed_22
      · have hf := iff_ hf c_3
        refine lv_iload_n hx hb dX12_fixed_16 rfl (lv_at hl 2 rfl) ?_
        refine lv_iconst (v := 1) hx hb dX12_fixed_17 (by decide) ?_
        refine lv_icmp_le (tgt := 23) hx hb dX12_fixed_18 (by decide) (fun c_4 => ?_) (fun c_4 => ?_)
        · have hf := ift hf c_4
          refine lv_iload_n hx hb dX12_fixed_23 rfl (lv_at hl 1 rfl) ?_
          refine lv_aload_n hx hb dX12_fixed_24 rfl (lv_at hl 0 rfl) ?_
          refine gf_X12_225 X rfl hP 0 rfl rfl dX12_fixed_25 ?_
          refine lv_icmp_ge (tgt := 89) hx hb dX12_fixed_28 (by decide) (fun c_5 => ?_) (fun c_5 => ?_)
          · have hf := ift hf c_5
            refine lv_aload_n hx hb dX12_fixed_89 rfl (lv_at hl 0 rfl) ?_
            refine lv_iload_n hx hb dX12_fixed_90 rfl (lv_at hl 1 rfl) ?_
            refine lv_iload_n hx hb dX12_fixed_91 rfl (lv_at hl 2 rfl) ?_
            refine lv_iconst (v := (-1)) hx hb dX12_fixed_92 (by decide) ?_
            obtain ⟨v_fold_6, hf_7, hf⟩ := obind hf
            refine gcV (rest := []) (wn := [oX12 h h_tape v_taped h_text v_size v_token v_begin v_end v_tokens v_code v_faultKind v_faultPlace v_names v_blocks h_nameCode h_nameBlock h_blockMany h_blockAll v_nodeMany v_top h_kind h_left h_right v_namesWas v_blocksWas v_nodeManyWas v_topWas h_nameCodeWas h_nameBlockWas h_blockManyWas h_blockAllWas h_kindWas h_leftWas h_rightWas h_wait h_done v_waits v_dones v_opened h_leaf h_fold h_kept h_now v_played v_depth v_prefix h_moveMade h_out v_written h_later v_laters, aZ g h_leaf 4096 v_leaf, aZ g h_fold 8192 v_fold_6, aI g h_nameBlock 12 v_nameBlock, aZ g h_blockAll 6 v_blockAll, aZ g h_kept 8192 v_kept]) X hP hD hS hl (c_X12_folds l g h h_tape v_taped h_text v_size v_token v_begin v_end v_tokens v_code v_faultKind v_faultPlace v_names v_blocks h_nameCode h_nameBlock h_blockMany h_blockAll v_nodeMany v_top h_kind h_left h_right v_namesWas v_blocksWas v_nodeManyWas v_topWas h_nameCodeWas h_nameBlockWas h_blockManyWas h_blockAllWas h_kindWas h_leftWas h_rightWas h_wait h_done v_waits v_dones v_opened h_leaf h_fold h_kept h_now v_played v_depth v_prefix h_moveMade h_out v_written h_later v_laters v_leaf v_fold v_nameBlock v_blockAll a1 a2 (-1) v_fold_6 hf_7) [0, 1, 2, 3, 4] rfl rfl rfl [.inr 0, .inr 1, .inr 2, .inr 3, .inr 4, .inl 5] rfl rfl cd_X12_folds rfl im_X12_folds se_X12_folds ml_X12_100 0 rfl rfl rfl rfl rfl ⟨(Nat.le_of_ble_eq_true rfl), (Nat.le_of_ble_eq_true rfl)⟩ rfl (Nat.le_of_ble_eq_true rfl) dX12_fixed_93 ⟨(Nat.le_of_ble_eq_true rfl), (Nat.le_of_ble_eq_true rfl)⟩ (fun H locs hP hD hS => ?_)
            refine lv_aload_n hx hb dX12_fixed_96 rfl (lv_at hl 0 rfl) ?_
            refine gf_X12_73 X rfl hP 0 rfl rfl dX12_fixed_97 ?_
            refine lv_aload_n hx hb dX12_fixed_100 rfl (lv_at hl 0 rfl) ?_
            obtain ⟨r_8, hf_9, hf⟩ := obind hf
            refine gcV (rest := [.ref h_fold]) (wn := [oX12 h h_tape v_taped h_text v_size v_token v_begin v_end v_tokens v_code v_faultKind v_faultPlace v_names v_blocks h_nameCode h_nameBlock h_blockMany h_blockAll v_nodeMany v_top h_kind h_left h_right v_namesWas v_blocksWas v_nodeManyWas v_topWas h_nameCodeWas h_nameBlockWas h_blockManyWas h_blockAllWas h_kindWas h_leftWas h_rightWas h_wait h_done v_waits v_dones v_opened h_leaf h_fold h_kept h_now v_played v_depth v_prefix h_moveMade h_out v_written h_later v_laters, aZ g h_leaf 4096 v_leaf, aZ g h_fold 8192 v_fold_6, aI g h_nameBlock 12 v_nameBlock, aZ g h_blockAll 6 v_blockAll, aZ g h_kept 8192 v_kept]) X hP hD hS hl (c_X12_hand l g h h_tape v_taped h_text v_size v_token v_begin v_end v_tokens v_code v_faultKind v_faultPlace v_names v_blocks h_nameCode h_nameBlock h_blockMany h_blockAll v_nodeMany v_top h_kind h_left h_right v_namesWas v_blocksWas v_nodeManyWas v_topWas h_nameCodeWas h_nameBlockWas h_blockManyWas h_blockAllWas h_kindWas h_leftWas h_rightWas h_wait h_done v_waits v_dones v_opened h_leaf h_fold h_kept h_now v_played v_depth v_prefix h_moveMade h_out v_written h_later v_laters r_8 hf_9) [0] rfl rfl rfl [.inr 0, .inl 1, .inl 2, .inl 3, .inl 4, .inl 5] rfl rfl cd_X12_hand rfl im_X12_hand se_X12_hand ml_X12_235 0 rfl rfl rfl rfl rfl ⟨(Nat.le_of_ble_eq_true rfl), (Nat.le_of_ble_eq_true rfl)⟩ rfl (Nat.le_of_ble_eq_true rfl) dX12_fixed_101 ⟨(Nat.le_of_ble_eq_true rfl), (Nat.le_of_ble_eq_true rfl)⟩ (fun H locs hP hD hS => ?_)
            obtain ⟨hi_10, hf⟩ := ifs hf
            refine va_zald (D := g.1) hx hb hG.1 hP 2 3 rfl rfl (ix_in hi_10) dX12_fixed_104 ?_
            refine lv_if_eq (tgt := 112) hx hb dX12_fixed_105 (by decide) (fun c_11 => ?_) (fun c_11 => ?_)
            · have hf := ift hf c_11
              refine lv_iconst (v := 0) hx hb dX12_fixed_112 (by decide) ?_
              cases hf
              exact ret_i X hAe hP hD hS rfl dX12_fixed_113
            · have hf := iff_ hf c_11
              refine lv_iconst (v := 1) hx hb dX12_fixed_108 (by decide) ?_
              refine lv_goto (tgt := 113) hx hb dX12_fixed_109 (by decide) ?_
              cases hf
              exact ret_i X hAe hP hD hS rfl dX12_fixed_113
          · have hf := iff_ hf c_5
            refine lv_iconst (v := 1) hx hb dX12_fixed_31 (by decide) ?_
            refine lv_aload_n hx hb dX12_fixed_32 rfl (lv_at hl 0 rfl) ?_
            refine gf_X12_225 X rfl hP 0 rfl rfl dX12_fixed_33 ?_
            refine lv_iconst (v := 1) hx hb dX12_fixed_36 (by decide) ?_
            refine lv_isub hx hb dX12_fixed_37 ?_
            refine lv_iload_n hx hb dX12_fixed_38 rfl (lv_at hl 1 rfl) ?_
            refine lv_isub hx hb dX12_fixed_39 ?_
            refine lv_ishl hx hb dX12_fixed_40 ?_
            refine lv_istore_n (lv' := [(3, .int ((1 : Int32) <<< (((v_depth - (1 : Int32)) - a1) &&& 31))), (0, .ref h), (1, .int a1), (2, .int a2)]) hx hb dX12_fixed_41 rfl hl (by decide) rfl (fun ls hl => ?_)
            refine lv_iload_n hx hb dX12_fixed_42 rfl (lv_at hl 3 rfl) ?_
            refine lv_iconst (v := 1) hx hb dX12_fixed_43 (by decide) ?_
            refine jn_elim hf (fun j_64 hj_64 hf => ?_)
            have J_64 : ∀ (s0_64 : Int32) (H : Heap) (locs : List Loc) (ls : Array Slot), va_P g.1 vwCl [oX12 h h_tape v_taped h_text v_size v_token v_begin v_end v_tokens v_code v_faultKind v_faultPlace v_names v_blocks h_nameCode h_nameBlock h_blockMany h_blockAll v_nodeMany v_top h_kind h_left h_right v_namesWas v_blocksWas v_nodeManyWas v_topWas h_nameCodeWas h_nameBlockWas h_blockManyWas h_blockAllWas h_kindWas h_leftWas h_rightWas h_wait h_done v_waits v_dones v_opened h_leaf h_fold h_kept h_now v_played v_depth v_prefix h_moveMade h_out v_written h_later v_laters, aZ g h_leaf 4096 v_leaf, aZ g h_fold 8192 v_fold, aI g h_nameBlock 12 v_nameBlock, aZ g h_blockAll 6 v_blockAll, aZ g h_kept 8192 v_kept] H → va_D A [oX12 h h_tape v_taped h_text v_size v_token v_begin v_end v_tokens v_code v_faultKind v_faultPlace v_names v_blocks h_nameCode h_nameBlock h_blockMany h_blockAll v_nodeMany v_top h_kind h_left h_right v_namesWas v_blocksWas v_nodeManyWas v_topWas h_nameCodeWas h_nameBlockWas h_blockManyWas h_blockAllWas h_kindWas h_leftWas h_rightWas h_wait h_done v_waits v_dones v_opened h_leaf h_fold h_kept h_now v_played v_depth v_prefix h_moveMade h_out v_written h_later v_laters, aZ g h_leaf 4096 v_leaf, aZ g h_fold 8192 v_fold, aI g h_nameBlock 12 v_nameBlock, aZ g h_blockAll 6 v_blockAll, aZ g h_kept 8192 v_kept] → va_S A s.heap H locs → lv_has ls 5 [(0, .ref h), (1, .int a1), (2, .int a2), (3, .int ((1 : Int32) <<< (((v_depth - (1 : Int32)) - a1) &&& 31)))] → j_64 s0_64 = some (r_, u_fold) → W p l e ({ frames := 1, cells := 0, slots := 0, locals := 29 }) s m [.ref h, .int a1, .int a2].toArray below meth c H locs 0 0 (MQ below (fun _ => QW g [oX12 h h_tape v_taped h_text v_size v_token v_begin v_end v_tokens v_code v_faultKind v_faultPlace v_names v_blocks h_nameCode h_nameBlock h_blockMany h_blockAll v_nodeMany v_top h_kind h_left h_right v_namesWas v_blocksWas v_nodeManyWas v_topWas h_nameCodeWas h_nameBlockWas h_blockManyWas h_blockAllWas h_kindWas h_leftWas h_rightWas h_wait h_done v_waits v_dones v_opened h_leaf h_fold h_kept h_now v_played v_depth v_prefix h_moveMade h_out v_written h_later v_laters, aZ g h_leaf 4096 v_leaf, aZ g h_fold 8192 v_fold, aI g h_nameBlock 12 v_nameBlock, aZ g h_blockAll 6 v_blockAll, aZ g h_kept 8192 v_kept] s.heap.size (some (.int r_)) [oX12 h h_tape v_taped h_text v_size v_token v_begin v_end v_tokens v_code v_faultKind v_faultPlace v_names v_blocks h_nameCode h_nameBlock h_blockMany h_blockAll v_nodeMany v_top h_kind h_left h_right v_namesWas v_blocksWas v_nodeManyWas v_topWas h_nameCodeWas h_nameBlockWas h_blockManyWas h_blockAllWas h_kindWas h_leftWas h_rightWas h_wait h_done v_waits v_dones v_opened h_leaf h_fold h_kept h_now v_played v_depth v_prefix h_moveMade h_out v_written h_later v_laters, aZ g h_leaf 4096 v_leaf, aZ g h_fold 8192 u_fold, aI g h_nameBlock 12 v_nameBlock, aZ g h_blockAll 6 v_blockAll, aZ g h_kept 8192 v_kept]) [.ref h, .int a1, .int a2].toArray s 0 0 (va_A [oX12 h h_tape v_taped h_text v_size v_token v_begin v_end v_tokens v_code v_faultKind v_faultPlace v_names v_blocks h_nameCode h_nameBlock h_blockMany h_blockAll v_nodeMany v_top h_kind h_left h_right v_namesWas v_blocksWas v_nodeManyWas v_topWas h_nameCodeWas h_nameBlockWas h_blockManyWas h_blockAllWas h_kindWas h_leftWas h_rightWas h_wait h_done v_waits v_dones v_opened h_leaf h_fold h_kept h_now v_played v_depth v_prefix h_moveMade h_out v_written h_later v_laters, aZ g h_leaf 4096 v_leaf, aZ g h_fold 8192 v_fold, aI g h_nameBlock 12 v_nameBlock, aZ g h_blockAll 6 v_blockAll, aZ g h_kept 8192 v_kept] s.heap.size)) (F0 m 64 ls [.int s0_64]) := by
              intro s0_64 H locs ls hP hD hS hl hf
              rw [hj_64] at hf
              refine lv_istore (lv' := [(4, .int s0_64), (0, .ref h), (1, .int a1), (2, .int a2), (3, .int ((1 : Int32) <<< (((v_depth - (1 : Int32)) - a1) &&& 31)))]) hx hb dX12_fixed_64 hl (by decide) rfl (fun ls hl => ?_)
              refine lv_aload_n hx hb dX12_fixed_66 rfl (lv_at hl 1 rfl) ?_
              refine gf_X12_76 X rfl hP 0 rfl rfl dX12_fixed_67 ?_
              refine lv_iconst (v := 1) hx hb dX12_fixed_70 (by decide) ?_
              refine lv_aload_n hx hb dX12_fixed_71 rfl (lv_at hl 1 rfl) ?_
              refine gf_X12_225 X rfl hP 0 rfl rfl dX12_fixed_72 ?_
              refine lv_ishl hx hb dX12_fixed_75 ?_
              refine lv_iload hx hb dX12_fixed_76 (lv_at hl 0 rfl) ?_
              refine lv_ior hx hb dX12_fixed_78 ?_
              obtain ⟨hi_12, hf⟩ := ifs hf
              refine va_zald (D := g.1) hx hb hG.1 hP 5 3 rfl rfl (ix_in hi_12) dX12_fixed_79 ?_
              refine lv_if_eq (tgt := 87) hx hb dX12_fixed_80 (by decide) (fun c_13 => ?_) (fun c_13 => ?_)
              · have hf := ift hf c_13
                refine lv_iconst (v := 0) hx hb dX12_fixed_87 (by decide) ?_
                cases hf
                exact ret_i X hAe hP hD hS rfl dX12_fixed_88
              · have hf := iff_ hf c_13
                refine lv_iconst (v := 1) hx hb dX12_fixed_83 (by decide) ?_
                refine lv_goto (tgt := 88) hx hb dX12_fixed_84 (by decide) ?_
                cases hf
                exact ret_i X hAe hP hD hS rfl dX12_fixed_88
            refine lv_icmp_ne (tgt := 56) hx hb dX12_fixed_44 (by decide) (fun c_14 => ?_) (fun c_14 => ?_)
            · have hf := iff_ hf c_14
              refine lv_aload_n hx hb dX12_fixed_56 rfl (lv_at hl 1 rfl) ?_
              refine gf_X12_228 X rfl hP 0 rfl rfl dX12_fixed_57 ?_
              refine lv_iload_n hx hb dX12_fixed_60 rfl (lv_at hl 0 rfl) ?_
              refine lv_iconst (v := (-1)) hx hb dX12_fixed_61 (by decide) ?_
              refine lv_ixor hx hb dX12_fixed_62 ?_
              refine lv_iand hx hb dX12_fixed_63 ?_
              exact J_64 (v_prefix &&& (((1 : Int32) <<< (((v_depth - (1 : Int32)) - a1) &&& 31)) ^^^ (-1 : Int32))) _ _ ls hP hD hS (lv_sub hl [1, 2, 3, 0] rfl) hf
            · have hf := ift hf c_14
              refine lv_aload_n hx hb dX12_fixed_47 rfl (lv_at hl 1 rfl) ?_
              refine gf_X12_228 X rfl hP 0 rfl rfl dX12_fixed_48 ?_
              refine lv_iload_n hx hb dX12_fixed_51 rfl (lv_at hl 0 rfl) ?_
              refine lv_ior hx hb dX12_fixed_52 ?_
              refine lv_goto (tgt := 64) hx hb dX12_fixed_53 (by decide) ?_
              exact J_64 (v_prefix ||| ((1 : Int32) <<< (((v_depth - (1 : Int32)) - a1) &&& 31))) _ _ ls hP hD hS (lv_sub hl [1, 2, 3, 0] rfl) hf
        · have hf := iff_ hf c_4
          refine lv_iconst (v := (-1)) hx hb dX12_fixed_21 (by decide) ?_
          cases hf
          exact ret_i X hAe hP hD hS rfl dX12_fixed_22
def f_X12_turned (v_names : Int32) (v_blocks : Int32) (v_played : Int32) (v_depth : Int32) (v_prefix : Int32) (v_leaf : Nat → Int32) (v_fold : Nat → Int32) (v_nameBlock : Nat → Int32) (v_blockAll : Nat → Int32) (a1 : Int32) : Option (Int32 × (Nat → Int32)) :=
  if a1 < v_played then
  some ((-1), v_fold)
  else
  (if a1 < v_blocks then
  ((f_X12_folds v_names v_leaf v_fold v_nameBlock v_blockAll (-1) 0 a1).bind fun v_fold_3 =>
  (f_X12_hand v_depth v_prefix).bind fun r_5 =>
  if ix r_5 8192 then
  if v_fold_3 r_5.toNatClampNeg = 0 then
  some (0, v_fold_3)
  else
  some (1, v_fold_3)
  else none)
  else
  some ((-1), v_fold))
set_option maxHeartbeats 4000000 in
set_option maxRecDepth 100000 in
theorem c_X12_turned (l : Launch) (g : GT) (h : Nat) (h_tape : Nat) (v_taped : Int32) (h_text : Nat) (v_size : Int32) (v_token : Int32) (v_begin : Int32) (v_end : Int32) (v_tokens : Int32) (v_code : Int32) (v_faultKind : Int32) (v_faultPlace : Int32) (v_names : Int32) (v_blocks : Int32) (h_nameCode : Nat) (h_nameBlock : Nat) (h_blockMany : Nat) (h_blockAll : Nat) (v_nodeMany : Int32) (v_top : Int32) (h_kind : Nat) (h_left : Nat) (h_right : Nat) (v_namesWas : Int32) (v_blocksWas : Int32) (v_nodeManyWas : Int32) (v_topWas : Int32) (h_nameCodeWas : Nat) (h_nameBlockWas : Nat) (h_blockManyWas : Nat) (h_blockAllWas : Nat) (h_kindWas : Nat) (h_leftWas : Nat) (h_rightWas : Nat) (h_wait : Nat) (h_done : Nat) (v_waits : Int32) (v_dones : Int32) (v_opened : Int32) (h_leaf : Nat) (h_fold : Nat) (h_kept : Nat) (h_now : Nat) (v_played : Int32) (v_depth : Int32) (v_prefix : Int32) (h_moveMade : Nat) (h_out : Nat) (v_written : Int32) (h_later : Nat) (v_laters : Int32) (v_leaf : Nat → Int32) (v_fold : Nat → Int32) (v_nameBlock : Nat → Int32) (v_blockAll : Nat → Int32) (a1 : Int32) (r_ : Int32) (u_fold : Nat → Int32) (hf : f_X12_turned v_names v_blocks v_played v_depth v_prefix v_leaf v_fold v_nameBlock v_blockAll a1 = some (r_, u_fold)) : Con l g yX12_turned cX12_turned 2 (some .int) ({ frames := 1, cells := 0, slots := 0, locals := 29 }) [.ref h, .int a1] [oX12 h h_tape v_taped h_text v_size v_token v_begin v_end v_tokens v_code v_faultKind v_faultPlace v_names v_blocks h_nameCode h_nameBlock h_blockMany h_blockAll v_nodeMany v_top h_kind h_left h_right v_namesWas v_blocksWas v_nodeManyWas v_topWas h_nameCodeWas h_nameBlockWas h_blockManyWas h_blockAllWas h_kindWas h_leftWas h_rightWas h_wait h_done v_waits v_dones v_opened h_leaf h_fold h_kept h_now v_played v_depth v_prefix h_moveMade h_out v_written h_later v_laters, aZ g h_leaf 4096 v_leaf, aZ g h_fold 8192 v_fold, aI g h_nameBlock 12 v_nameBlock, aZ g h_blockAll 6 v_blockAll] (some (.int r_)) [oX12 h h_tape v_taped h_text v_size v_token v_begin v_end v_tokens v_code v_faultKind v_faultPlace v_names v_blocks h_nameCode h_nameBlock h_blockMany h_blockAll v_nodeMany v_top h_kind h_left h_right v_namesWas v_blocksWas v_nodeManyWas v_topWas h_nameCodeWas h_nameBlockWas h_blockManyWas h_blockAllWas h_kindWas h_leftWas h_rightWas h_wait h_done v_waits v_dones v_opened h_leaf h_fold h_kept h_now v_played v_depth v_prefix h_moveMade h_out v_written h_later v_laters, aZ g h_leaf 4096 v_leaf, aZ g h_fold 8192 u_fold, aI g h_nameBlock 12 v_nameBlock, aZ g h_blockAll 6 v_blockAll] := by
  refine Con.of (by decide) (Nat.le_of_ble_eq_true rfl) ?_
  intro p e s m below meth c A ls hAe X hP hD hS hl
  obtain ⟨hx, hb, hml, hr, hown, hts, hlk, hnm, hA, hG, hZ⟩ := id X
  have hown : s.vm.findClass RX12 = some m.cls := hown
  have hl : lv_has ls 2 [(0, .ref h), (1, .int a1)] := hl
  unfold f_X12_turned at hf
  refine lv_iload_n hx hb dX12_turned_0 rfl (lv_at hl 1 rfl) ?_
  refine lv_aload_n hx hb dX12_turned_1 rfl (lv_at hl 0 rfl) ?_
  refine gf_X12_222 X rfl hP 0 rfl rfl dX12_turned_2 ?_
  refine lv_icmp_lt (tgt := 16) hx hb dX12_turned_5 (by decide) (fun c_1 => ?_) (fun c_1 => ?_)
  · have hf := ift hf c_1
    refine lv_iconst (v := (-1)) hx hb dX12_turned_16 (by decide) ?_
    cases hf
    exact ret_i X hAe hP hD hS rfl dX12_turned_17
  · have hf := iff_ hf c_1
    refine lv_iload_n hx hb dX12_turned_8 rfl (lv_at hl 1 rfl) ?_
    refine lv_aload_n hx hb dX12_turned_9 rfl (lv_at hl 0 rfl) ?_
    refine gf_X12_165 X rfl hP 0 rfl rfl dX12_turned_10 ?_
    refine lv_icmp_lt (tgt := 18) hx hb dX12_turned_13 (by decide) (fun c_2 => ?_) (fun c_2 => ?_)
    · have hf := ift hf c_2
      refine lv_aload_n hx hb dX12_turned_18 rfl (lv_at hl 0 rfl) ?_
      refine lv_iconst (v := (-1)) hx hb dX12_turned_19 (by decide) ?_
      refine lv_iconst (v := 0) hx hb dX12_turned_20 (by decide) ?_
      refine lv_iload_n hx hb dX12_turned_21 rfl (lv_at hl 1 rfl) ?_
      obtain ⟨v_fold_3, hf_4, hf⟩ := obind hf
      refine gcV (rest := []) (wn := [oX12 h h_tape v_taped h_text v_size v_token v_begin v_end v_tokens v_code v_faultKind v_faultPlace v_names v_blocks h_nameCode h_nameBlock h_blockMany h_blockAll v_nodeMany v_top h_kind h_left h_right v_namesWas v_blocksWas v_nodeManyWas v_topWas h_nameCodeWas h_nameBlockWas h_blockManyWas h_blockAllWas h_kindWas h_leftWas h_rightWas h_wait h_done v_waits v_dones v_opened h_leaf h_fold h_kept h_now v_played v_depth v_prefix h_moveMade h_out v_written h_later v_laters, aZ g h_leaf 4096 v_leaf, aZ g h_fold 8192 v_fold_3, aI g h_nameBlock 12 v_nameBlock, aZ g h_blockAll 6 v_blockAll]) X hP hD hS hl (c_X12_folds l g h h_tape v_taped h_text v_size v_token v_begin v_end v_tokens v_code v_faultKind v_faultPlace v_names v_blocks h_nameCode h_nameBlock h_blockMany h_blockAll v_nodeMany v_top h_kind h_left h_right v_namesWas v_blocksWas v_nodeManyWas v_topWas h_nameCodeWas h_nameBlockWas h_blockManyWas h_blockAllWas h_kindWas h_leftWas h_rightWas h_wait h_done v_waits v_dones v_opened h_leaf h_fold h_kept h_now v_played v_depth v_prefix h_moveMade h_out v_written h_later v_laters v_leaf v_fold v_nameBlock v_blockAll (-1) 0 a1 v_fold_3 hf_4) [0, 1, 2, 3, 4] rfl rfl rfl [.inr 0, .inr 1, .inr 2, .inr 3, .inr 4] rfl rfl cd_X12_folds rfl im_X12_folds se_X12_folds ml_X12_100 0 rfl rfl rfl rfl rfl ⟨(Nat.le_of_ble_eq_true rfl), (Nat.le_of_ble_eq_true rfl)⟩ rfl (Nat.le_of_ble_eq_true rfl) dX12_turned_22 ⟨(Nat.le_of_ble_eq_true rfl), (Nat.le_of_ble_eq_true rfl)⟩ (fun H locs hP hD hS => ?_)
      refine lv_aload_n hx hb dX12_turned_25 rfl (lv_at hl 0 rfl) ?_
      refine gf_X12_73 X rfl hP 0 rfl rfl dX12_turned_26 ?_
      refine lv_aload_n hx hb dX12_turned_29 rfl (lv_at hl 0 rfl) ?_
      obtain ⟨r_5, hf_6, hf⟩ := obind hf
      refine gcV (rest := [.ref h_fold]) (wn := [oX12 h h_tape v_taped h_text v_size v_token v_begin v_end v_tokens v_code v_faultKind v_faultPlace v_names v_blocks h_nameCode h_nameBlock h_blockMany h_blockAll v_nodeMany v_top h_kind h_left h_right v_namesWas v_blocksWas v_nodeManyWas v_topWas h_nameCodeWas h_nameBlockWas h_blockManyWas h_blockAllWas h_kindWas h_leftWas h_rightWas h_wait h_done v_waits v_dones v_opened h_leaf h_fold h_kept h_now v_played v_depth v_prefix h_moveMade h_out v_written h_later v_laters, aZ g h_leaf 4096 v_leaf, aZ g h_fold 8192 v_fold_3, aI g h_nameBlock 12 v_nameBlock, aZ g h_blockAll 6 v_blockAll]) X hP hD hS hl (c_X12_hand l g h h_tape v_taped h_text v_size v_token v_begin v_end v_tokens v_code v_faultKind v_faultPlace v_names v_blocks h_nameCode h_nameBlock h_blockMany h_blockAll v_nodeMany v_top h_kind h_left h_right v_namesWas v_blocksWas v_nodeManyWas v_topWas h_nameCodeWas h_nameBlockWas h_blockManyWas h_blockAllWas h_kindWas h_leftWas h_rightWas h_wait h_done v_waits v_dones v_opened h_leaf h_fold h_kept h_now v_played v_depth v_prefix h_moveMade h_out v_written h_later v_laters r_5 hf_6) [0] rfl rfl rfl [.inr 0, .inl 1, .inl 2, .inl 3, .inl 4] rfl rfl cd_X12_hand rfl im_X12_hand se_X12_hand ml_X12_235 0 rfl rfl rfl rfl rfl ⟨(Nat.le_of_ble_eq_true rfl), (Nat.le_of_ble_eq_true rfl)⟩ rfl (Nat.le_of_ble_eq_true rfl) dX12_turned_30 ⟨(Nat.le_of_ble_eq_true rfl), (Nat.le_of_ble_eq_true rfl)⟩ (fun H locs hP hD hS => ?_)
      obtain ⟨hi_7, hf⟩ := ifs hf
      refine va_zald (D := g.1) hx hb hG.1 hP 2 3 rfl rfl (ix_in hi_7) dX12_turned_33 ?_
      refine lv_if_eq (tgt := 41) hx hb dX12_turned_34 (by decide) (fun c_8 => ?_) (fun c_8 => ?_)
      · have hf := ift hf c_8
        refine lv_iconst (v := 0) hx hb dX12_turned_41 (by decide) ?_
        cases hf
        exact ret_i X hAe hP hD hS rfl dX12_turned_42
      · have hf := iff_ hf c_8
        refine lv_iconst (v := 1) hx hb dX12_turned_37 (by decide) ?_
        refine lv_goto (tgt := 42) hx hb dX12_turned_38 (by decide) ?_
        cases hf
        exact ret_i X hAe hP hD hS rfl dX12_turned_42
    · have hf := iff_ hf c_2
      refine lv_iconst (v := (-1)) hx hb dX12_turned_16 (by decide) ?_
      cases hf
      exact ret_i X hAe hP hD hS rfl dX12_turned_17
def lp_X12_models_16 (y2_16 : Int32) (v_names_16f : Int32) (v_depth_16f : Int32) (v_prefix_16f : Int32) (v_leaf_16f : Nat → Int32) : Nat → Int32 → Int32 → (Int32 → Int32 → Option (Int32)) → Option (Int32)
  | 0, _, _, _ => none
  | n_16 + 1, x1_16, x3_16, K_16 =>
    if y2_16 ≤ x3_16 then
    K_16 x1_16 x3_16
    else
    (if ix ((v_prefix_16f * y2_16) + x3_16) 4096 then
    if v_leaf_16f ((v_prefix_16f * y2_16) + x3_16).toNatClampNeg = 0 then
    lp_X12_models_16 y2_16 v_names_16f v_depth_16f v_prefix_16f v_leaf_16f n_16 (x1_16 + (0 : Int32)) (x3_16 + 1) K_16
    else
    lp_X12_models_16 y2_16 v_names_16f v_depth_16f v_prefix_16f v_leaf_16f n_16 (x1_16 + (1 : Int32)) (x3_16 + 1) K_16
    else none)
def f_X12_models (v_names : Int32) (v_depth : Int32) (v_prefix : Int32) (v_leaf : Nat → Int32) : Option (Int32) :=
  lp_X12_models_16 ((1 : Int32) <<< ((v_names - v_depth) &&& 31)) v_names v_depth v_prefix v_leaf 5000 0 0 (fun x1_16_4 x3_16_5 => 
  some x1_16_4)
set_option maxHeartbeats 4000000 in
set_option maxRecDepth 100000 in
theorem c_X12_models (l : Launch) (g : GT) (h : Nat) (h_tape : Nat) (v_taped : Int32) (h_text : Nat) (v_size : Int32) (v_token : Int32) (v_begin : Int32) (v_end : Int32) (v_tokens : Int32) (v_code : Int32) (v_faultKind : Int32) (v_faultPlace : Int32) (v_names : Int32) (v_blocks : Int32) (h_nameCode : Nat) (h_nameBlock : Nat) (h_blockMany : Nat) (h_blockAll : Nat) (v_nodeMany : Int32) (v_top : Int32) (h_kind : Nat) (h_left : Nat) (h_right : Nat) (v_namesWas : Int32) (v_blocksWas : Int32) (v_nodeManyWas : Int32) (v_topWas : Int32) (h_nameCodeWas : Nat) (h_nameBlockWas : Nat) (h_blockManyWas : Nat) (h_blockAllWas : Nat) (h_kindWas : Nat) (h_leftWas : Nat) (h_rightWas : Nat) (h_wait : Nat) (h_done : Nat) (v_waits : Int32) (v_dones : Int32) (v_opened : Int32) (h_leaf : Nat) (h_fold : Nat) (h_kept : Nat) (h_now : Nat) (v_played : Int32) (v_depth : Int32) (v_prefix : Int32) (h_moveMade : Nat) (h_out : Nat) (v_written : Int32) (h_later : Nat) (v_laters : Int32) (v_leaf : Nat → Int32) (r_ : Int32) (hf : f_X12_models v_names v_depth v_prefix v_leaf = some r_) : Con l g yX12_models cX12_models 4 (some .int) ({ frames := 0, cells := 0, slots := 0, locals := 0 }) [.ref h] [oX12 h h_tape v_taped h_text v_size v_token v_begin v_end v_tokens v_code v_faultKind v_faultPlace v_names v_blocks h_nameCode h_nameBlock h_blockMany h_blockAll v_nodeMany v_top h_kind h_left h_right v_namesWas v_blocksWas v_nodeManyWas v_topWas h_nameCodeWas h_nameBlockWas h_blockManyWas h_blockAllWas h_kindWas h_leftWas h_rightWas h_wait h_done v_waits v_dones v_opened h_leaf h_fold h_kept h_now v_played v_depth v_prefix h_moveMade h_out v_written h_later v_laters, aZ g h_leaf 4096 v_leaf] (some (.int r_)) [oX12 h h_tape v_taped h_text v_size v_token v_begin v_end v_tokens v_code v_faultKind v_faultPlace v_names v_blocks h_nameCode h_nameBlock h_blockMany h_blockAll v_nodeMany v_top h_kind h_left h_right v_namesWas v_blocksWas v_nodeManyWas v_topWas h_nameCodeWas h_nameBlockWas h_blockManyWas h_blockAllWas h_kindWas h_leftWas h_rightWas h_wait h_done v_waits v_dones v_opened h_leaf h_fold h_kept h_now v_played v_depth v_prefix h_moveMade h_out v_written h_later v_laters, aZ g h_leaf 4096 v_leaf] := by
  refine Con.of (by decide) (Nat.le_of_ble_eq_true rfl) ?_
  intro p e s m below meth c A ls hAe X hP hD hS hl
  obtain ⟨hx, hb, hml, hr, hown, hts, hlk, hnm, hA, hG, hZ⟩ := id X
  have hown : s.vm.findClass RX12 = some m.cls := hown
  have hl : lv_has ls 4 [(0, .ref h)] := hl
  unfold f_X12_models at hf
  refine lv_iconst (v := 0) hx hb dX12_models_0 (by decide) ?_
  refine lv_istore_n (lv' := [(1, .int 0), (0, .ref h)]) hx hb dX12_models_1 rfl hl (by decide) rfl (fun ls hl => ?_)
  refine lv_iconst (v := 1) hx hb dX12_models_2 (by decide) ?_
  refine lv_aload_n hx hb dX12_models_3 rfl (lv_at hl 1 rfl) ?_
  refine gf_X12_159 X rfl hP 0 rfl rfl dX12_models_4 ?_
  refine lv_aload_n hx hb dX12_models_7 rfl (lv_at hl 1 rfl) ?_
  refine gf_X12_225 X rfl hP 0 rfl rfl dX12_models_8 ?_
  refine lv_isub hx hb dX12_models_11 ?_
  refine lv_ishl hx hb dX12_models_12 ?_
  refine lv_istore_n (lv' := [(2, .int ((1 : Int32) <<< ((v_names - v_depth) &&& 31))), (1, .int 0), (0, .ref h)]) hx hb dX12_models_13 rfl hl (by decide) rfl (fun ls hl => ?_)
  refine lv_iconst (v := 0) hx hb dX12_models_14 (by decide) ?_
  refine lv_istore_n (lv' := [(3, .int 0), (2, .int ((1 : Int32) <<< ((v_names - v_depth) &&& 31))), (1, .int 0), (0, .ref h)]) hx hb dX12_models_15 rfl hl (by decide) rfl (fun ls hl => ?_)
  have L_16 : ∀ (n : Nat) (x1_16 : Int32) (x3_16 : Int32) (H : Heap) (locs : List Loc) (ls : Array Slot) (K_16 : Int32 → Int32 → Option (Int32)), va_P g.1 vwCl [oX12 h h_tape v_taped h_text v_size v_token v_begin v_end v_tokens v_code v_faultKind v_faultPlace v_names v_blocks h_nameCode h_nameBlock h_blockMany h_blockAll v_nodeMany v_top h_kind h_left h_right v_namesWas v_blocksWas v_nodeManyWas v_topWas h_nameCodeWas h_nameBlockWas h_blockManyWas h_blockAllWas h_kindWas h_leftWas h_rightWas h_wait h_done v_waits v_dones v_opened h_leaf h_fold h_kept h_now v_played v_depth v_prefix h_moveMade h_out v_written h_later v_laters, aZ g h_leaf 4096 v_leaf] H → va_D A [oX12 h h_tape v_taped h_text v_size v_token v_begin v_end v_tokens v_code v_faultKind v_faultPlace v_names v_blocks h_nameCode h_nameBlock h_blockMany h_blockAll v_nodeMany v_top h_kind h_left h_right v_namesWas v_blocksWas v_nodeManyWas v_topWas h_nameCodeWas h_nameBlockWas h_blockManyWas h_blockAllWas h_kindWas h_leftWas h_rightWas h_wait h_done v_waits v_dones v_opened h_leaf h_fold h_kept h_now v_played v_depth v_prefix h_moveMade h_out v_written h_later v_laters, aZ g h_leaf 4096 v_leaf] → va_S A s.heap H locs → lv_has ls 4 [(0, .ref h), (1, .int x1_16), (2, .int ((1 : Int32) <<< ((v_names - v_depth) &&& 31))), (3, .int x3_16)] → (∀ (z_x1_16 : Int32) (z_x3_16 : Int32) (H : Heap) (locs : List Loc) (ls : Array Slot), va_P g.1 vwCl [oX12 h h_tape v_taped h_text v_size v_token v_begin v_end v_tokens v_code v_faultKind v_faultPlace v_names v_blocks h_nameCode h_nameBlock h_blockMany h_blockAll v_nodeMany v_top h_kind h_left h_right v_namesWas v_blocksWas v_nodeManyWas v_topWas h_nameCodeWas h_nameBlockWas h_blockManyWas h_blockAllWas h_kindWas h_leftWas h_rightWas h_wait h_done v_waits v_dones v_opened h_leaf h_fold h_kept h_now v_played v_depth v_prefix h_moveMade h_out v_written h_later v_laters, aZ g h_leaf 4096 v_leaf] H → va_D A [oX12 h h_tape v_taped h_text v_size v_token v_begin v_end v_tokens v_code v_faultKind v_faultPlace v_names v_blocks h_nameCode h_nameBlock h_blockMany h_blockAll v_nodeMany v_top h_kind h_left h_right v_namesWas v_blocksWas v_nodeManyWas v_topWas h_nameCodeWas h_nameBlockWas h_blockManyWas h_blockAllWas h_kindWas h_leftWas h_rightWas h_wait h_done v_waits v_dones v_opened h_leaf h_fold h_kept h_now v_played v_depth v_prefix h_moveMade h_out v_written h_later v_laters, aZ g h_leaf 4096 v_leaf] → va_S A s.heap H locs → lv_has ls 4 [(0, .ref h), (1, .int z_x1_16), (2, .int ((1 : Int32) <<< ((v_names - v_depth) &&& 31))), (3, .int z_x3_16)] → K_16 z_x1_16 z_x3_16 = some r_ → W p l e ({ frames := 0, cells := 0, slots := 0, locals := 0 }) s m [.ref h].toArray below meth c H locs 0 0 (MQ below (fun _ => QW g [oX12 h h_tape v_taped h_text v_size v_token v_begin v_end v_tokens v_code v_faultKind v_faultPlace v_names v_blocks h_nameCode h_nameBlock h_blockMany h_blockAll v_nodeMany v_top h_kind h_left h_right v_namesWas v_blocksWas v_nodeManyWas v_topWas h_nameCodeWas h_nameBlockWas h_blockManyWas h_blockAllWas h_kindWas h_leftWas h_rightWas h_wait h_done v_waits v_dones v_opened h_leaf h_fold h_kept h_now v_played v_depth v_prefix h_moveMade h_out v_written h_later v_laters, aZ g h_leaf 4096 v_leaf] s.heap.size (some (.int r_)) [oX12 h h_tape v_taped h_text v_size v_token v_begin v_end v_tokens v_code v_faultKind v_faultPlace v_names v_blocks h_nameCode h_nameBlock h_blockMany h_blockAll v_nodeMany v_top h_kind h_left h_right v_namesWas v_blocksWas v_nodeManyWas v_topWas h_nameCodeWas h_nameBlockWas h_blockManyWas h_blockAllWas h_kindWas h_leftWas h_rightWas h_wait h_done v_waits v_dones v_opened h_leaf h_fold h_kept h_now v_played v_depth v_prefix h_moveMade h_out v_written h_later v_laters, aZ g h_leaf 4096 v_leaf]) [.ref h].toArray s 0 0 (va_A [oX12 h h_tape v_taped h_text v_size v_token v_begin v_end v_tokens v_code v_faultKind v_faultPlace v_names v_blocks h_nameCode h_nameBlock h_blockMany h_blockAll v_nodeMany v_top h_kind h_left h_right v_namesWas v_blocksWas v_nodeManyWas v_topWas h_nameCodeWas h_nameBlockWas h_blockManyWas h_blockAllWas h_kindWas h_leftWas h_rightWas h_wait h_done v_waits v_dones v_opened h_leaf h_fold h_kept h_now v_played v_depth v_prefix h_moveMade h_out v_written h_later v_laters, aZ g h_leaf 4096 v_leaf] s.heap.size)) (F0 m 51 ls [])) → lp_X12_models_16 ((1 : Int32) <<< ((v_names - v_depth) &&& 31)) v_names v_depth v_prefix v_leaf n x1_16 x3_16 K_16 = some r_ → W p l e ({ frames := 0, cells := 0, slots := 0, locals := 0 }) s m [.ref h].toArray below meth c H locs 0 0 (MQ below (fun _ => QW g [oX12 h h_tape v_taped h_text v_size v_token v_begin v_end v_tokens v_code v_faultKind v_faultPlace v_names v_blocks h_nameCode h_nameBlock h_blockMany h_blockAll v_nodeMany v_top h_kind h_left h_right v_namesWas v_blocksWas v_nodeManyWas v_topWas h_nameCodeWas h_nameBlockWas h_blockManyWas h_blockAllWas h_kindWas h_leftWas h_rightWas h_wait h_done v_waits v_dones v_opened h_leaf h_fold h_kept h_now v_played v_depth v_prefix h_moveMade h_out v_written h_later v_laters, aZ g h_leaf 4096 v_leaf] s.heap.size (some (.int r_)) [oX12 h h_tape v_taped h_text v_size v_token v_begin v_end v_tokens v_code v_faultKind v_faultPlace v_names v_blocks h_nameCode h_nameBlock h_blockMany h_blockAll v_nodeMany v_top h_kind h_left h_right v_namesWas v_blocksWas v_nodeManyWas v_topWas h_nameCodeWas h_nameBlockWas h_blockManyWas h_blockAllWas h_kindWas h_leftWas h_rightWas h_wait h_done v_waits v_dones v_opened h_leaf h_fold h_kept h_now v_played v_depth v_prefix h_moveMade h_out v_written h_later v_laters, aZ g h_leaf 4096 v_leaf]) [.ref h].toArray s 0 0 (va_A [oX12 h h_tape v_taped h_text v_size v_token v_begin v_end v_tokens v_code v_faultKind v_faultPlace v_names v_blocks h_nameCode h_nameBlock h_blockMany h_blockAll v_nodeMany v_top h_kind h_left h_right v_namesWas v_blocksWas v_nodeManyWas v_topWas h_nameCodeWas h_nameBlockWas h_blockManyWas h_blockAllWas h_kindWas h_leftWas h_rightWas h_wait h_done v_waits v_dones v_opened h_leaf h_fold h_kept h_now v_played v_depth v_prefix h_moveMade h_out v_written h_later v_laters, aZ g h_leaf 4096 v_leaf] s.heap.size)) (F0 m 16 ls []) := by
    intro n
    induction n with
    | zero =>
      intro x1_16 x3_16 H locs ls K_16 hP hD hS hl hk hf
      have hf : (none : Option (Int32)) = some _ := hf
      cases hf
    | succ n_16 ih_16 =>
      intro x1_16 x3_16 H locs ls K_16 hP hD hS hl hk_16 hf
      refine lv_iload_n hx hb dX12_models_16 rfl (lv_at hl 3 rfl) ?_
      refine lv_iload_n hx hb dX12_models_17 rfl (lv_at hl 2 rfl) ?_
      refine lv_icmp_ge (tgt := 51) hx hb dX12_models_18 (by decide) (fun c_6 => ?_) (fun c_6 => ?_)
      · have hf := ift hf c_6
        exact hk_16 x1_16 x3_16 H locs ls hP hD hS (lv_sub hl [0, 1, 2, 3] rfl) hf
      · have hf := iff_ hf c_6
        refine lv_iload_n hx hb dX12_models_21 rfl (lv_at hl 1 rfl) ?_
        refine lv_aload_n hx hb dX12_models_22 rfl (lv_at hl 0 rfl) ?_
        refine gf_X12_70 X rfl hP 0 rfl rfl dX12_models_23 ?_
        refine lv_aload_n hx hb dX12_models_26 rfl (lv_at hl 0 rfl) ?_
        refine gf_X12_228 X rfl hP 0 rfl rfl dX12_models_27 ?_
        refine lv_iload_n hx hb dX12_models_30 rfl (lv_at hl 2 rfl) ?_
        refine lv_imul hx hb dX12_models_31 ?_
        refine lv_iload_n hx hb dX12_models_32 rfl (lv_at hl 3 rfl) ?_
        refine lv_iadd hx hb dX12_models_33 ?_
        obtain ⟨hi_7, hf⟩ := ifs hf
        refine va_zald (D := g.1) hx hb hG.1 hP 1 3 rfl rfl (ix_in hi_7) dX12_models_34 ?_
        refine lv_if_eq (tgt := 42) hx hb dX12_models_35 (by decide) (fun c_8 => ?_) (fun c_8 => ?_)
        · have hf := ift hf c_8
          refine lv_iconst (v := 0) hx hb dX12_models_42 (by decide) ?_
          refine lv_iadd hx hb dX12_models_43 ?_
          refine lv_istore_n (lv' := [(1, .int (x1_16 + (0 : Int32))), (0, .ref h), (2, .int ((1 : Int32) <<< ((v_names - v_depth) &&& 31))), (3, .int x3_16)]) hx hb dX12_models_44 rfl hl (by decide) rfl (fun ls hl => ?_)
          refine lv_iinc (v := x3_16 + 1) (lv' := [(3, .int (x3_16 + 1)), (1, .int (x1_16 + (0 : Int32))), (0, .ref h), (2, .int ((1 : Int32) <<< ((v_names - v_depth) &&& 31)))]) hx hb dX12_models_45 hl (k := 3) rfl rfl (by decide) rfl (fun ls hl => ?_)
          refine lv_goto (tgt := 16) hx hb dX12_models_48 (by decide) ?_
          exact ih_16 (x1_16 + (0 : Int32)) (x3_16 + 1) H locs ls K_16 hP hD hS (lv_sub hl [2, 1, 3, 0] rfl) hk_16 hf
        · have hf := iff_ hf c_8
          refine lv_iconst (v := 1) hx hb dX12_models_38 (by decide) ?_
          refine lv_goto (tgt := 43) hx hb dX12_models_39 (by decide) ?_
          refine lv_iadd hx hb dX12_models_43 ?_
          refine lv_istore_n (lv' := [(1, .int (x1_16 + (1 : Int32))), (0, .ref h), (2, .int ((1 : Int32) <<< ((v_names - v_depth) &&& 31))), (3, .int x3_16)]) hx hb dX12_models_44 rfl hl (by decide) rfl (fun ls hl => ?_)
          refine lv_iinc (v := x3_16 + 1) (lv' := [(3, .int (x3_16 + 1)), (1, .int (x1_16 + (1 : Int32))), (0, .ref h), (2, .int ((1 : Int32) <<< ((v_names - v_depth) &&& 31)))]) hx hb dX12_models_45 hl (k := 3) rfl rfl (by decide) rfl (fun ls hl => ?_)
          refine lv_goto (tgt := 16) hx hb dX12_models_48 (by decide) ?_
          exact ih_16 (x1_16 + (1 : Int32)) (x3_16 + 1) H locs ls K_16 hP hD hS (lv_sub hl [2, 1, 3, 0] rfl) hk_16 hf
  refine L_16 _ _ _ _ _ ls _ hP hD hS (lv_sub hl [3, 2, 1, 0] rfl) (fun x1_16_4 x3_16_5 H locs ls hP hD hS hl hf => ?_) hf
  refine lv_iload_n hx hb dX12_models_51 rfl (lv_at hl 1 rfl) ?_
  cases hf
  exact ret_i X hAe hP hD hS rfl dX12_models_52
def f_X12_octet (v_written : Int32) (v_out : Nat → Int32) (a1 : Int32) : Option (Int32) :=
  if a1 < 0 then
  some (-1)
  else
  (if v_written ≤ a1 then
  some (-1)
  else
  (if ix a1 700 then
  some ((v_out a1.toNatClampNeg) &&& (255 : Int32))
  else none))
set_option maxHeartbeats 4000000 in
set_option maxRecDepth 100000 in
theorem c_X12_octet (l : Launch) (g : GT) (h : Nat) (h_tape : Nat) (v_taped : Int32) (h_text : Nat) (v_size : Int32) (v_token : Int32) (v_begin : Int32) (v_end : Int32) (v_tokens : Int32) (v_code : Int32) (v_faultKind : Int32) (v_faultPlace : Int32) (v_names : Int32) (v_blocks : Int32) (h_nameCode : Nat) (h_nameBlock : Nat) (h_blockMany : Nat) (h_blockAll : Nat) (v_nodeMany : Int32) (v_top : Int32) (h_kind : Nat) (h_left : Nat) (h_right : Nat) (v_namesWas : Int32) (v_blocksWas : Int32) (v_nodeManyWas : Int32) (v_topWas : Int32) (h_nameCodeWas : Nat) (h_nameBlockWas : Nat) (h_blockManyWas : Nat) (h_blockAllWas : Nat) (h_kindWas : Nat) (h_leftWas : Nat) (h_rightWas : Nat) (h_wait : Nat) (h_done : Nat) (v_waits : Int32) (v_dones : Int32) (v_opened : Int32) (h_leaf : Nat) (h_fold : Nat) (h_kept : Nat) (h_now : Nat) (v_played : Int32) (v_depth : Int32) (v_prefix : Int32) (h_moveMade : Nat) (h_out : Nat) (v_written : Int32) (h_later : Nat) (v_laters : Int32) (v_out : Nat → Int32) (a1 : Int32) (r_ : Int32) (hf : f_X12_octet v_written v_out a1 = some r_) : Con l g yX12_octet cX12_octet 2 (some .int) ({ frames := 0, cells := 0, slots := 0, locals := 0 }) [.ref h, .int a1] [oX12 h h_tape v_taped h_text v_size v_token v_begin v_end v_tokens v_code v_faultKind v_faultPlace v_names v_blocks h_nameCode h_nameBlock h_blockMany h_blockAll v_nodeMany v_top h_kind h_left h_right v_namesWas v_blocksWas v_nodeManyWas v_topWas h_nameCodeWas h_nameBlockWas h_blockManyWas h_blockAllWas h_kindWas h_leftWas h_rightWas h_wait h_done v_waits v_dones v_opened h_leaf h_fold h_kept h_now v_played v_depth v_prefix h_moveMade h_out v_written h_later v_laters, aB g h_out 700 v_out] (some (.int r_)) [oX12 h h_tape v_taped h_text v_size v_token v_begin v_end v_tokens v_code v_faultKind v_faultPlace v_names v_blocks h_nameCode h_nameBlock h_blockMany h_blockAll v_nodeMany v_top h_kind h_left h_right v_namesWas v_blocksWas v_nodeManyWas v_topWas h_nameCodeWas h_nameBlockWas h_blockManyWas h_blockAllWas h_kindWas h_leftWas h_rightWas h_wait h_done v_waits v_dones v_opened h_leaf h_fold h_kept h_now v_played v_depth v_prefix h_moveMade h_out v_written h_later v_laters, aB g h_out 700 v_out] := by
  refine Con.of (by decide) (Nat.le_of_ble_eq_true rfl) ?_
  intro p e s m below meth c A ls hAe X hP hD hS hl
  obtain ⟨hx, hb, hml, hr, hown, hts, hlk, hnm, hA, hG, hZ⟩ := id X
  have hown : s.vm.findClass RX12 = some m.cls := hown
  have hl : lv_has ls 2 [(0, .ref h), (1, .int a1)] := hl
  unfold f_X12_octet at hf
  refine lv_iload_n hx hb dX12_octet_0 rfl (lv_at hl 1 rfl) ?_
  refine lv_if_lt (tgt := 25) hx hb dX12_octet_1 (by decide) (fun c_1 => ?_) (fun c_1 => ?_)
  · have hf := ift hf c_1
    refine lv_iconst (v := (-1)) hx hb dX12_octet_25 (by decide) ?_
    cases hf
    exact ret_i X hAe hP hD hS rfl dX12_octet_26
  · have hf := iff_ hf c_1
    refine lv_iload_n hx hb dX12_octet_4 rfl (lv_at hl 1 rfl) ?_
    refine lv_aload_n hx hb dX12_octet_5 rfl (lv_at hl 0 rfl) ?_
    refine gf_X12_245 X rfl hP 0 rfl rfl dX12_octet_6 ?_
    refine lv_icmp_ge (tgt := 25) hx hb dX12_octet_9 (by decide) (fun c_2 => ?_) (fun c_2 => ?_)
    · have hf := ift hf c_2
      refine lv_iconst (v := (-1)) hx hb dX12_octet_25 (by decide) ?_
      cases hf
      exact ret_i X hAe hP hD hS rfl dX12_octet_26
    · have hf := iff_ hf c_2
      refine lv_aload_n hx hb dX12_octet_12 rfl (lv_at hl 0 rfl) ?_
      refine gf_X12_85 X rfl hP 0 rfl rfl dX12_octet_13 ?_
      refine lv_iload_n hx hb dX12_octet_16 rfl (lv_at hl 1 rfl) ?_
      obtain ⟨hi_3, hf⟩ := ifs hf
      refine va_bald (D := g.1) hx hb hG.1 hP 1 0 rfl rfl (ix_in hi_3) dX12_octet_17 ?_
      refine lv_sipush (v := 255) hx hb dX12_octet_18 (by decide) ?_
      refine lv_iand hx hb dX12_octet_21 ?_
      refine lv_goto (tgt := 26) hx hb dX12_octet_22 (by decide) ?_
      cases hf
      exact ret_i X hAe hP hD hS rfl dX12_octet_26
def f_X12_fault (v_faultKind : Int32) (v_faultPlace : Int32) (a1 : Int32) : Option (Int32) :=
  if a1 = 0 then
  some v_faultKind
  else
  (if a1 = 1 then
  some v_faultPlace
  else
  some (-1))
set_option maxHeartbeats 4000000 in
set_option maxRecDepth 100000 in
theorem c_X12_fault (l : Launch) (g : GT) (h : Nat) (h_tape : Nat) (v_taped : Int32) (h_text : Nat) (v_size : Int32) (v_token : Int32) (v_begin : Int32) (v_end : Int32) (v_tokens : Int32) (v_code : Int32) (v_faultKind : Int32) (v_faultPlace : Int32) (v_names : Int32) (v_blocks : Int32) (h_nameCode : Nat) (h_nameBlock : Nat) (h_blockMany : Nat) (h_blockAll : Nat) (v_nodeMany : Int32) (v_top : Int32) (h_kind : Nat) (h_left : Nat) (h_right : Nat) (v_namesWas : Int32) (v_blocksWas : Int32) (v_nodeManyWas : Int32) (v_topWas : Int32) (h_nameCodeWas : Nat) (h_nameBlockWas : Nat) (h_blockManyWas : Nat) (h_blockAllWas : Nat) (h_kindWas : Nat) (h_leftWas : Nat) (h_rightWas : Nat) (h_wait : Nat) (h_done : Nat) (v_waits : Int32) (v_dones : Int32) (v_opened : Int32) (h_leaf : Nat) (h_fold : Nat) (h_kept : Nat) (h_now : Nat) (v_played : Int32) (v_depth : Int32) (v_prefix : Int32) (h_moveMade : Nat) (h_out : Nat) (v_written : Int32) (h_later : Nat) (v_laters : Int32) (a1 : Int32) (r_ : Int32) (hf : f_X12_fault v_faultKind v_faultPlace a1 = some r_) : Con l g yX12_fault cX12_fault 2 (some .int) ({ frames := 0, cells := 0, slots := 0, locals := 0 }) [.ref h, .int a1] [oX12 h h_tape v_taped h_text v_size v_token v_begin v_end v_tokens v_code v_faultKind v_faultPlace v_names v_blocks h_nameCode h_nameBlock h_blockMany h_blockAll v_nodeMany v_top h_kind h_left h_right v_namesWas v_blocksWas v_nodeManyWas v_topWas h_nameCodeWas h_nameBlockWas h_blockManyWas h_blockAllWas h_kindWas h_leftWas h_rightWas h_wait h_done v_waits v_dones v_opened h_leaf h_fold h_kept h_now v_played v_depth v_prefix h_moveMade h_out v_written h_later v_laters] (some (.int r_)) [oX12 h h_tape v_taped h_text v_size v_token v_begin v_end v_tokens v_code v_faultKind v_faultPlace v_names v_blocks h_nameCode h_nameBlock h_blockMany h_blockAll v_nodeMany v_top h_kind h_left h_right v_namesWas v_blocksWas v_nodeManyWas v_topWas h_nameCodeWas h_nameBlockWas h_blockManyWas h_blockAllWas h_kindWas h_leftWas h_rightWas h_wait h_done v_waits v_dones v_opened h_leaf h_fold h_kept h_now v_played v_depth v_prefix h_moveMade h_out v_written h_later v_laters] := by
  refine Con.of (by decide) (Nat.le_of_ble_eq_true rfl) ?_
  intro p e s m below meth c A ls hAe X hP hD hS hl
  obtain ⟨hx, hb, hml, hr, hown, hts, hlk, hnm, hA, hG, hZ⟩ := id X
  have hown : s.vm.findClass RX12 = some m.cls := hown
  have hl : lv_has ls 2 [(0, .ref h), (1, .int a1)] := hl
  unfold f_X12_fault at hf
  refine lv_iload_n hx hb dX12_fault_0 rfl (lv_at hl 1 rfl) ?_
  refine lv_if_ne (tgt := 11) hx hb dX12_fault_1 (by decide) (fun c_1 => ?_) (fun c_1 => ?_)
  · have hf := iff_ hf c_1
    refine lv_iload_n hx hb dX12_fault_11 rfl (lv_at hl 1 rfl) ?_
    refine lv_iconst (v := 1) hx hb dX12_fault_12 (by decide) ?_
    refine lv_icmp_ne (tgt := 23) hx hb dX12_fault_13 (by decide) (fun c_2 => ?_) (fun c_2 => ?_)
    · have hf := iff_ hf c_2
      refine lv_iconst (v := (-1)) hx hb dX12_fault_23 (by decide) ?_
      cases hf
      exact ret_i X hAe hP hD hS rfl dX12_fault_24
    · have hf := ift hf c_2
      refine lv_aload_n hx hb dX12_fault_16 rfl (lv_at hl 0 rfl) ?_
      refine gf_X12_16 X rfl hP 0 rfl rfl dX12_fault_17 ?_
      refine lv_goto (tgt := 24) hx hb dX12_fault_20 (by decide) ?_
      cases hf
      exact ret_i X hAe hP hD hS rfl dX12_fault_24
  · have hf := ift hf c_1
    refine lv_aload_n hx hb dX12_fault_4 rfl (lv_at hl 0 rfl) ?_
    refine gf_X12_150 X rfl hP 0 rfl rfl dX12_fault_5 ?_
    refine lv_goto (tgt := 24) hx hb dX12_fault_8 (by decide) ?_
    cases hf
    exact ret_i X hAe hP hD hS rfl dX12_fault_24
def f_X12_look (v_taped : Int32) (v_names : Int32) (v_blocks : Int32) (v_played : Int32) (v_depth : Int32) (v_prefix : Int32) (v_blockMany : Nat → Int32) (v_nameCode : Nat → Int32) (v_nameBlock : Nat → Int32) (a1 : Int32) : Option (Int32) :=
  if a1 = 0 then
  some v_names
  else
  (if a1 = 1 then
  some v_blocks
  else
  (if a1 = 2 then
  some v_played
  else
  (if a1 = 3 then
  some v_taped
  else
  (jn (κ := Option (Int32)) (jn (κ := Option (Int32)) (jn (κ := Option (Int32)) (if a1 < 60 then
  some (-1)
  else
  (if a1 < (60 : Int32) + v_names then
  (if v_depth ≤ a1 - (60 : Int32) then
  some (-1)
  else
  some ((v_prefix >>> (((v_depth - (1 : Int32)) - (a1 - (60 : Int32))) &&& 31)) &&& (1 : Int32)))
  else
  some (-1))) fun j_120 =>
  if a1 < 40 then
  j_120
  else
  (if (40 : Int32) + v_names ≤ a1 then
  j_120
  else
  (if ix (a1 - (40 : Int32)) 12 then
  some (v_nameBlock (a1 - (40 : Int32)).toNatClampNeg)
  else none))) fun j_93 =>
  if a1 < 20 then
  j_93
  else
  (if (20 : Int32) + v_names ≤ a1 then
  j_93
  else
  (if ix (a1 - (20 : Int32)) 12 then
  some (v_nameCode (a1 - (20 : Int32)).toNatClampNeg)
  else none))) fun j_66 =>
  if a1 < 10 then
  j_66
  else
  (if (10 : Int32) + v_blocks ≤ a1 then
  j_66
  else
  (if ix (a1 - (10 : Int32)) 6 then
  some (v_blockMany (a1 - (10 : Int32)).toNatClampNeg)
  else none))))))
set_option maxHeartbeats 4000000 in
set_option maxRecDepth 100000 in
theorem c_X12_look (l : Launch) (g : GT) (h : Nat) (h_tape : Nat) (v_taped : Int32) (h_text : Nat) (v_size : Int32) (v_token : Int32) (v_begin : Int32) (v_end : Int32) (v_tokens : Int32) (v_code : Int32) (v_faultKind : Int32) (v_faultPlace : Int32) (v_names : Int32) (v_blocks : Int32) (h_nameCode : Nat) (h_nameBlock : Nat) (h_blockMany : Nat) (h_blockAll : Nat) (v_nodeMany : Int32) (v_top : Int32) (h_kind : Nat) (h_left : Nat) (h_right : Nat) (v_namesWas : Int32) (v_blocksWas : Int32) (v_nodeManyWas : Int32) (v_topWas : Int32) (h_nameCodeWas : Nat) (h_nameBlockWas : Nat) (h_blockManyWas : Nat) (h_blockAllWas : Nat) (h_kindWas : Nat) (h_leftWas : Nat) (h_rightWas : Nat) (h_wait : Nat) (h_done : Nat) (v_waits : Int32) (v_dones : Int32) (v_opened : Int32) (h_leaf : Nat) (h_fold : Nat) (h_kept : Nat) (h_now : Nat) (v_played : Int32) (v_depth : Int32) (v_prefix : Int32) (h_moveMade : Nat) (h_out : Nat) (v_written : Int32) (h_later : Nat) (v_laters : Int32) (v_blockMany : Nat → Int32) (v_nameCode : Nat → Int32) (v_nameBlock : Nat → Int32) (a1 : Int32) (r_ : Int32) (hf : f_X12_look v_taped v_names v_blocks v_played v_depth v_prefix v_blockMany v_nameCode v_nameBlock a1 = some r_) : Con l g yX12_look cX12_look 3 (some .int) ({ frames := 0, cells := 0, slots := 0, locals := 0 }) [.ref h, .int a1] [oX12 h h_tape v_taped h_text v_size v_token v_begin v_end v_tokens v_code v_faultKind v_faultPlace v_names v_blocks h_nameCode h_nameBlock h_blockMany h_blockAll v_nodeMany v_top h_kind h_left h_right v_namesWas v_blocksWas v_nodeManyWas v_topWas h_nameCodeWas h_nameBlockWas h_blockManyWas h_blockAllWas h_kindWas h_leftWas h_rightWas h_wait h_done v_waits v_dones v_opened h_leaf h_fold h_kept h_now v_played v_depth v_prefix h_moveMade h_out v_written h_later v_laters, aI g h_blockMany 6 v_blockMany, aI g h_nameCode 12 v_nameCode, aI g h_nameBlock 12 v_nameBlock] (some (.int r_)) [oX12 h h_tape v_taped h_text v_size v_token v_begin v_end v_tokens v_code v_faultKind v_faultPlace v_names v_blocks h_nameCode h_nameBlock h_blockMany h_blockAll v_nodeMany v_top h_kind h_left h_right v_namesWas v_blocksWas v_nodeManyWas v_topWas h_nameCodeWas h_nameBlockWas h_blockManyWas h_blockAllWas h_kindWas h_leftWas h_rightWas h_wait h_done v_waits v_dones v_opened h_leaf h_fold h_kept h_now v_played v_depth v_prefix h_moveMade h_out v_written h_later v_laters, aI g h_blockMany 6 v_blockMany, aI g h_nameCode 12 v_nameCode, aI g h_nameBlock 12 v_nameBlock] := by
  refine Con.of (by decide) (Nat.le_of_ble_eq_true rfl) ?_
  intro p e s m below meth c A ls hAe X hP hD hS hl
  obtain ⟨hx, hb, hml, hr, hown, hts, hlk, hnm, hA, hG, hZ⟩ := id X
  have hown : s.vm.findClass RX12 = some m.cls := hown
  have hl : lv_has ls 3 [(0, .ref h), (1, .int a1)] := hl
  unfold f_X12_look at hf
  refine lv_iload_n hx hb dX12_look_0 rfl (lv_at hl 1 rfl) ?_
  refine lv_if_ne (tgt := 9) hx hb dX12_look_1 (by decide) (fun c_1 => ?_) (fun c_1 => ?_)
  · have hf := iff_ hf c_1
    refine lv_iload_n hx hb dX12_look_9 rfl (lv_at hl 1 rfl) ?_
    refine lv_iconst (v := 1) hx hb dX12_look_10 (by decide) ?_
    refine lv_icmp_ne (tgt := 19) hx hb dX12_look_11 (by decide) (fun c_2 => ?_) (fun c_2 => ?_)
    · have hf := iff_ hf c_2
      refine lv_iload_n hx hb dX12_look_19 rfl (lv_at hl 1 rfl) ?_
      refine lv_iconst (v := 2) hx hb dX12_look_20 (by decide) ?_
      refine lv_icmp_ne (tgt := 29) hx hb dX12_look_21 (by decide) (fun c_3 => ?_) (fun c_3 => ?_)
      · have hf := iff_ hf c_3
        refine lv_iload_n hx hb dX12_look_29 rfl (lv_at hl 1 rfl) ?_
        refine lv_iconst (v := 3) hx hb dX12_look_30 (by decide) ?_
        refine lv_icmp_ne (tgt := 39) hx hb dX12_look_31 (by decide) (fun c_4 => ?_) (fun c_4 => ?_)
        · have hf := iff_ hf c_4
          refine lv_iload_n hx hb dX12_look_39 rfl (lv_at hl 1 rfl) ?_
          refine lv_bipush (v := 10) hx hb dX12_look_40 (by decide) ?_
          refine jn_elim hf (fun j_66 hj_66 hf => ?_)
          have J_66 : ∀  (H : Heap) (locs : List Loc) (ls : Array Slot), va_P g.1 vwCl [oX12 h h_tape v_taped h_text v_size v_token v_begin v_end v_tokens v_code v_faultKind v_faultPlace v_names v_blocks h_nameCode h_nameBlock h_blockMany h_blockAll v_nodeMany v_top h_kind h_left h_right v_namesWas v_blocksWas v_nodeManyWas v_topWas h_nameCodeWas h_nameBlockWas h_blockManyWas h_blockAllWas h_kindWas h_leftWas h_rightWas h_wait h_done v_waits v_dones v_opened h_leaf h_fold h_kept h_now v_played v_depth v_prefix h_moveMade h_out v_written h_later v_laters, aI g h_blockMany 6 v_blockMany, aI g h_nameCode 12 v_nameCode, aI g h_nameBlock 12 v_nameBlock] H → va_D A [oX12 h h_tape v_taped h_text v_size v_token v_begin v_end v_tokens v_code v_faultKind v_faultPlace v_names v_blocks h_nameCode h_nameBlock h_blockMany h_blockAll v_nodeMany v_top h_kind h_left h_right v_namesWas v_blocksWas v_nodeManyWas v_topWas h_nameCodeWas h_nameBlockWas h_blockManyWas h_blockAllWas h_kindWas h_leftWas h_rightWas h_wait h_done v_waits v_dones v_opened h_leaf h_fold h_kept h_now v_played v_depth v_prefix h_moveMade h_out v_written h_later v_laters, aI g h_blockMany 6 v_blockMany, aI g h_nameCode 12 v_nameCode, aI g h_nameBlock 12 v_nameBlock] → va_S A s.heap H locs → lv_has ls 3 [(0, .ref h), (1, .int a1)] → j_66  = some r_ → W p l e ({ frames := 0, cells := 0, slots := 0, locals := 0 }) s m [.ref h, .int a1].toArray below meth c H locs 0 0 (MQ below (fun _ => QW g [oX12 h h_tape v_taped h_text v_size v_token v_begin v_end v_tokens v_code v_faultKind v_faultPlace v_names v_blocks h_nameCode h_nameBlock h_blockMany h_blockAll v_nodeMany v_top h_kind h_left h_right v_namesWas v_blocksWas v_nodeManyWas v_topWas h_nameCodeWas h_nameBlockWas h_blockManyWas h_blockAllWas h_kindWas h_leftWas h_rightWas h_wait h_done v_waits v_dones v_opened h_leaf h_fold h_kept h_now v_played v_depth v_prefix h_moveMade h_out v_written h_later v_laters, aI g h_blockMany 6 v_blockMany, aI g h_nameCode 12 v_nameCode, aI g h_nameBlock 12 v_nameBlock] s.heap.size (some (.int r_)) [oX12 h h_tape v_taped h_text v_size v_token v_begin v_end v_tokens v_code v_faultKind v_faultPlace v_names v_blocks h_nameCode h_nameBlock h_blockMany h_blockAll v_nodeMany v_top h_kind h_left h_right v_namesWas v_blocksWas v_nodeManyWas v_topWas h_nameCodeWas h_nameBlockWas h_blockManyWas h_blockAllWas h_kindWas h_leftWas h_rightWas h_wait h_done v_waits v_dones v_opened h_leaf h_fold h_kept h_now v_played v_depth v_prefix h_moveMade h_out v_written h_later v_laters, aI g h_blockMany 6 v_blockMany, aI g h_nameCode 12 v_nameCode, aI g h_nameBlock 12 v_nameBlock]) [.ref h, .int a1].toArray s 0 0 (va_A [oX12 h h_tape v_taped h_text v_size v_token v_begin v_end v_tokens v_code v_faultKind v_faultPlace v_names v_blocks h_nameCode h_nameBlock h_blockMany h_blockAll v_nodeMany v_top h_kind h_left h_right v_namesWas v_blocksWas v_nodeManyWas v_topWas h_nameCodeWas h_nameBlockWas h_blockManyWas h_blockAllWas h_kindWas h_leftWas h_rightWas h_wait h_done v_waits v_dones v_opened h_leaf h_fold h_kept h_now v_played v_depth v_prefix h_moveMade h_out v_written h_later v_laters, aI g h_blockMany 6 v_blockMany, aI g h_nameCode 12 v_nameCode, aI g h_nameBlock 12 v_nameBlock] s.heap.size)) (F0 m 66 ls []) := by
            intro  H locs ls hP hD hS hl hf
            rw [hj_66] at hf
            refine lv_iload_n hx hb dX12_look_66 rfl (lv_at hl 1 rfl) ?_
            refine lv_bipush (v := 20) hx hb dX12_look_67 (by decide) ?_
            refine jn_elim hf (fun j_93 hj_93 hf => ?_)
            have J_93 : ∀  (H : Heap) (locs : List Loc) (ls : Array Slot), va_P g.1 vwCl [oX12 h h_tape v_taped h_text v_size v_token v_begin v_end v_tokens v_code v_faultKind v_faultPlace v_names v_blocks h_nameCode h_nameBlock h_blockMany h_blockAll v_nodeMany v_top h_kind h_left h_right v_namesWas v_blocksWas v_nodeManyWas v_topWas h_nameCodeWas h_nameBlockWas h_blockManyWas h_blockAllWas h_kindWas h_leftWas h_rightWas h_wait h_done v_waits v_dones v_opened h_leaf h_fold h_kept h_now v_played v_depth v_prefix h_moveMade h_out v_written h_later v_laters, aI g h_blockMany 6 v_blockMany, aI g h_nameCode 12 v_nameCode, aI g h_nameBlock 12 v_nameBlock] H → va_D A [oX12 h h_tape v_taped h_text v_size v_token v_begin v_end v_tokens v_code v_faultKind v_faultPlace v_names v_blocks h_nameCode h_nameBlock h_blockMany h_blockAll v_nodeMany v_top h_kind h_left h_right v_namesWas v_blocksWas v_nodeManyWas v_topWas h_nameCodeWas h_nameBlockWas h_blockManyWas h_blockAllWas h_kindWas h_leftWas h_rightWas h_wait h_done v_waits v_dones v_opened h_leaf h_fold h_kept h_now v_played v_depth v_prefix h_moveMade h_out v_written h_later v_laters, aI g h_blockMany 6 v_blockMany, aI g h_nameCode 12 v_nameCode, aI g h_nameBlock 12 v_nameBlock] → va_S A s.heap H locs → lv_has ls 3 [(0, .ref h), (1, .int a1)] → j_93  = some r_ → W p l e ({ frames := 0, cells := 0, slots := 0, locals := 0 }) s m [.ref h, .int a1].toArray below meth c H locs 0 0 (MQ below (fun _ => QW g [oX12 h h_tape v_taped h_text v_size v_token v_begin v_end v_tokens v_code v_faultKind v_faultPlace v_names v_blocks h_nameCode h_nameBlock h_blockMany h_blockAll v_nodeMany v_top h_kind h_left h_right v_namesWas v_blocksWas v_nodeManyWas v_topWas h_nameCodeWas h_nameBlockWas h_blockManyWas h_blockAllWas h_kindWas h_leftWas h_rightWas h_wait h_done v_waits v_dones v_opened h_leaf h_fold h_kept h_now v_played v_depth v_prefix h_moveMade h_out v_written h_later v_laters, aI g h_blockMany 6 v_blockMany, aI g h_nameCode 12 v_nameCode, aI g h_nameBlock 12 v_nameBlock] s.heap.size (some (.int r_)) [oX12 h h_tape v_taped h_text v_size v_token v_begin v_end v_tokens v_code v_faultKind v_faultPlace v_names v_blocks h_nameCode h_nameBlock h_blockMany h_blockAll v_nodeMany v_top h_kind h_left h_right v_namesWas v_blocksWas v_nodeManyWas v_topWas h_nameCodeWas h_nameBlockWas h_blockManyWas h_blockAllWas h_kindWas h_leftWas h_rightWas h_wait h_done v_waits v_dones v_opened h_leaf h_fold h_kept h_now v_played v_depth v_prefix h_moveMade h_out v_written h_later v_laters, aI g h_blockMany 6 v_blockMany, aI g h_nameCode 12 v_nameCode, aI g h_nameBlock 12 v_nameBlock]) [.ref h, .int a1].toArray s 0 0 (va_A [oX12 h h_tape v_taped h_text v_size v_token v_begin v_end v_tokens v_code v_faultKind v_faultPlace v_names v_blocks h_nameCode h_nameBlock h_blockMany h_blockAll v_nodeMany v_top h_kind h_left h_right v_namesWas v_blocksWas v_nodeManyWas v_topWas h_nameCodeWas h_nameBlockWas h_blockManyWas h_blockAllWas h_kindWas h_leftWas h_rightWas h_wait h_done v_waits v_dones v_opened h_leaf h_fold h_kept h_now v_played v_depth v_prefix h_moveMade h_out v_written h_later v_laters, aI g h_blockMany 6 v_blockMany, aI g h_nameCode 12 v_nameCode, aI g h_nameBlock 12 v_nameBlock] s.heap.size)) (F0 m 93 ls []) := by
              intro  H locs ls hP hD hS hl hf
              rw [hj_93] at hf
              refine lv_iload_n hx hb dX12_look_93 rfl (lv_at hl 1 rfl) ?_
              refine lv_bipush (v := 40) hx hb dX12_look_94 (by decide) ?_
              refine jn_elim hf (fun j_120 hj_120 hf => ?_)
              have J_120 : ∀  (H : Heap) (locs : List Loc) (ls : Array Slot), va_P g.1 vwCl [oX12 h h_tape v_taped h_text v_size v_token v_begin v_end v_tokens v_code v_faultKind v_faultPlace v_names v_blocks h_nameCode h_nameBlock h_blockMany h_blockAll v_nodeMany v_top h_kind h_left h_right v_namesWas v_blocksWas v_nodeManyWas v_topWas h_nameCodeWas h_nameBlockWas h_blockManyWas h_blockAllWas h_kindWas h_leftWas h_rightWas h_wait h_done v_waits v_dones v_opened h_leaf h_fold h_kept h_now v_played v_depth v_prefix h_moveMade h_out v_written h_later v_laters, aI g h_blockMany 6 v_blockMany, aI g h_nameCode 12 v_nameCode, aI g h_nameBlock 12 v_nameBlock] H → va_D A [oX12 h h_tape v_taped h_text v_size v_token v_begin v_end v_tokens v_code v_faultKind v_faultPlace v_names v_blocks h_nameCode h_nameBlock h_blockMany h_blockAll v_nodeMany v_top h_kind h_left h_right v_namesWas v_blocksWas v_nodeManyWas v_topWas h_nameCodeWas h_nameBlockWas h_blockManyWas h_blockAllWas h_kindWas h_leftWas h_rightWas h_wait h_done v_waits v_dones v_opened h_leaf h_fold h_kept h_now v_played v_depth v_prefix h_moveMade h_out v_written h_later v_laters, aI g h_blockMany 6 v_blockMany, aI g h_nameCode 12 v_nameCode, aI g h_nameBlock 12 v_nameBlock] → va_S A s.heap H locs → lv_has ls 3 [(0, .ref h), (1, .int a1)] → j_120  = some r_ → W p l e ({ frames := 0, cells := 0, slots := 0, locals := 0 }) s m [.ref h, .int a1].toArray below meth c H locs 0 0 (MQ below (fun _ => QW g [oX12 h h_tape v_taped h_text v_size v_token v_begin v_end v_tokens v_code v_faultKind v_faultPlace v_names v_blocks h_nameCode h_nameBlock h_blockMany h_blockAll v_nodeMany v_top h_kind h_left h_right v_namesWas v_blocksWas v_nodeManyWas v_topWas h_nameCodeWas h_nameBlockWas h_blockManyWas h_blockAllWas h_kindWas h_leftWas h_rightWas h_wait h_done v_waits v_dones v_opened h_leaf h_fold h_kept h_now v_played v_depth v_prefix h_moveMade h_out v_written h_later v_laters, aI g h_blockMany 6 v_blockMany, aI g h_nameCode 12 v_nameCode, aI g h_nameBlock 12 v_nameBlock] s.heap.size (some (.int r_)) [oX12 h h_tape v_taped h_text v_size v_token v_begin v_end v_tokens v_code v_faultKind v_faultPlace v_names v_blocks h_nameCode h_nameBlock h_blockMany h_blockAll v_nodeMany v_top h_kind h_left h_right v_namesWas v_blocksWas v_nodeManyWas v_topWas h_nameCodeWas h_nameBlockWas h_blockManyWas h_blockAllWas h_kindWas h_leftWas h_rightWas h_wait h_done v_waits v_dones v_opened h_leaf h_fold h_kept h_now v_played v_depth v_prefix h_moveMade h_out v_written h_later v_laters, aI g h_blockMany 6 v_blockMany, aI g h_nameCode 12 v_nameCode, aI g h_nameBlock 12 v_nameBlock]) [.ref h, .int a1].toArray s 0 0 (va_A [oX12 h h_tape v_taped h_text v_size v_token v_begin v_end v_tokens v_code v_faultKind v_faultPlace v_names v_blocks h_nameCode h_nameBlock h_blockMany h_blockAll v_nodeMany v_top h_kind h_left h_right v_namesWas v_blocksWas v_nodeManyWas v_topWas h_nameCodeWas h_nameBlockWas h_blockManyWas h_blockAllWas h_kindWas h_leftWas h_rightWas h_wait h_done v_waits v_dones v_opened h_leaf h_fold h_kept h_now v_played v_depth v_prefix h_moveMade h_out v_written h_later v_laters, aI g h_blockMany 6 v_blockMany, aI g h_nameCode 12 v_nameCode, aI g h_nameBlock 12 v_nameBlock] s.heap.size)) (F0 m 120 ls []) := by
                intro  H locs ls hP hD hS hl hf
                rw [hj_120] at hf
                refine lv_iload_n hx hb dX12_look_120 rfl (lv_at hl 1 rfl) ?_
                refine lv_bipush (v := 60) hx hb dX12_look_121 (by decide) ?_
                refine lv_icmp_lt (tgt := 137) hx hb dX12_look_123 (by decide) (fun c_5 => ?_) (fun c_5 => ?_)
                · have hf := ift hf c_5
                  refine lv_iconst (v := (-1)) hx hb dX12_look_137 (by decide) ?_
                  cases hf
                  exact ret_i X hAe hP hD hS rfl dX12_look_138
                · have hf := iff_ hf c_5
                  refine lv_iload_n hx hb dX12_look_126 rfl (lv_at hl 1 rfl) ?_
                  refine lv_bipush (v := 60) hx hb dX12_look_127 (by decide) ?_
                  refine lv_aload_n hx hb dX12_look_129 rfl (lv_at hl 0 rfl) ?_
                  refine gf_X12_159 X rfl hP 0 rfl rfl dX12_look_130 ?_
                  refine lv_iadd hx hb dX12_look_133 ?_
                  refine lv_icmp_lt (tgt := 139) hx hb dX12_look_134 (by decide) (fun c_6 => ?_) (fun c_6 => ?_)
                  · have hf := ift hf c_6
                    refine lv_iload_n hx hb dX12_look_139 rfl (lv_at hl 1 rfl) ?_
                    refine lv_bipush (v := 60) hx hb dX12_look_140 (by decide) ?_
                    refine lv_isub hx hb dX12_look_142 ?_
                    refine lv_istore_n (lv' := [(2, .int (a1 - (60 : Int32))), (0, .ref h), (1, .int a1)]) hx hb dX12_look_143 rfl hl (by decide) rfl (fun ls hl => ?_)
                    refine lv_iload_n hx hb dX12_look_144 rfl (lv_at hl 0 rfl) ?_
                    refine lv_aload_n hx hb dX12_look_145 rfl (lv_at hl 1 rfl) ?_
                    refine gf_X12_225 X rfl hP 0 rfl rfl dX12_look_146 ?_
                    refine lv_icmp_ge (tgt := 170) hx hb dX12_look_149 (by decide) (fun c_7 => ?_) (fun c_7 => ?_)
                    · have hf := ift hf c_7
                      refine lv_iconst (v := (-1)) hx hb dX12_look_170 (by decide) ?_
                      cases hf
                      exact ret_i X hAe hP hD hS rfl dX12_look_171
                    · have hf := iff_ hf c_7
                      refine lv_aload_n hx hb dX12_look_152 rfl (lv_at hl 1 rfl) ?_
                      refine gf_X12_228 X rfl hP 0 rfl rfl dX12_look_153 ?_
                      refine lv_aload_n hx hb dX12_look_156 rfl (lv_at hl 1 rfl) ?_
                      refine gf_X12_225 X rfl hP 0 rfl rfl dX12_look_157 ?_
                      refine lv_iconst (v := 1) hx hb dX12_look_160 (by decide) ?_
                      refine lv_isub hx hb dX12_look_161 ?_
                      refine lv_iload_n hx hb dX12_look_162 rfl (lv_at hl 0 rfl) ?_
                      refine lv_isub hx hb dX12_look_163 ?_
                      refine lv_ishr hx hb dX12_look_164 ?_
                      refine lv_iconst (v := 1) hx hb dX12_look_165 (by decide) ?_
                      refine lv_iand hx hb dX12_look_166 ?_
                      refine lv_goto (tgt := 171) hx hb dX12_look_167 (by decide) ?_
                      cases hf
                      exact ret_i X hAe hP hD hS rfl dX12_look_171
                  · have hf := iff_ hf c_6
                    refine lv_iconst (v := (-1)) hx hb dX12_look_137 (by decide) ?_
                    cases hf
                    exact ret_i X hAe hP hD hS rfl dX12_look_138
              refine lv_icmp_lt (tgt := 120) hx hb dX12_look_96 (by decide) (fun c_8 => ?_) (fun c_8 => ?_)
              · have hf := ift hf c_8
                exact J_120  _ _ ls hP hD hS (lv_sub hl [0, 1] rfl) hf
              · have hf := iff_ hf c_8
                refine lv_iload_n hx hb dX12_look_99 rfl (lv_at hl 1 rfl) ?_
                refine lv_bipush (v := 40) hx hb dX12_look_100 (by decide) ?_
                refine lv_aload_n hx hb dX12_look_102 rfl (lv_at hl 0 rfl) ?_
                refine gf_X12_159 X rfl hP 0 rfl rfl dX12_look_103 ?_
                refine lv_iadd hx hb dX12_look_106 ?_
                refine lv_icmp_ge (tgt := 120) hx hb dX12_look_107 (by decide) (fun c_9 => ?_) (fun c_9 => ?_)
                · have hf := ift hf c_9
                  exact J_120  _ _ ls hP hD hS (lv_sub hl [0, 1] rfl) hf
                · have hf := iff_ hf c_9
                  refine lv_aload_n hx hb dX12_look_110 rfl (lv_at hl 0 rfl) ?_
                  refine gf_X12_24 X rfl hP 0 rfl rfl dX12_look_111 ?_
                  refine lv_iload_n hx hb dX12_look_114 rfl (lv_at hl 1 rfl) ?_
                  refine lv_bipush (v := 40) hx hb dX12_look_115 (by decide) ?_
                  refine lv_isub hx hb dX12_look_117 ?_
                  obtain ⟨hi_10, hf⟩ := ifs hf
                  refine va_iald (D := g.1) hx hb hG.1 hP 3 1 rfl rfl (ix_in hi_10) dX12_look_118 ?_
                  cases hf
                  exact ret_i X hAe hP hD hS rfl dX12_look_119
            refine lv_icmp_lt (tgt := 93) hx hb dX12_look_69 (by decide) (fun c_11 => ?_) (fun c_11 => ?_)
            · have hf := ift hf c_11
              exact J_93  _ _ ls hP hD hS (lv_sub hl [0, 1] rfl) hf
            · have hf := iff_ hf c_11
              refine lv_iload_n hx hb dX12_look_72 rfl (lv_at hl 1 rfl) ?_
              refine lv_bipush (v := 20) hx hb dX12_look_73 (by decide) ?_
              refine lv_aload_n hx hb dX12_look_75 rfl (lv_at hl 0 rfl) ?_
              refine gf_X12_159 X rfl hP 0 rfl rfl dX12_look_76 ?_
              refine lv_iadd hx hb dX12_look_79 ?_
              refine lv_icmp_ge (tgt := 93) hx hb dX12_look_80 (by decide) (fun c_12 => ?_) (fun c_12 => ?_)
              · have hf := ift hf c_12
                exact J_93  _ _ ls hP hD hS (lv_sub hl [0, 1] rfl) hf
              · have hf := iff_ hf c_12
                refine lv_aload_n hx hb dX12_look_83 rfl (lv_at hl 0 rfl) ?_
                refine gf_X12_20 X rfl hP 0 rfl rfl dX12_look_84 ?_
                refine lv_iload_n hx hb dX12_look_87 rfl (lv_at hl 1 rfl) ?_
                refine lv_bipush (v := 20) hx hb dX12_look_88 (by decide) ?_
                refine lv_isub hx hb dX12_look_90 ?_
                obtain ⟨hi_13, hf⟩ := ifs hf
                refine va_iald (D := g.1) hx hb hG.1 hP 2 1 rfl rfl (ix_in hi_13) dX12_look_91 ?_
                cases hf
                exact ret_i X hAe hP hD hS rfl dX12_look_92
          refine lv_icmp_lt (tgt := 66) hx hb dX12_look_42 (by decide) (fun c_14 => ?_) (fun c_14 => ?_)
          · have hf := ift hf c_14
            exact J_66  _ _ ls hP hD hS (lv_sub hl [0, 1] rfl) hf
          · have hf := iff_ hf c_14
            refine lv_iload_n hx hb dX12_look_45 rfl (lv_at hl 1 rfl) ?_
            refine lv_bipush (v := 10) hx hb dX12_look_46 (by decide) ?_
            refine lv_aload_n hx hb dX12_look_48 rfl (lv_at hl 0 rfl) ?_
            refine gf_X12_165 X rfl hP 0 rfl rfl dX12_look_49 ?_
            refine lv_iadd hx hb dX12_look_52 ?_
            refine lv_icmp_ge (tgt := 66) hx hb dX12_look_53 (by decide) (fun c_15 => ?_) (fun c_15 => ?_)
            · have hf := ift hf c_15
              exact J_66  _ _ ls hP hD hS (lv_sub hl [0, 1] rfl) hf
            · have hf := iff_ hf c_15
              refine lv_aload_n hx hb dX12_look_56 rfl (lv_at hl 0 rfl) ?_
              refine gf_X12_27 X rfl hP 0 rfl rfl dX12_look_57 ?_
              refine lv_iload_n hx hb dX12_look_60 rfl (lv_at hl 1 rfl) ?_
              refine lv_bipush (v := 10) hx hb dX12_look_61 (by decide) ?_
              refine lv_isub hx hb dX12_look_63 ?_
              obtain ⟨hi_16, hf⟩ := ifs hf
              refine va_iald (D := g.1) hx hb hG.1 hP 1 1 rfl rfl (ix_in hi_16) dX12_look_64 ?_
              cases hf
              exact ret_i X hAe hP hD hS rfl dX12_look_65
        · have hf := ift hf c_4
          refine lv_aload_n hx hb dX12_look_34 rfl (lv_at hl 0 rfl) ?_
          refine gf_X12_107 X rfl hP 0 rfl rfl dX12_look_35 ?_
          cases hf
          exact ret_i X hAe hP hD hS rfl dX12_look_38
      · have hf := ift hf c_3
        refine lv_aload_n hx hb dX12_look_24 rfl (lv_at hl 0 rfl) ?_
        refine gf_X12_222 X rfl hP 0 rfl rfl dX12_look_25 ?_
        cases hf
        exact ret_i X hAe hP hD hS rfl dX12_look_28
    · have hf := ift hf c_2
      refine lv_aload_n hx hb dX12_look_14 rfl (lv_at hl 0 rfl) ?_
      refine gf_X12_165 X rfl hP 0 rfl rfl dX12_look_15 ?_
      cases hf
      exact ret_i X hAe hP hD hS rfl dX12_look_18
  · have hf := ift hf c_1
    refine lv_aload_n hx hb dX12_look_4 rfl (lv_at hl 0 rfl) ?_
    refine gf_X12_159 X rfl hP 0 rfl rfl dX12_look_5 ?_
    cases hf
    exact ret_i X hAe hP hD hS rfl dX12_look_8
