def f_X1_begin (v_waiting : Int32) (v_operands : Int32) (v_openSigns : Int32) (v_openParens : Int32) : Option (Int32 × Int32 × Int32 × Int32) :=
  some (0, 0, 0, 0)
set_option maxHeartbeats 4000000 in
set_option maxRecDepth 100000 in
theorem c_X1_begin (l : Launch) (g : GT) (h : Nat) (h_operators : Nat) (h_operatorPlaces : Nat) (h_firsts : Nat) (h_lasts : Nat) (h_levels : Nat) (h_formula : Nat) (v_waiting : Int32) (v_operands : Int32) (v_openSigns : Int32) (v_openParens : Int32) (h_p1 : Nat) (u_waiting : Int32) (u_operands : Int32) (u_openSigns : Int32) (u_openParens : Int32) (hf : f_X1_begin v_waiting v_operands v_openSigns v_openParens = some (u_waiting, u_operands, u_openSigns, u_openParens)) : Con l g yX1_begin cX1_begin 2 none ({ frames := 0, cells := 0, slots := 0, locals := 0 }) [.ref h, .ref h_p1] [oX1 h h_operators h_operatorPlaces h_firsts h_lasts h_levels h_formula v_waiting v_operands v_openSigns v_openParens] none [oX1 h h_operators h_operatorPlaces h_firsts h_lasts h_levels h_p1 u_waiting u_operands u_openSigns u_openParens] := by
  refine Con.of (by decide) (Nat.le_of_ble_eq_true rfl) ?_
  intro p e s m below meth c A ls hAe X hP hD hS hl
  obtain ⟨hx, hb, hml, hr, hown, hts, hlk, hnm, hA, hG, hZ⟩ := id X
  have hown : s.vm.findClass RX1 = some m.cls := hown
  have hl : lv_has ls 2 [(0, .ref h), (1, .ref h_p1)] := hl
  unfold f_X1_begin at hf
  refine lv_aload_n hx hb dX1_begin_0 rfl (lv_at hl 0 rfl) ?_
  refine lv_aload_n hx hb dX1_begin_1 rfl (lv_at hl 1 rfl) ?_
  refine pf_X1_27 X rfl hP hD hS 0 rfl (Nat.le_of_ble_eq_true rfl) dX1_begin_2 (fun H locs hP hD hS => ?_)
  have hP : va_P g.1 vwCl [oX1 h h_operators h_operatorPlaces h_firsts h_lasts h_levels h_p1 v_waiting v_operands v_openSigns v_openParens] H := hP
  have hD : va_D A [oX1 h h_operators h_operatorPlaces h_firsts h_lasts h_levels h_p1 v_waiting v_operands v_openSigns v_openParens] := hD
  refine lv_aload_n hx hb dX1_begin_5 rfl (lv_at hl 0 rfl) ?_
  refine lv_iconst (v := 0) hx hb dX1_begin_6 (by decide) ?_
  refine pf_X1_31 X rfl hP hD hS 0 rfl (Nat.le_of_ble_eq_true rfl) dX1_begin_7 (fun H locs hP hD hS => ?_)
  have hP : va_P g.1 vwCl [oX1 h h_operators h_operatorPlaces h_firsts h_lasts h_levels h_p1 0 v_operands v_openSigns v_openParens] H := hP
  have hD : va_D A [oX1 h h_operators h_operatorPlaces h_firsts h_lasts h_levels h_p1 0 v_operands v_openSigns v_openParens] := hD
  refine lv_aload_n hx hb dX1_begin_10 rfl (lv_at hl 0 rfl) ?_
  refine lv_iconst (v := 0) hx hb dX1_begin_11 (by decide) ?_
  refine pf_X1_35 X rfl hP hD hS 0 rfl (Nat.le_of_ble_eq_true rfl) dX1_begin_12 (fun H locs hP hD hS => ?_)
  have hP : va_P g.1 vwCl [oX1 h h_operators h_operatorPlaces h_firsts h_lasts h_levels h_p1 0 0 v_openSigns v_openParens] H := hP
  have hD : va_D A [oX1 h h_operators h_operatorPlaces h_firsts h_lasts h_levels h_p1 0 0 v_openSigns v_openParens] := hD
  refine lv_aload_n hx hb dX1_begin_15 rfl (lv_at hl 0 rfl) ?_
  refine lv_iconst (v := 0) hx hb dX1_begin_16 (by decide) ?_
  refine pf_X1_38 X rfl hP hD hS 0 rfl (Nat.le_of_ble_eq_true rfl) dX1_begin_17 (fun H locs hP hD hS => ?_)
  have hP : va_P g.1 vwCl [oX1 h h_operators h_operatorPlaces h_firsts h_lasts h_levels h_p1 0 0 0 v_openParens] H := hP
  have hD : va_D A [oX1 h h_operators h_operatorPlaces h_firsts h_lasts h_levels h_p1 0 0 0 v_openParens] := hD
  refine lv_aload_n hx hb dX1_begin_20 rfl (lv_at hl 0 rfl) ?_
  refine lv_iconst (v := 0) hx hb dX1_begin_21 (by decide) ?_
  refine pf_X1_41 X rfl hP hD hS 0 rfl (Nat.le_of_ble_eq_true rfl) dX1_begin_22 (fun H locs hP hD hS => ?_)
  have hP : va_P g.1 vwCl [oX1 h h_operators h_operatorPlaces h_firsts h_lasts h_levels h_p1 0 0 0 0] H := hP
  have hD : va_D A [oX1 h h_operators h_operatorPlaces h_firsts h_lasts h_levels h_p1 0 0 0 0] := hD
  cases hf
  exact ret_v X hAe hP hD hS rfl dX1_begin_25
def f_X1_pushOperator (v_waiting : Int32) (v_operators : Nat → Int32) (v_operatorPlaces : Nat → Int32) (a1 : Int32) (a2 : Int32) : Option (Int32 × (Nat → Int32) × (Nat → Int32)) :=
  (f_X11_within v_waiting 160).bind fun r_1 =>
  if b2i r_1 = 0 then
  some (v_waiting, v_operators, v_operatorPlaces)
  else
  (if ix v_waiting 160 then
  if ix v_waiting 160 then
  some (v_waiting + (1 : Int32), upd v_operators v_waiting.toNatClampNeg a1, upd v_operatorPlaces v_waiting.toNatClampNeg a2)
  else none
  else none)
set_option maxHeartbeats 4000000 in
set_option maxRecDepth 100000 in
theorem c_X1_pushOperator (l : Launch) (g : GT) (h : Nat) (h_operators : Nat) (h_operatorPlaces : Nat) (h_firsts : Nat) (h_lasts : Nat) (h_levels : Nat) (h_formula : Nat) (v_waiting : Int32) (v_operands : Int32) (v_openSigns : Int32) (v_openParens : Int32) (v_operators : Nat → Int32) (v_operatorPlaces : Nat → Int32) (a1 : Int32) (a2 : Int32) (u_waiting : Int32) (u_operators : Nat → Int32) (u_operatorPlaces : Nat → Int32) (hf : f_X1_pushOperator v_waiting v_operators v_operatorPlaces a1 a2 = some (u_waiting, u_operators, u_operatorPlaces)) : Con l g yX1_pushOperator cX1_pushOperator 3 none ({ frames := 1, cells := 0, slots := 0, locals := 21 }) [.ref h, .int a1, .int a2] [oX1 h h_operators h_operatorPlaces h_firsts h_lasts h_levels h_formula v_waiting v_operands v_openSigns v_openParens, aI g h_operators 160 v_operators, aI g h_operatorPlaces 160 v_operatorPlaces] none [oX1 h h_operators h_operatorPlaces h_firsts h_lasts h_levels h_formula u_waiting v_operands v_openSigns v_openParens, aI g h_operators 160 u_operators, aI g h_operatorPlaces 160 u_operatorPlaces] := by
  refine Con.of (by decide) (Nat.le_of_ble_eq_true rfl) ?_
  intro p e s m below meth c A ls hAe X hP hD hS hl
  obtain ⟨hx, hb, hml, hr, hown, hts, hlk, hnm, hA, hG, hZ⟩ := id X
  have hown : s.vm.findClass RX1 = some m.cls := hown
  have hl : lv_has ls 3 [(0, .ref h), (1, .int a1), (2, .int a2)] := hl
  unfold f_X1_pushOperator at hf
  refine lv_aload_n hx hb dX1_pushOperator_0 rfl (lv_at hl 0 rfl) ?_
  refine gf_X1_31 X rfl hP 0 rfl rfl dX1_pushOperator_1 ?_
  refine lv_sipush (v := 160) hx hb dX1_pushOperator_4 (by decide) ?_
  obtain ⟨r_1, hf_2, hf⟩ := obind hf
  refine gcSN (rest := []) (wn := [oX1 h h_operators h_operatorPlaces h_firsts h_lasts h_levels h_formula v_waiting v_operands v_openSigns v_openParens, aI g h_operators 160 v_operators, aI g h_operatorPlaces 160 v_operatorPlaces]) X hP hD hS hl (c_X11_within l g v_waiting 160 r_1 hf_2) [] rfl rfl rfl [.inl 0, .inl 1, .inl 2] rfl rfl cd_X11_within rfl st_X11_within ml_X1_58 rfl rfl ⟨(Nat.le_of_ble_eq_true rfl), (Nat.le_of_ble_eq_true rfl)⟩ rfl (Nat.le_of_ble_eq_true rfl) dX1_pushOperator_7 ⟨(Nat.le_of_ble_eq_true rfl), (Nat.le_of_ble_eq_true rfl)⟩ (fun H locs hP hD hS => ?_)
  refine lv_if_eq (tgt := 43) hx hb dX1_pushOperator_10 (by decide) (fun c_3 => ?_) (fun c_3 => ?_)
  · have hf := ift hf c_3
    cases hf
    exact ret_v X hAe hP hD hS rfl dX1_pushOperator_43
  · have hf := iff_ hf c_3
    refine lv_aload_n hx hb dX1_pushOperator_13 rfl (lv_at hl 0 rfl) ?_
    refine gf_X1_9 X rfl hP 0 rfl rfl dX1_pushOperator_14 ?_
    refine lv_aload_n hx hb dX1_pushOperator_17 rfl (lv_at hl 0 rfl) ?_
    refine gf_X1_31 X rfl hP 0 rfl rfl dX1_pushOperator_18 ?_
    refine lv_iload_n hx hb dX1_pushOperator_21 rfl (lv_at hl 1 rfl) ?_
    obtain ⟨hi_4, hf⟩ := ifs hf
    refine va_iast (D := g.1) hx hb hG.1 hP hD hS 1 1 rfl rfl (ix_in hi_4) dX1_pushOperator_22 (fun H locs hP hD hS => ?_)
    have hP : va_P g.1 vwCl [oX1 h h_operators h_operatorPlaces h_firsts h_lasts h_levels h_formula v_waiting v_operands v_openSigns v_openParens, aI g h_operators 160 (upd v_operators v_waiting.toNatClampNeg a1), aI g h_operatorPlaces 160 v_operatorPlaces] H := hP
    have hD : va_D A [oX1 h h_operators h_operatorPlaces h_firsts h_lasts h_levels h_formula v_waiting v_operands v_openSigns v_openParens, aI g h_operators 160 (upd v_operators v_waiting.toNatClampNeg a1), aI g h_operatorPlaces 160 v_operatorPlaces] := hD
    refine lv_aload_n hx hb dX1_pushOperator_23 rfl (lv_at hl 0 rfl) ?_
    refine gf_X1_15 X rfl hP 0 rfl rfl dX1_pushOperator_24 ?_
    refine lv_aload_n hx hb dX1_pushOperator_27 rfl (lv_at hl 0 rfl) ?_
    refine gf_X1_31 X rfl hP 0 rfl rfl dX1_pushOperator_28 ?_
    refine lv_iload_n hx hb dX1_pushOperator_31 rfl (lv_at hl 2 rfl) ?_
    obtain ⟨hi_5, hf⟩ := ifs hf
    refine va_iast (D := g.1) hx hb hG.1 hP hD hS 2 1 rfl rfl (ix_in hi_5) dX1_pushOperator_32 (fun H locs hP hD hS => ?_)
    have hP : va_P g.1 vwCl [oX1 h h_operators h_operatorPlaces h_firsts h_lasts h_levels h_formula v_waiting v_operands v_openSigns v_openParens, aI g h_operators 160 (upd v_operators v_waiting.toNatClampNeg a1), aI g h_operatorPlaces 160 (upd v_operatorPlaces v_waiting.toNatClampNeg a2)] H := hP
    have hD : va_D A [oX1 h h_operators h_operatorPlaces h_firsts h_lasts h_levels h_formula v_waiting v_operands v_openSigns v_openParens, aI g h_operators 160 (upd v_operators v_waiting.toNatClampNeg a1), aI g h_operatorPlaces 160 (upd v_operatorPlaces v_waiting.toNatClampNeg a2)] := hD
    refine lv_aload_n hx hb dX1_pushOperator_33 rfl (lv_at hl 0 rfl) ?_
    refine lv_dup hx hb dX1_pushOperator_34 rfl ?_
    refine gf_X1_31 X rfl hP 0 rfl rfl dX1_pushOperator_35 ?_
    refine lv_iconst (v := 1) hx hb dX1_pushOperator_38 (by decide) ?_
    refine lv_iadd hx hb dX1_pushOperator_39 ?_
    refine pf_X1_31 X rfl hP hD hS 0 rfl (Nat.le_of_ble_eq_true rfl) dX1_pushOperator_40 (fun H locs hP hD hS => ?_)
    have hP : va_P g.1 vwCl [oX1 h h_operators h_operatorPlaces h_firsts h_lasts h_levels h_formula (v_waiting + (1 : Int32)) v_operands v_openSigns v_openParens, aI g h_operators 160 (upd v_operators v_waiting.toNatClampNeg a1), aI g h_operatorPlaces 160 (upd v_operatorPlaces v_waiting.toNatClampNeg a2)] H := hP
    have hD : va_D A [oX1 h h_operators h_operatorPlaces h_firsts h_lasts h_levels h_formula (v_waiting + (1 : Int32)) v_operands v_openSigns v_openParens, aI g h_operators 160 (upd v_operators v_waiting.toNatClampNeg a1), aI g h_operatorPlaces 160 (upd v_operatorPlaces v_waiting.toNatClampNeg a2)] := hD
    cases hf
    exact ret_v X hAe hP hD hS rfl dX1_pushOperator_43
def f_X1_openSign (v_waiting : Int32) (v_openSigns : Int32) (v_openParens : Int32) (v_formula_length : Int32) (v_formula_symbols : Nat → Int32) (v_formula_opens : Nat → Int32) (v_formula_closes : Nat → Int32) (v_operators : Nat → Int32) (v_operatorPlaces : Nat → Int32) (a1 : Int32) : Option (Bool × Int32 × Int32 × Int32 × Int32 × (Nat → Int32) × (Nat → Int32) × (Nat → Int32) × (Nat → Int32) × (Nat → Int32)) :=
  if v_openSigns < 20 then
  (if a1 = 40 then
  ((f_X1_pushOperator v_waiting v_operators v_operatorPlaces a1 (-1)).bind fun (v_waiting_13, v_operators_14, v_operatorPlaces_15) =>
  some (true, v_waiting_13, v_openSigns + (1 : Int32), v_openParens + (1 : Int32), v_formula_length, v_formula_symbols, v_formula_opens, v_formula_closes, v_operators_14, v_operatorPlaces_15))
  else
  ((f_X2_addSymbol v_formula_length v_formula_symbols v_formula_opens v_formula_closes a1).bind fun (r_3, v_formula_length_4, v_formula_symbols_5, v_formula_opens_6, v_formula_closes_7) =>
  (f_X1_pushOperator v_waiting v_operators v_operatorPlaces a1 r_3).bind fun (v_waiting_9, v_operators_10, v_operatorPlaces_11) =>
  some (true, v_waiting_9, v_openSigns + (1 : Int32), v_openParens, v_formula_length_4, v_formula_symbols_5, v_formula_opens_6, v_formula_closes_7, v_operators_10, v_operatorPlaces_11)))
  else
  some (false, v_waiting, v_openSigns, v_openParens, v_formula_length, v_formula_symbols, v_formula_opens, v_formula_closes, v_operators, v_operatorPlaces)
set_option maxHeartbeats 4000000 in
set_option maxRecDepth 100000 in
theorem c_X1_openSign (l : Launch) (g : GT) (h : Nat) (h_operators : Nat) (h_operatorPlaces : Nat) (h_firsts : Nat) (h_lasts : Nat) (h_levels : Nat) (h_formula : Nat) (v_waiting : Int32) (v_operands : Int32) (v_openSigns : Int32) (v_openParens : Int32) (h_formula_symbols : Nat) (h_formula_opens : Nat) (h_formula_closes : Nat) (h_formula_steps : Nat) (v_formula_length : Int32) (v_formula_stepCount : Int32) (v_formula_symbols : Nat → Int32) (v_formula_opens : Nat → Int32) (v_formula_closes : Nat → Int32) (v_operators : Nat → Int32) (v_operatorPlaces : Nat → Int32) (a1 : Int32) (r_ : Bool) (u_waiting : Int32) (u_openSigns : Int32) (u_openParens : Int32) (u_formula_length : Int32) (u_formula_symbols : Nat → Int32) (u_formula_opens : Nat → Int32) (u_formula_closes : Nat → Int32) (u_operators : Nat → Int32) (u_operatorPlaces : Nat → Int32) (hf : f_X1_openSign v_waiting v_openSigns v_openParens v_formula_length v_formula_symbols v_formula_opens v_formula_closes v_operators v_operatorPlaces a1 = some (r_, u_waiting, u_openSigns, u_openParens, u_formula_length, u_formula_symbols, u_formula_opens, u_formula_closes, u_operators, u_operatorPlaces)) : Con l g yX1_openSign cX1_openSign 2 (some .boolean) ({ frames := 2, cells := 0, slots := 0, locals := 43 }) [.ref h, .int a1] [oX1 h h_operators h_operatorPlaces h_firsts h_lasts h_levels h_formula v_waiting v_operands v_openSigns v_openParens, oX2 h_formula h_formula_symbols h_formula_opens h_formula_closes h_formula_steps v_formula_length v_formula_stepCount, aI g h_formula_symbols 160 v_formula_symbols, aI g h_formula_opens 160 v_formula_opens, aI g h_formula_closes 160 v_formula_closes, aI g h_operators 160 v_operators, aI g h_operatorPlaces 160 v_operatorPlaces] (some (.int (b2i r_))) [oX1 h h_operators h_operatorPlaces h_firsts h_lasts h_levels h_formula u_waiting v_operands u_openSigns u_openParens, oX2 h_formula h_formula_symbols h_formula_opens h_formula_closes h_formula_steps u_formula_length v_formula_stepCount, aI g h_formula_symbols 160 u_formula_symbols, aI g h_formula_opens 160 u_formula_opens, aI g h_formula_closes 160 u_formula_closes, aI g h_operators 160 u_operators, aI g h_operatorPlaces 160 u_operatorPlaces] := by
  refine Con.of (by decide) (Nat.le_of_ble_eq_true rfl) ?_
  intro p e s m below meth c A ls hAe X hP hD hS hl
  obtain ⟨hx, hb, hml, hr, hown, hts, hlk, hnm, hA, hG, hZ⟩ := id X
  have hown : s.vm.findClass RX1 = some m.cls := hown
  have hl : lv_has ls 2 [(0, .ref h), (1, .int a1)] := hl
  unfold f_X1_openSign at hf
  refine lv_aload_n hx hb dX1_openSign_0 rfl (lv_at hl 0 rfl) ?_
  refine gf_X1_38 X rfl hP 0 rfl rfl dX1_openSign_1 ?_
  refine lv_bipush (v := 20) hx hb dX1_openSign_4 (by decide) ?_
  refine lv_icmp_lt (tgt := 11) hx hb dX1_openSign_6 (by decide) (fun c_1 => ?_) (fun c_1 => ?_)
  · have hf := ift hf c_1
    refine lv_aload_n hx hb dX1_openSign_11 rfl (lv_at hl 0 rfl) ?_
    refine lv_dup hx hb dX1_openSign_12 rfl ?_
    refine gf_X1_38 X rfl hP 0 rfl rfl dX1_openSign_13 ?_
    refine lv_iconst (v := 1) hx hb dX1_openSign_16 (by decide) ?_
    refine lv_iadd hx hb dX1_openSign_17 ?_
    refine pf_X1_38 X rfl hP hD hS 0 rfl (Nat.le_of_ble_eq_true rfl) dX1_openSign_18 (fun H locs hP hD hS => ?_)
    have hP : va_P g.1 vwCl [oX1 h h_operators h_operatorPlaces h_firsts h_lasts h_levels h_formula v_waiting v_operands (v_openSigns + (1 : Int32)) v_openParens, oX2 h_formula h_formula_symbols h_formula_opens h_formula_closes h_formula_steps v_formula_length v_formula_stepCount, aI g h_formula_symbols 160 v_formula_symbols, aI g h_formula_opens 160 v_formula_opens, aI g h_formula_closes 160 v_formula_closes, aI g h_operators 160 v_operators, aI g h_operatorPlaces 160 v_operatorPlaces] H := hP
    have hD : va_D A [oX1 h h_operators h_operatorPlaces h_firsts h_lasts h_levels h_formula v_waiting v_operands (v_openSigns + (1 : Int32)) v_openParens, oX2 h_formula h_formula_symbols h_formula_opens h_formula_closes h_formula_steps v_formula_length v_formula_stepCount, aI g h_formula_symbols 160 v_formula_symbols, aI g h_formula_opens 160 v_formula_opens, aI g h_formula_closes 160 v_formula_closes, aI g h_operators 160 v_operators, aI g h_operatorPlaces 160 v_operatorPlaces] := hD
    refine lv_iload_n hx hb dX1_openSign_21 rfl (lv_at hl 1 rfl) ?_
    refine lv_bipush (v := 40) hx hb dX1_openSign_22 (by decide) ?_
    refine lv_icmp_ne (tgt := 46) hx hb dX1_openSign_24 (by decide) (fun c_2 => ?_) (fun c_2 => ?_)
    · have hf := iff_ hf c_2
      refine lv_aload_n hx hb dX1_openSign_46 rfl (lv_at hl 0 rfl) ?_
      refine lv_iload_n hx hb dX1_openSign_47 rfl (lv_at hl 1 rfl) ?_
      refine lv_aload_n hx hb dX1_openSign_48 rfl (lv_at hl 0 rfl) ?_
      refine gf_X1_27 X rfl hP 0 rfl rfl dX1_openSign_49 ?_
      refine lv_iload_n hx hb dX1_openSign_52 rfl (lv_at hl 1 rfl) ?_
      obtain ⟨⟨r_3, v_formula_length_4, v_formula_symbols_5, v_formula_opens_6, v_formula_closes_7⟩, hf_8, hf⟩ := obind hf
      refine gcV (rest := [.int a1, .ref h]) (wn := [oX1 h h_operators h_operatorPlaces h_firsts h_lasts h_levels h_formula v_waiting v_operands (v_openSigns + (1 : Int32)) v_openParens, oX2 h_formula h_formula_symbols h_formula_opens h_formula_closes h_formula_steps v_formula_length_4 v_formula_stepCount, aI g h_formula_symbols 160 v_formula_symbols_5, aI g h_formula_opens 160 v_formula_opens_6, aI g h_formula_closes 160 v_formula_closes_7, aI g h_operators 160 v_operators, aI g h_operatorPlaces 160 v_operatorPlaces]) X hP hD hS hl (c_X2_addSymbol l g h_formula h_formula_symbols h_formula_opens h_formula_closes h_formula_steps v_formula_length v_formula_stepCount v_formula_symbols v_formula_opens v_formula_closes a1 r_3 v_formula_length_4 v_formula_symbols_5 v_formula_opens_6 v_formula_closes_7 hf_8) [1, 2, 3, 4] rfl rfl rfl [.inl 0, .inr 0, .inr 1, .inr 2, .inr 3, .inl 5, .inl 6] rfl rfl cd_X2_addSymbol rfl im_X2_addSymbol se_X2_addSymbol ml_X1_48 1 rfl rfl rfl rfl rfl ⟨(Nat.le_of_ble_eq_true rfl), (Nat.le_of_ble_eq_true rfl)⟩ rfl (Nat.le_of_ble_eq_true rfl) dX1_openSign_53 ⟨(Nat.le_of_ble_eq_true rfl), (Nat.le_of_ble_eq_true rfl)⟩ (fun H locs hP hD hS => ?_)
      obtain ⟨⟨v_waiting_9, v_operators_10, v_operatorPlaces_11⟩, hf_12, hf⟩ := obind hf
      refine gcV (rest := []) (wn := [oX1 h h_operators h_operatorPlaces h_firsts h_lasts h_levels h_formula v_waiting_9 v_operands (v_openSigns + (1 : Int32)) v_openParens, oX2 h_formula h_formula_symbols h_formula_opens h_formula_closes h_formula_steps v_formula_length_4 v_formula_stepCount, aI g h_formula_symbols 160 v_formula_symbols_5, aI g h_formula_opens 160 v_formula_opens_6, aI g h_formula_closes 160 v_formula_closes_7, aI g h_operators 160 v_operators_10, aI g h_operatorPlaces 160 v_operatorPlaces_11]) X hP hD hS hl (c_X1_pushOperator l g h h_operators h_operatorPlaces h_firsts h_lasts h_levels h_formula v_waiting v_operands (v_openSigns + (1 : Int32)) v_openParens v_operators v_operatorPlaces a1 r_3 v_waiting_9 v_operators_10 v_operatorPlaces_11 hf_12) [0, 5, 6] rfl rfl rfl [.inr 0, .inl 1, .inl 2, .inl 3, .inl 4, .inr 1, .inr 2] rfl rfl cd_X1_pushOperator rfl im_X1_pushOperator se_X1_pushOperator ml_X1_44 0 rfl rfl rfl rfl rfl ⟨(Nat.le_of_ble_eq_true rfl), (Nat.le_of_ble_eq_true rfl)⟩ rfl (Nat.le_of_ble_eq_true rfl) dX1_openSign_56 ⟨(Nat.le_of_ble_eq_true rfl), (Nat.le_of_ble_eq_true rfl)⟩ (fun H locs hP hD hS => ?_)
      refine lv_iconst (v := 1) hx hb dX1_openSign_59 (by decide) ?_
      cases hf
      exact ret_z (v := true) X hAe hP hD hS rfl dX1_openSign_60
    · have hf := ift hf c_2
      refine lv_aload_n hx hb dX1_openSign_27 rfl (lv_at hl 0 rfl) ?_
      refine lv_dup hx hb dX1_openSign_28 rfl ?_
      refine gf_X1_41 X rfl hP 0 rfl rfl dX1_openSign_29 ?_
      refine lv_iconst (v := 1) hx hb dX1_openSign_32 (by decide) ?_
      refine lv_iadd hx hb dX1_openSign_33 ?_
      refine pf_X1_41 X rfl hP hD hS 0 rfl (Nat.le_of_ble_eq_true rfl) dX1_openSign_34 (fun H locs hP hD hS => ?_)
      have hP : va_P g.1 vwCl [oX1 h h_operators h_operatorPlaces h_firsts h_lasts h_levels h_formula v_waiting v_operands (v_openSigns + (1 : Int32)) (v_openParens + (1 : Int32)), oX2 h_formula h_formula_symbols h_formula_opens h_formula_closes h_formula_steps v_formula_length v_formula_stepCount, aI g h_formula_symbols 160 v_formula_symbols, aI g h_formula_opens 160 v_formula_opens, aI g h_formula_closes 160 v_formula_closes, aI g h_operators 160 v_operators, aI g h_operatorPlaces 160 v_operatorPlaces] H := hP
      have hD : va_D A [oX1 h h_operators h_operatorPlaces h_firsts h_lasts h_levels h_formula v_waiting v_operands (v_openSigns + (1 : Int32)) (v_openParens + (1 : Int32)), oX2 h_formula h_formula_symbols h_formula_opens h_formula_closes h_formula_steps v_formula_length v_formula_stepCount, aI g h_formula_symbols 160 v_formula_symbols, aI g h_formula_opens 160 v_formula_opens, aI g h_formula_closes 160 v_formula_closes, aI g h_operators 160 v_operators, aI g h_operatorPlaces 160 v_operatorPlaces] := hD
      refine lv_aload_n hx hb dX1_openSign_37 rfl (lv_at hl 0 rfl) ?_
      refine lv_iload_n hx hb dX1_openSign_38 rfl (lv_at hl 1 rfl) ?_
      refine lv_iconst (v := (-1)) hx hb dX1_openSign_39 (by decide) ?_
      obtain ⟨⟨v_waiting_13, v_operators_14, v_operatorPlaces_15⟩, hf_16, hf⟩ := obind hf
      refine gcV (rest := []) (wn := [oX1 h h_operators h_operatorPlaces h_firsts h_lasts h_levels h_formula v_waiting_13 v_operands (v_openSigns + (1 : Int32)) (v_openParens + (1 : Int32)), oX2 h_formula h_formula_symbols h_formula_opens h_formula_closes h_formula_steps v_formula_length v_formula_stepCount, aI g h_formula_symbols 160 v_formula_symbols, aI g h_formula_opens 160 v_formula_opens, aI g h_formula_closes 160 v_formula_closes, aI g h_operators 160 v_operators_14, aI g h_operatorPlaces 160 v_operatorPlaces_15]) X hP hD hS hl (c_X1_pushOperator l g h h_operators h_operatorPlaces h_firsts h_lasts h_levels h_formula v_waiting v_operands (v_openSigns + (1 : Int32)) (v_openParens + (1 : Int32)) v_operators v_operatorPlaces a1 (-1) v_waiting_13 v_operators_14 v_operatorPlaces_15 hf_16) [0, 5, 6] rfl rfl rfl [.inr 0, .inl 1, .inl 2, .inl 3, .inl 4, .inr 1, .inr 2] rfl rfl cd_X1_pushOperator rfl im_X1_pushOperator se_X1_pushOperator ml_X1_44 0 rfl rfl rfl rfl rfl ⟨(Nat.le_of_ble_eq_true rfl), (Nat.le_of_ble_eq_true rfl)⟩ rfl (Nat.le_of_ble_eq_true rfl) dX1_openSign_40 ⟨(Nat.le_of_ble_eq_true rfl), (Nat.le_of_ble_eq_true rfl)⟩ (fun H locs hP hD hS => ?_)
      refine lv_goto (tgt := 59) hx hb dX1_openSign_43 (by decide) ?_
      refine lv_iconst (v := 1) hx hb dX1_openSign_59 (by decide) ?_
      cases hf
      exact ret_z (v := true) X hAe hP hD hS rfl dX1_openSign_60
  · have hf := iff_ hf c_1
    refine lv_iconst (v := 0) hx hb dX1_openSign_9 (by decide) ?_
    cases hf
    exact ret_z (v := false) X hAe hP hD hS rfl dX1_openSign_10
def f_X1_wrapBelow (v_levels : Nat → Int32) (v_firsts : Nat → Int32) (v_lasts : Nat → Int32) (v_formula_opens : Nat → Int32) (v_formula_closes : Nat → Int32) (a1 : Int32) (a2 : Int32) : Option ((Nat → Int32) × (Nat → Int32)) :=
  (f_X11_within a1 160).bind fun r_1 =>
  if b2i r_1 = 0 then
  some (v_formula_opens, v_formula_closes)
  else
  (if ix a1 160 then
  if a2 ≤ v_levels a1.toNatClampNeg then
  some (v_formula_opens, v_formula_closes)
  else
  (if ix a1 160 then
  if ix a1 160 then
  (f_X2_wrap v_formula_opens v_formula_closes (v_firsts a1.toNatClampNeg) (v_lasts a1.toNatClampNeg)).bind fun (v_formula_opens_8, v_formula_closes_9) =>
  some (v_formula_opens_8, v_formula_closes_9)
  else none
  else none)
  else none)
set_option maxHeartbeats 4000000 in
set_option maxRecDepth 100000 in
theorem c_X1_wrapBelow (l : Launch) (g : GT) (h : Nat) (h_operators : Nat) (h_operatorPlaces : Nat) (h_firsts : Nat) (h_lasts : Nat) (h_levels : Nat) (h_formula : Nat) (v_waiting : Int32) (v_operands : Int32) (v_openSigns : Int32) (v_openParens : Int32) (v_levels : Nat → Int32) (v_firsts : Nat → Int32) (v_lasts : Nat → Int32) (h_formula_symbols : Nat) (h_formula_opens : Nat) (h_formula_closes : Nat) (h_formula_steps : Nat) (v_formula_length : Int32) (v_formula_stepCount : Int32) (v_formula_opens : Nat → Int32) (v_formula_closes : Nat → Int32) (a1 : Int32) (a2 : Int32) (u_formula_opens : Nat → Int32) (u_formula_closes : Nat → Int32) (hf : f_X1_wrapBelow v_levels v_firsts v_lasts v_formula_opens v_formula_closes a1 a2 = some (u_formula_opens, u_formula_closes)) : Con l g yX1_wrapBelow cX1_wrapBelow 3 none ({ frames := 1, cells := 0, slots := 0, locals := 22 }) [.ref h, .int a1, .int a2] [oX1 h h_operators h_operatorPlaces h_firsts h_lasts h_levels h_formula v_waiting v_operands v_openSigns v_openParens, aI g h_levels 160 v_levels, aI g h_firsts 160 v_firsts, aI g h_lasts 160 v_lasts, oX2 h_formula h_formula_symbols h_formula_opens h_formula_closes h_formula_steps v_formula_length v_formula_stepCount, aI g h_formula_opens 160 v_formula_opens, aI g h_formula_closes 160 v_formula_closes] none [oX1 h h_operators h_operatorPlaces h_firsts h_lasts h_levels h_formula v_waiting v_operands v_openSigns v_openParens, aI g h_levels 160 v_levels, aI g h_firsts 160 v_firsts, aI g h_lasts 160 v_lasts, oX2 h_formula h_formula_symbols h_formula_opens h_formula_closes h_formula_steps v_formula_length v_formula_stepCount, aI g h_formula_opens 160 u_formula_opens, aI g h_formula_closes 160 u_formula_closes] := by
  refine Con.of (by decide) (Nat.le_of_ble_eq_true rfl) ?_
  intro p e s m below meth c A ls hAe X hP hD hS hl
  obtain ⟨hx, hb, hml, hr, hown, hts, hlk, hnm, hA, hG, hZ⟩ := id X
  have hown : s.vm.findClass RX1 = some m.cls := hown
  have hl : lv_has ls 3 [(0, .ref h), (1, .int a1), (2, .int a2)] := hl
  unfold f_X1_wrapBelow at hf
  refine lv_iload_n hx hb dX1_wrapBelow_0 rfl (lv_at hl 1 rfl) ?_
  refine lv_sipush (v := 160) hx hb dX1_wrapBelow_1 (by decide) ?_
  obtain ⟨r_1, hf_2, hf⟩ := obind hf
  refine gcSN (rest := []) (wn := [oX1 h h_operators h_operatorPlaces h_firsts h_lasts h_levels h_formula v_waiting v_operands v_openSigns v_openParens, aI g h_levels 160 v_levels, aI g h_firsts 160 v_firsts, aI g h_lasts 160 v_lasts, oX2 h_formula h_formula_symbols h_formula_opens h_formula_closes h_formula_steps v_formula_length v_formula_stepCount, aI g h_formula_opens 160 v_formula_opens, aI g h_formula_closes 160 v_formula_closes]) X hP hD hS hl (c_X11_within l g a1 160 r_1 hf_2) [] rfl rfl rfl [.inl 0, .inl 1, .inl 2, .inl 3, .inl 4, .inl 5, .inl 6] rfl rfl cd_X11_within rfl st_X11_within ml_X1_58 rfl rfl ⟨(Nat.le_of_ble_eq_true rfl), (Nat.le_of_ble_eq_true rfl)⟩ rfl (Nat.le_of_ble_eq_true rfl) dX1_wrapBelow_4 ⟨(Nat.le_of_ble_eq_true rfl), (Nat.le_of_ble_eq_true rfl)⟩ (fun H locs hP hD hS => ?_)
  refine lv_if_eq (tgt := 39) hx hb dX1_wrapBelow_7 (by decide) (fun c_3 => ?_) (fun c_3 => ?_)
  · have hf := ift hf c_3
    cases hf
    exact ret_v X hAe hP hD hS rfl dX1_wrapBelow_39
  · have hf := iff_ hf c_3
    refine lv_aload_n hx hb dX1_wrapBelow_10 rfl (lv_at hl 0 rfl) ?_
    refine gf_X1_24 X rfl hP 0 rfl rfl dX1_wrapBelow_11 ?_
    refine lv_iload_n hx hb dX1_wrapBelow_14 rfl (lv_at hl 1 rfl) ?_
    obtain ⟨hi_4, hf⟩ := ifs hf
    refine va_iald (D := g.1) hx hb hG.1 hP 1 1 rfl rfl (ix_in hi_4) dX1_wrapBelow_15 ?_
    refine lv_iload_n hx hb dX1_wrapBelow_16 rfl (lv_at hl 2 rfl) ?_
    refine lv_icmp_ge (tgt := 39) hx hb dX1_wrapBelow_17 (by decide) (fun c_5 => ?_) (fun c_5 => ?_)
    · have hf := ift hf c_5
      cases hf
      exact ret_v X hAe hP hD hS rfl dX1_wrapBelow_39
    · have hf := iff_ hf c_5
      refine lv_aload_n hx hb dX1_wrapBelow_20 rfl (lv_at hl 0 rfl) ?_
      refine gf_X1_27 X rfl hP 0 rfl rfl dX1_wrapBelow_21 ?_
      refine lv_aload_n hx hb dX1_wrapBelow_24 rfl (lv_at hl 0 rfl) ?_
      refine gf_X1_18 X rfl hP 0 rfl rfl dX1_wrapBelow_25 ?_
      refine lv_iload_n hx hb dX1_wrapBelow_28 rfl (lv_at hl 1 rfl) ?_
      obtain ⟨hi_6, hf⟩ := ifs hf
      refine va_iald (D := g.1) hx hb hG.1 hP 2 1 rfl rfl (ix_in hi_6) dX1_wrapBelow_29 ?_
      refine lv_aload_n hx hb dX1_wrapBelow_30 rfl (lv_at hl 0 rfl) ?_
      refine gf_X1_21 X rfl hP 0 rfl rfl dX1_wrapBelow_31 ?_
      refine lv_iload_n hx hb dX1_wrapBelow_34 rfl (lv_at hl 1 rfl) ?_
      obtain ⟨hi_7, hf⟩ := ifs hf
      refine va_iald (D := g.1) hx hb hG.1 hP 3 1 rfl rfl (ix_in hi_7) dX1_wrapBelow_35 ?_
      obtain ⟨⟨v_formula_opens_8, v_formula_closes_9⟩, hf_10, hf⟩ := obind hf
      refine gcV (rest := []) (wn := [oX1 h h_operators h_operatorPlaces h_firsts h_lasts h_levels h_formula v_waiting v_operands v_openSigns v_openParens, aI g h_levels 160 v_levels, aI g h_firsts 160 v_firsts, aI g h_lasts 160 v_lasts, oX2 h_formula h_formula_symbols h_formula_opens h_formula_closes h_formula_steps v_formula_length v_formula_stepCount, aI g h_formula_opens 160 v_formula_opens_8, aI g h_formula_closes 160 v_formula_closes_9]) X hP hD hS hl (c_X2_wrap l g h_formula h_formula_symbols h_formula_opens h_formula_closes h_formula_steps v_formula_length v_formula_stepCount v_formula_opens v_formula_closes (v_firsts a1.toNatClampNeg) (v_lasts a1.toNatClampNeg) v_formula_opens_8 v_formula_closes_9 hf_10) [4, 5, 6] rfl rfl rfl [.inl 0, .inl 1, .inl 2, .inl 3, .inr 0, .inr 1, .inr 2] rfl rfl cd_X2_wrap rfl im_X2_wrap se_X2_wrap ml_X1_77 4 rfl rfl rfl rfl rfl ⟨(Nat.le_of_ble_eq_true rfl), (Nat.le_of_ble_eq_true rfl)⟩ rfl (Nat.le_of_ble_eq_true rfl) dX1_wrapBelow_36 ⟨(Nat.le_of_ble_eq_true rfl), (Nat.le_of_ble_eq_true rfl)⟩ (fun H locs hP hD hS => ?_)
      cases hf
      exact ret_v X hAe hP hD hS rfl dX1_wrapBelow_39
def f_X1_turnOperand (v_operands : Int32) (v_openSigns : Int32) (v_levels : Nat → Int32) (v_firsts : Nat → Int32) (v_lasts : Nat → Int32) (v_formula_opens : Nat → Int32) (v_formula_closes : Nat → Int32) (a1 : Int32) : Option (Int32 × (Nat → Int32) × (Nat → Int32) × (Nat → Int32) × (Nat → Int32)) :=
  (f_X1_wrapBelow v_levels v_firsts v_lasts v_formula_opens v_formula_closes (v_operands - (1 : Int32)) 6).bind fun (v_formula_opens_1, v_formula_closes_2) =>
  (f_X11_within (v_operands - (1 : Int32)) 160).bind fun r_4 =>
  if b2i r_4 = 0 then
  some (v_openSigns - (1 : Int32), v_levels, v_firsts, v_formula_opens_1, v_formula_closes_2)
  else
  (if ix (v_operands - (1 : Int32)) 160 then
  if ix (v_operands - (1 : Int32)) 160 then
  some (v_openSigns - (1 : Int32), upd v_levels (v_operands - (1 : Int32)).toNatClampNeg 6, upd v_firsts (v_operands - (1 : Int32)).toNatClampNeg a1, v_formula_opens_1, v_formula_closes_2)
  else none
  else none)
set_option maxHeartbeats 4000000 in
set_option maxRecDepth 100000 in
theorem c_X1_turnOperand (l : Launch) (g : GT) (h : Nat) (h_operators : Nat) (h_operatorPlaces : Nat) (h_firsts : Nat) (h_lasts : Nat) (h_levels : Nat) (h_formula : Nat) (v_waiting : Int32) (v_operands : Int32) (v_openSigns : Int32) (v_openParens : Int32) (v_levels : Nat → Int32) (v_firsts : Nat → Int32) (v_lasts : Nat → Int32) (h_formula_symbols : Nat) (h_formula_opens : Nat) (h_formula_closes : Nat) (h_formula_steps : Nat) (v_formula_length : Int32) (v_formula_stepCount : Int32) (v_formula_opens : Nat → Int32) (v_formula_closes : Nat → Int32) (a1 : Int32) (u_openSigns : Int32) (u_levels : Nat → Int32) (u_firsts : Nat → Int32) (u_formula_opens : Nat → Int32) (u_formula_closes : Nat → Int32) (hf : f_X1_turnOperand v_operands v_openSigns v_levels v_firsts v_lasts v_formula_opens v_formula_closes a1 = some (u_openSigns, u_levels, u_firsts, u_formula_opens, u_formula_closes)) : Con l g yX1_turnOperand cX1_turnOperand 3 none ({ frames := 2, cells := 0, slots := 0, locals := 44 }) [.ref h, .int a1] [oX1 h h_operators h_operatorPlaces h_firsts h_lasts h_levels h_formula v_waiting v_operands v_openSigns v_openParens, aI g h_levels 160 v_levels, aI g h_firsts 160 v_firsts, aI g h_lasts 160 v_lasts, oX2 h_formula h_formula_symbols h_formula_opens h_formula_closes h_formula_steps v_formula_length v_formula_stepCount, aI g h_formula_opens 160 v_formula_opens, aI g h_formula_closes 160 v_formula_closes] none [oX1 h h_operators h_operatorPlaces h_firsts h_lasts h_levels h_formula v_waiting v_operands u_openSigns v_openParens, aI g h_levels 160 u_levels, aI g h_firsts 160 u_firsts, aI g h_lasts 160 v_lasts, oX2 h_formula h_formula_symbols h_formula_opens h_formula_closes h_formula_steps v_formula_length v_formula_stepCount, aI g h_formula_opens 160 u_formula_opens, aI g h_formula_closes 160 u_formula_closes] := by
  refine Con.of (by decide) (Nat.le_of_ble_eq_true rfl) ?_
  intro p e s m below meth c A ls hAe X hP hD hS hl
  obtain ⟨hx, hb, hml, hr, hown, hts, hlk, hnm, hA, hG, hZ⟩ := id X
  have hown : s.vm.findClass RX1 = some m.cls := hown
  have hl : lv_has ls 3 [(0, .ref h), (1, .int a1)] := hl
  unfold f_X1_turnOperand at hf
  refine lv_aload_n hx hb dX1_turnOperand_0 rfl (lv_at hl 0 rfl) ?_
  refine gf_X1_35 X rfl hP 0 rfl rfl dX1_turnOperand_1 ?_
  refine lv_iconst (v := 1) hx hb dX1_turnOperand_4 (by decide) ?_
  refine lv_isub hx hb dX1_turnOperand_5 ?_
  refine lv_istore_n (lv' := [(2, .int (v_operands - (1 : Int32))), (0, .ref h), (1, .int a1)]) hx hb dX1_turnOperand_6 rfl hl (by decide) rfl (fun ls hl => ?_)
  refine lv_aload_n hx hb dX1_turnOperand_7 rfl (lv_at hl 1 rfl) ?_
  refine lv_dup hx hb dX1_turnOperand_8 rfl ?_
  refine gf_X1_38 X rfl hP 0 rfl rfl dX1_turnOperand_9 ?_
  refine lv_iconst (v := 1) hx hb dX1_turnOperand_12 (by decide) ?_
  refine lv_isub hx hb dX1_turnOperand_13 ?_
  refine pf_X1_38 X rfl hP hD hS 0 rfl (Nat.le_of_ble_eq_true rfl) dX1_turnOperand_14 (fun H locs hP hD hS => ?_)
  have hP : va_P g.1 vwCl [oX1 h h_operators h_operatorPlaces h_firsts h_lasts h_levels h_formula v_waiting v_operands (v_openSigns - (1 : Int32)) v_openParens, aI g h_levels 160 v_levels, aI g h_firsts 160 v_firsts, aI g h_lasts 160 v_lasts, oX2 h_formula h_formula_symbols h_formula_opens h_formula_closes h_formula_steps v_formula_length v_formula_stepCount, aI g h_formula_opens 160 v_formula_opens, aI g h_formula_closes 160 v_formula_closes] H := hP
  have hD : va_D A [oX1 h h_operators h_operatorPlaces h_firsts h_lasts h_levels h_formula v_waiting v_operands (v_openSigns - (1 : Int32)) v_openParens, aI g h_levels 160 v_levels, aI g h_firsts 160 v_firsts, aI g h_lasts 160 v_lasts, oX2 h_formula h_formula_symbols h_formula_opens h_formula_closes h_formula_steps v_formula_length v_formula_stepCount, aI g h_formula_opens 160 v_formula_opens, aI g h_formula_closes 160 v_formula_closes] := hD
  refine lv_aload_n hx hb dX1_turnOperand_17 rfl (lv_at hl 1 rfl) ?_
  refine lv_iload_n hx hb dX1_turnOperand_18 rfl (lv_at hl 0 rfl) ?_
  refine lv_bipush (v := 6) hx hb dX1_turnOperand_19 (by decide) ?_
  obtain ⟨⟨v_formula_opens_1, v_formula_closes_2⟩, hf_3, hf⟩ := obind hf
  refine gcV (rest := []) (wn := [oX1 h h_operators h_operatorPlaces h_firsts h_lasts h_levels h_formula v_waiting v_operands (v_openSigns - (1 : Int32)) v_openParens, aI g h_levels 160 v_levels, aI g h_firsts 160 v_firsts, aI g h_lasts 160 v_lasts, oX2 h_formula h_formula_symbols h_formula_opens h_formula_closes h_formula_steps v_formula_length v_formula_stepCount, aI g h_formula_opens 160 v_formula_opens_1, aI g h_formula_closes 160 v_formula_closes_2]) X hP hD hS hl (c_X1_wrapBelow l g h h_operators h_operatorPlaces h_firsts h_lasts h_levels h_formula v_waiting v_operands (v_openSigns - (1 : Int32)) v_openParens v_levels v_firsts v_lasts h_formula_symbols h_formula_opens h_formula_closes h_formula_steps v_formula_length v_formula_stepCount v_formula_opens v_formula_closes (v_operands - (1 : Int32)) 6 v_formula_opens_1 v_formula_closes_2 hf_3) [0, 1, 2, 3, 4, 5, 6] rfl rfl rfl [.inr 0, .inr 1, .inr 2, .inr 3, .inr 4, .inr 5, .inr 6] rfl rfl cd_X1_wrapBelow rfl im_X1_wrapBelow se_X1_wrapBelow ml_X1_74 0 rfl rfl rfl rfl rfl ⟨(Nat.le_of_ble_eq_true rfl), (Nat.le_of_ble_eq_true rfl)⟩ rfl (Nat.le_of_ble_eq_true rfl) dX1_turnOperand_21 ⟨(Nat.le_of_ble_eq_true rfl), (Nat.le_of_ble_eq_true rfl)⟩ (fun H locs hP hD hS => ?_)
  refine lv_iload_n hx hb dX1_turnOperand_24 rfl (lv_at hl 0 rfl) ?_
  refine lv_sipush (v := 160) hx hb dX1_turnOperand_25 (by decide) ?_
  obtain ⟨r_4, hf_5, hf⟩ := obind hf
  refine gcSN (rest := []) (wn := [oX1 h h_operators h_operatorPlaces h_firsts h_lasts h_levels h_formula v_waiting v_operands (v_openSigns - (1 : Int32)) v_openParens, aI g h_levels 160 v_levels, aI g h_firsts 160 v_firsts, aI g h_lasts 160 v_lasts, oX2 h_formula h_formula_symbols h_formula_opens h_formula_closes h_formula_steps v_formula_length v_formula_stepCount, aI g h_formula_opens 160 v_formula_opens_1, aI g h_formula_closes 160 v_formula_closes_2]) X hP hD hS hl (c_X11_within l g (v_operands - (1 : Int32)) 160 r_4 hf_5) [] rfl rfl rfl [.inl 0, .inl 1, .inl 2, .inl 3, .inl 4, .inl 5, .inl 6] rfl rfl cd_X11_within rfl st_X11_within ml_X1_58 rfl rfl ⟨(Nat.le_of_ble_eq_true rfl), (Nat.le_of_ble_eq_true rfl)⟩ rfl (Nat.le_of_ble_eq_true rfl) dX1_turnOperand_28 ⟨(Nat.le_of_ble_eq_true rfl), (Nat.le_of_ble_eq_true rfl)⟩ (fun H locs hP hD hS => ?_)
  refine lv_if_eq (tgt := 49) hx hb dX1_turnOperand_31 (by decide) (fun c_6 => ?_) (fun c_6 => ?_)
  · have hf := ift hf c_6
    cases hf
    exact ret_v X hAe hP hD hS rfl dX1_turnOperand_49
  · have hf := iff_ hf c_6
    refine lv_aload_n hx hb dX1_turnOperand_34 rfl (lv_at hl 1 rfl) ?_
    refine gf_X1_18 X rfl hP 0 rfl rfl dX1_turnOperand_35 ?_
    refine lv_iload_n hx hb dX1_turnOperand_38 rfl (lv_at hl 0 rfl) ?_
    refine lv_iload_n hx hb dX1_turnOperand_39 rfl (lv_at hl 2 rfl) ?_
    obtain ⟨hi_7, hf⟩ := ifs hf
    refine va_iast (D := g.1) hx hb hG.1 hP hD hS 2 1 rfl rfl (ix_in hi_7) dX1_turnOperand_40 (fun H locs hP hD hS => ?_)
    have hP : va_P g.1 vwCl [oX1 h h_operators h_operatorPlaces h_firsts h_lasts h_levels h_formula v_waiting v_operands (v_openSigns - (1 : Int32)) v_openParens, aI g h_levels 160 v_levels, aI g h_firsts 160 (upd v_firsts (v_operands - (1 : Int32)).toNatClampNeg a1), aI g h_lasts 160 v_lasts, oX2 h_formula h_formula_symbols h_formula_opens h_formula_closes h_formula_steps v_formula_length v_formula_stepCount, aI g h_formula_opens 160 v_formula_opens_1, aI g h_formula_closes 160 v_formula_closes_2] H := hP
    have hD : va_D A [oX1 h h_operators h_operatorPlaces h_firsts h_lasts h_levels h_formula v_waiting v_operands (v_openSigns - (1 : Int32)) v_openParens, aI g h_levels 160 v_levels, aI g h_firsts 160 (upd v_firsts (v_operands - (1 : Int32)).toNatClampNeg a1), aI g h_lasts 160 v_lasts, oX2 h_formula h_formula_symbols h_formula_opens h_formula_closes h_formula_steps v_formula_length v_formula_stepCount, aI g h_formula_opens 160 v_formula_opens_1, aI g h_formula_closes 160 v_formula_closes_2] := hD
    refine lv_aload_n hx hb dX1_turnOperand_41 rfl (lv_at hl 1 rfl) ?_
    refine gf_X1_24 X rfl hP 0 rfl rfl dX1_turnOperand_42 ?_
    refine lv_iload_n hx hb dX1_turnOperand_45 rfl (lv_at hl 0 rfl) ?_
    refine lv_bipush (v := 6) hx hb dX1_turnOperand_46 (by decide) ?_
    obtain ⟨hi_8, hf⟩ := ifs hf
    refine va_iast (D := g.1) hx hb hG.1 hP hD hS 1 1 rfl rfl (ix_in hi_8) dX1_turnOperand_48 (fun H locs hP hD hS => ?_)
    have hP : va_P g.1 vwCl [oX1 h h_operators h_operatorPlaces h_firsts h_lasts h_levels h_formula v_waiting v_operands (v_openSigns - (1 : Int32)) v_openParens, aI g h_levels 160 (upd v_levels (v_operands - (1 : Int32)).toNatClampNeg 6), aI g h_firsts 160 (upd v_firsts (v_operands - (1 : Int32)).toNatClampNeg a1), aI g h_lasts 160 v_lasts, oX2 h_formula h_formula_symbols h_formula_opens h_formula_closes h_formula_steps v_formula_length v_formula_stepCount, aI g h_formula_opens 160 v_formula_opens_1, aI g h_formula_closes 160 v_formula_closes_2] H := hP
    have hD : va_D A [oX1 h h_operators h_operatorPlaces h_firsts h_lasts h_levels h_formula v_waiting v_operands (v_openSigns - (1 : Int32)) v_openParens, aI g h_levels 160 (upd v_levels (v_operands - (1 : Int32)).toNatClampNeg 6), aI g h_firsts 160 (upd v_firsts (v_operands - (1 : Int32)).toNatClampNeg a1), aI g h_lasts 160 v_lasts, oX2 h_formula h_formula_symbols h_formula_opens h_formula_closes h_formula_steps v_formula_length v_formula_stepCount, aI g h_formula_opens 160 v_formula_opens_1, aI g h_formula_closes 160 v_formula_closes_2] := hD
    cases hf
    exact ret_v X hAe hP hD hS rfl dX1_turnOperand_49
def f_X1_joinOperands (v_operands : Int32) (v_levels : Nat → Int32) (v_firsts : Nat → Int32) (v_lasts : Nat → Int32) (v_formula_opens : Nat → Int32) (v_formula_closes : Nat → Int32) (a1 : Int32) : Option (Int32 × (Nat → Int32) × (Nat → Int32) × (Nat → Int32) × (Nat → Int32)) :=
  (f_X11_levelOf a1).bind fun r_1 =>
  jn (κ := Int32 → Option (Int32 × (Nat → Int32) × (Nat → Int32) × (Nat → Int32) × (Nat → Int32))) (fun (s2_33 : Int32) =>
  (f_X1_wrapBelow v_levels v_firsts v_lasts v_formula_opens v_formula_closes ((v_operands - (1 : Int32)) - (1 : Int32)) s2_33).bind fun (v_formula_opens_3, v_formula_closes_4) =>
  jn (κ := Int32 → Option (Int32 × (Nat → Int32) × (Nat → Int32) × (Nat → Int32) × (Nat → Int32))) (fun (s2_51 : Int32) =>
  (f_X1_wrapBelow v_levels v_firsts v_lasts v_formula_opens_3 v_formula_closes_4 (v_operands - (1 : Int32)) s2_51).bind fun (v_formula_opens_6, v_formula_closes_7) =>
  (f_X11_within ((v_operands - (1 : Int32)) - (1 : Int32)) 160).bind fun r_9 =>
  if b2i r_9 = 0 then
  some (v_operands, v_levels, v_lasts, v_formula_opens_6, v_formula_closes_7)
  else
  ((f_X11_within (v_operands - (1 : Int32)) 160).bind fun r_12 =>
  if b2i r_12 = 0 then
  some (v_operands, v_levels, v_lasts, v_formula_opens_6, v_formula_closes_7)
  else
  (if ix (v_operands - (1 : Int32)) 160 then
  if ix ((v_operands - (1 : Int32)) - (1 : Int32)) 160 then
  if ix ((v_operands - (1 : Int32)) - (1 : Int32)) 160 then
  some (v_operands - (1 : Int32), upd v_levels ((v_operands - (1 : Int32)) - (1 : Int32)).toNatClampNeg r_1, upd v_lasts ((v_operands - (1 : Int32)) - (1 : Int32)).toNatClampNeg (v_lasts (v_operands - (1 : Int32)).toNatClampNeg), v_formula_opens_6, v_formula_closes_7)
  else none
  else none
  else none))) fun j_51 =>
  if a1 = 62 then
  j_51 r_1
  else
  j_51 (r_1 + (1 : Int32))) fun j_33 =>
  if a1 = 62 then
  j_33 (r_1 + (1 : Int32))
  else
  j_33 r_1
set_option maxHeartbeats 4000000 in
set_option maxRecDepth 100000 in
theorem c_X1_joinOperands (l : Launch) (g : GT) (h : Nat) (h_operators : Nat) (h_operatorPlaces : Nat) (h_firsts : Nat) (h_lasts : Nat) (h_levels : Nat) (h_formula : Nat) (v_waiting : Int32) (v_operands : Int32) (v_openSigns : Int32) (v_openParens : Int32) (v_levels : Nat → Int32) (v_firsts : Nat → Int32) (v_lasts : Nat → Int32) (h_formula_symbols : Nat) (h_formula_opens : Nat) (h_formula_closes : Nat) (h_formula_steps : Nat) (v_formula_length : Int32) (v_formula_stepCount : Int32) (v_formula_opens : Nat → Int32) (v_formula_closes : Nat → Int32) (a1 : Int32) (u_operands : Int32) (u_levels : Nat → Int32) (u_lasts : Nat → Int32) (u_formula_opens : Nat → Int32) (u_formula_closes : Nat → Int32) (hf : f_X1_joinOperands v_operands v_levels v_firsts v_lasts v_formula_opens v_formula_closes a1 = some (u_operands, u_levels, u_lasts, u_formula_opens, u_formula_closes)) : Con l g yX1_joinOperands cX1_joinOperands 5 none ({ frames := 2, cells := 0, slots := 0, locals := 44 }) [.ref h, .int a1] [oX1 h h_operators h_operatorPlaces h_firsts h_lasts h_levels h_formula v_waiting v_operands v_openSigns v_openParens, aI g h_levels 160 v_levels, aI g h_firsts 160 v_firsts, aI g h_lasts 160 v_lasts, oX2 h_formula h_formula_symbols h_formula_opens h_formula_closes h_formula_steps v_formula_length v_formula_stepCount, aI g h_formula_opens 160 v_formula_opens, aI g h_formula_closes 160 v_formula_closes] none [oX1 h h_operators h_operatorPlaces h_firsts h_lasts h_levels h_formula v_waiting u_operands v_openSigns v_openParens, aI g h_levels 160 u_levels, aI g h_firsts 160 v_firsts, aI g h_lasts 160 u_lasts, oX2 h_formula h_formula_symbols h_formula_opens h_formula_closes h_formula_steps v_formula_length v_formula_stepCount, aI g h_formula_opens 160 u_formula_opens, aI g h_formula_closes 160 u_formula_closes] := by
  refine Con.of (by decide) (Nat.le_of_ble_eq_true rfl) ?_
  intro p e s m below meth c A ls hAe X hP hD hS hl
  obtain ⟨hx, hb, hml, hr, hown, hts, hlk, hnm, hA, hG, hZ⟩ := id X
  have hown : s.vm.findClass RX1 = some m.cls := hown
  have hl : lv_has ls 5 [(0, .ref h), (1, .int a1)] := hl
  unfold f_X1_joinOperands at hf
  refine lv_iload_n hx hb dX1_joinOperands_0 rfl (lv_at hl 1 rfl) ?_
  obtain ⟨r_1, hf_2, hf⟩ := obind hf
  refine gcSN (rest := []) (wn := [oX1 h h_operators h_operatorPlaces h_firsts h_lasts h_levels h_formula v_waiting v_operands v_openSigns v_openParens, aI g h_levels 160 v_levels, aI g h_firsts 160 v_firsts, aI g h_lasts 160 v_lasts, oX2 h_formula h_formula_symbols h_formula_opens h_formula_closes h_formula_steps v_formula_length v_formula_stepCount, aI g h_formula_opens 160 v_formula_opens, aI g h_formula_closes 160 v_formula_closes]) X hP hD hS hl (c_X11_levelOf l g a1 r_1 hf_2) [] rfl rfl rfl [.inl 0, .inl 1, .inl 2, .inl 3, .inl 4, .inl 5, .inl 6] rfl rfl cd_X11_levelOf rfl st_X11_levelOf ml_X1_65 rfl rfl ⟨(Nat.le_of_ble_eq_true rfl), (Nat.le_of_ble_eq_true rfl)⟩ rfl (Nat.le_of_ble_eq_true rfl) dX1_joinOperands_1 ⟨(Nat.le_of_ble_eq_true rfl), (Nat.le_of_ble_eq_true rfl)⟩ (fun H locs hP hD hS => ?_)
  refine lv_istore_n (lv' := [(2, .int r_1), (0, .ref h), (1, .int a1)]) hx hb dX1_joinOperands_4 rfl hl (by decide) rfl (fun ls hl => ?_)
  refine lv_aload_n hx hb dX1_joinOperands_5 rfl (lv_at hl 1 rfl) ?_
  refine gf_X1_35 X rfl hP 0 rfl rfl dX1_joinOperands_6 ?_
  refine lv_iconst (v := 1) hx hb dX1_joinOperands_9 (by decide) ?_
  refine lv_isub hx hb dX1_joinOperands_10 ?_
  refine lv_istore_n (lv' := [(3, .int (v_operands - (1 : Int32))), (2, .int r_1), (0, .ref h), (1, .int a1)]) hx hb dX1_joinOperands_11 rfl hl (by decide) rfl (fun ls hl => ?_)
  refine lv_iload_n hx hb dX1_joinOperands_12 rfl (lv_at hl 0 rfl) ?_
  refine lv_iconst (v := 1) hx hb dX1_joinOperands_13 (by decide) ?_
  refine lv_isub hx hb dX1_joinOperands_14 ?_
  refine lv_istore (lv' := [(4, .int ((v_operands - (1 : Int32)) - (1 : Int32))), (3, .int (v_operands - (1 : Int32))), (2, .int r_1), (0, .ref h), (1, .int a1)]) hx hb dX1_joinOperands_15 hl (by decide) rfl (fun ls hl => ?_)
  refine lv_aload_n hx hb dX1_joinOperands_17 rfl (lv_at hl 3 rfl) ?_
  refine lv_iload hx hb dX1_joinOperands_18 (lv_at hl 0 rfl) ?_
  refine lv_iload_n hx hb dX1_joinOperands_20 rfl (lv_at hl 4 rfl) ?_
  refine lv_bipush (v := 62) hx hb dX1_joinOperands_21 (by decide) ?_
  refine jn_elim hf (fun j_33 hj_33 hf => ?_)
  have J_33 : ∀ (s2_33 : Int32) (H : Heap) (locs : List Loc) (ls : Array Slot), va_P g.1 vwCl [oX1 h h_operators h_operatorPlaces h_firsts h_lasts h_levels h_formula v_waiting v_operands v_openSigns v_openParens, aI g h_levels 160 v_levels, aI g h_firsts 160 v_firsts, aI g h_lasts 160 v_lasts, oX2 h_formula h_formula_symbols h_formula_opens h_formula_closes h_formula_steps v_formula_length v_formula_stepCount, aI g h_formula_opens 160 v_formula_opens, aI g h_formula_closes 160 v_formula_closes] H → va_D A [oX1 h h_operators h_operatorPlaces h_firsts h_lasts h_levels h_formula v_waiting v_operands v_openSigns v_openParens, aI g h_levels 160 v_levels, aI g h_firsts 160 v_firsts, aI g h_lasts 160 v_lasts, oX2 h_formula h_formula_symbols h_formula_opens h_formula_closes h_formula_steps v_formula_length v_formula_stepCount, aI g h_formula_opens 160 v_formula_opens, aI g h_formula_closes 160 v_formula_closes] → va_S A s.heap H locs → lv_has ls 5 [(0, .ref h), (1, .int a1), (2, .int r_1), (3, .int (v_operands - (1 : Int32))), (4, .int ((v_operands - (1 : Int32)) - (1 : Int32)))] → j_33 s2_33 = some (u_operands, u_levels, u_lasts, u_formula_opens, u_formula_closes) → W p l e ({ frames := 2, cells := 0, slots := 0, locals := 44 }) s m [.ref h, .int a1].toArray below meth c H locs 0 0 (MQ below (fun _ => QW g [oX1 h h_operators h_operatorPlaces h_firsts h_lasts h_levels h_formula v_waiting v_operands v_openSigns v_openParens, aI g h_levels 160 v_levels, aI g h_firsts 160 v_firsts, aI g h_lasts 160 v_lasts, oX2 h_formula h_formula_symbols h_formula_opens h_formula_closes h_formula_steps v_formula_length v_formula_stepCount, aI g h_formula_opens 160 v_formula_opens, aI g h_formula_closes 160 v_formula_closes] s.heap.size none [oX1 h h_operators h_operatorPlaces h_firsts h_lasts h_levels h_formula v_waiting u_operands v_openSigns v_openParens, aI g h_levels 160 u_levels, aI g h_firsts 160 v_firsts, aI g h_lasts 160 u_lasts, oX2 h_formula h_formula_symbols h_formula_opens h_formula_closes h_formula_steps v_formula_length v_formula_stepCount, aI g h_formula_opens 160 u_formula_opens, aI g h_formula_closes 160 u_formula_closes]) [.ref h, .int a1].toArray s 0 0 (va_A [oX1 h h_operators h_operatorPlaces h_firsts h_lasts h_levels h_formula v_waiting v_operands v_openSigns v_openParens, aI g h_levels 160 v_levels, aI g h_firsts 160 v_firsts, aI g h_lasts 160 v_lasts, oX2 h_formula h_formula_symbols h_formula_opens h_formula_closes h_formula_steps v_formula_length v_formula_stepCount, aI g h_formula_opens 160 v_formula_opens, aI g h_formula_closes 160 v_formula_closes] s.heap.size)) (F0 m 33 ls [.int s2_33, .int ((v_operands - (1 : Int32)) - (1 : Int32)), .ref h]) := by
    intro s2_33 H locs ls hP hD hS hl hf
    rw [hj_33] at hf
    obtain ⟨⟨v_formula_opens_3, v_formula_closes_4⟩, hf_5, hf⟩ := obind hf
    refine gcV (rest := []) (wn := [oX1 h h_operators h_operatorPlaces h_firsts h_lasts h_levels h_formula v_waiting v_operands v_openSigns v_openParens, aI g h_levels 160 v_levels, aI g h_firsts 160 v_firsts, aI g h_lasts 160 v_lasts, oX2 h_formula h_formula_symbols h_formula_opens h_formula_closes h_formula_steps v_formula_length v_formula_stepCount, aI g h_formula_opens 160 v_formula_opens_3, aI g h_formula_closes 160 v_formula_closes_4]) X hP hD hS hl (c_X1_wrapBelow l g h h_operators h_operatorPlaces h_firsts h_lasts h_levels h_formula v_waiting v_operands v_openSigns v_openParens v_levels v_firsts v_lasts h_formula_symbols h_formula_opens h_formula_closes h_formula_steps v_formula_length v_formula_stepCount v_formula_opens v_formula_closes ((v_operands - (1 : Int32)) - (1 : Int32)) s2_33 v_formula_opens_3 v_formula_closes_4 hf_5) [0, 1, 2, 3, 4, 5, 6] rfl rfl rfl [.inr 0, .inr 1, .inr 2, .inr 3, .inr 4, .inr 5, .inr 6] rfl rfl cd_X1_wrapBelow rfl im_X1_wrapBelow se_X1_wrapBelow ml_X1_74 0 rfl rfl rfl rfl rfl ⟨(Nat.le_of_ble_eq_true rfl), (Nat.le_of_ble_eq_true rfl)⟩ rfl (Nat.le_of_ble_eq_true rfl) dX1_joinOperands_33 ⟨(Nat.le_of_ble_eq_true rfl), (Nat.le_of_ble_eq_true rfl)⟩ (fun H locs hP hD hS => ?_)
    refine lv_aload_n hx hb dX1_joinOperands_36 rfl (lv_at hl 0 rfl) ?_
    refine lv_iload_n hx hb dX1_joinOperands_37 rfl (lv_at hl 3 rfl) ?_
    refine lv_iload_n hx hb dX1_joinOperands_38 rfl (lv_at hl 1 rfl) ?_
    refine lv_bipush (v := 62) hx hb dX1_joinOperands_39 (by decide) ?_
    refine jn_elim hf (fun j_51 hj_51 hf => ?_)
    have J_51 : ∀ (s2_51 : Int32) (H : Heap) (locs : List Loc) (ls : Array Slot), va_P g.1 vwCl [oX1 h h_operators h_operatorPlaces h_firsts h_lasts h_levels h_formula v_waiting v_operands v_openSigns v_openParens, aI g h_levels 160 v_levels, aI g h_firsts 160 v_firsts, aI g h_lasts 160 v_lasts, oX2 h_formula h_formula_symbols h_formula_opens h_formula_closes h_formula_steps v_formula_length v_formula_stepCount, aI g h_formula_opens 160 v_formula_opens_3, aI g h_formula_closes 160 v_formula_closes_4] H → va_D A [oX1 h h_operators h_operatorPlaces h_firsts h_lasts h_levels h_formula v_waiting v_operands v_openSigns v_openParens, aI g h_levels 160 v_levels, aI g h_firsts 160 v_firsts, aI g h_lasts 160 v_lasts, oX2 h_formula h_formula_symbols h_formula_opens h_formula_closes h_formula_steps v_formula_length v_formula_stepCount, aI g h_formula_opens 160 v_formula_opens_3, aI g h_formula_closes 160 v_formula_closes_4] → va_S A s.heap H locs → lv_has ls 5 [(0, .ref h), (1, .int a1), (2, .int r_1), (3, .int (v_operands - (1 : Int32))), (4, .int ((v_operands - (1 : Int32)) - (1 : Int32)))] → j_51 s2_51 = some (u_operands, u_levels, u_lasts, u_formula_opens, u_formula_closes) → W p l e ({ frames := 2, cells := 0, slots := 0, locals := 44 }) s m [.ref h, .int a1].toArray below meth c H locs 0 0 (MQ below (fun _ => QW g [oX1 h h_operators h_operatorPlaces h_firsts h_lasts h_levels h_formula v_waiting v_operands v_openSigns v_openParens, aI g h_levels 160 v_levels, aI g h_firsts 160 v_firsts, aI g h_lasts 160 v_lasts, oX2 h_formula h_formula_symbols h_formula_opens h_formula_closes h_formula_steps v_formula_length v_formula_stepCount, aI g h_formula_opens 160 v_formula_opens, aI g h_formula_closes 160 v_formula_closes] s.heap.size none [oX1 h h_operators h_operatorPlaces h_firsts h_lasts h_levels h_formula v_waiting u_operands v_openSigns v_openParens, aI g h_levels 160 u_levels, aI g h_firsts 160 v_firsts, aI g h_lasts 160 u_lasts, oX2 h_formula h_formula_symbols h_formula_opens h_formula_closes h_formula_steps v_formula_length v_formula_stepCount, aI g h_formula_opens 160 u_formula_opens, aI g h_formula_closes 160 u_formula_closes]) [.ref h, .int a1].toArray s 0 0 (va_A [oX1 h h_operators h_operatorPlaces h_firsts h_lasts h_levels h_formula v_waiting v_operands v_openSigns v_openParens, aI g h_levels 160 v_levels, aI g h_firsts 160 v_firsts, aI g h_lasts 160 v_lasts, oX2 h_formula h_formula_symbols h_formula_opens h_formula_closes h_formula_steps v_formula_length v_formula_stepCount, aI g h_formula_opens 160 v_formula_opens, aI g h_formula_closes 160 v_formula_closes] s.heap.size)) (F0 m 51 ls [.int s2_51, .int (v_operands - (1 : Int32)), .ref h]) := by
      intro s2_51 H locs ls hP hD hS hl hf
      rw [hj_51] at hf
      obtain ⟨⟨v_formula_opens_6, v_formula_closes_7⟩, hf_8, hf⟩ := obind hf
      refine gcV (rest := []) (wn := [oX1 h h_operators h_operatorPlaces h_firsts h_lasts h_levels h_formula v_waiting v_operands v_openSigns v_openParens, aI g h_levels 160 v_levels, aI g h_firsts 160 v_firsts, aI g h_lasts 160 v_lasts, oX2 h_formula h_formula_symbols h_formula_opens h_formula_closes h_formula_steps v_formula_length v_formula_stepCount, aI g h_formula_opens 160 v_formula_opens_6, aI g h_formula_closes 160 v_formula_closes_7]) X hP hD hS hl (c_X1_wrapBelow l g h h_operators h_operatorPlaces h_firsts h_lasts h_levels h_formula v_waiting v_operands v_openSigns v_openParens v_levels v_firsts v_lasts h_formula_symbols h_formula_opens h_formula_closes h_formula_steps v_formula_length v_formula_stepCount v_formula_opens_3 v_formula_closes_4 (v_operands - (1 : Int32)) s2_51 v_formula_opens_6 v_formula_closes_7 hf_8) [0, 1, 2, 3, 4, 5, 6] rfl rfl rfl [.inr 0, .inr 1, .inr 2, .inr 3, .inr 4, .inr 5, .inr 6] rfl rfl cd_X1_wrapBelow rfl im_X1_wrapBelow se_X1_wrapBelow ml_X1_74 0 rfl rfl rfl rfl rfl ⟨(Nat.le_of_ble_eq_true rfl), (Nat.le_of_ble_eq_true rfl)⟩ rfl (Nat.le_of_ble_eq_true rfl) dX1_joinOperands_51 ⟨(Nat.le_of_ble_eq_true rfl), (Nat.le_of_ble_eq_true rfl)⟩ (fun H locs hP hD hS => ?_)
      refine lv_iload hx hb dX1_joinOperands_54 (lv_at hl 4 rfl) ?_
      refine lv_sipush (v := 160) hx hb dX1_joinOperands_56 (by decide) ?_
      obtain ⟨r_9, hf_10, hf⟩ := obind hf
      refine gcSN (rest := []) (wn := [oX1 h h_operators h_operatorPlaces h_firsts h_lasts h_levels h_formula v_waiting v_operands v_openSigns v_openParens, aI g h_levels 160 v_levels, aI g h_firsts 160 v_firsts, aI g h_lasts 160 v_lasts, oX2 h_formula h_formula_symbols h_formula_opens h_formula_closes h_formula_steps v_formula_length v_formula_stepCount, aI g h_formula_opens 160 v_formula_opens_6, aI g h_formula_closes 160 v_formula_closes_7]) X hP hD hS hl (c_X11_within l g ((v_operands - (1 : Int32)) - (1 : Int32)) 160 r_9 hf_10) [] rfl rfl rfl [.inl 0, .inl 1, .inl 2, .inl 3, .inl 4, .inl 5, .inl 6] rfl rfl cd_X11_within rfl st_X11_within ml_X1_58 rfl rfl ⟨(Nat.le_of_ble_eq_true rfl), (Nat.le_of_ble_eq_true rfl)⟩ rfl (Nat.le_of_ble_eq_true rfl) dX1_joinOperands_59 ⟨(Nat.le_of_ble_eq_true rfl), (Nat.le_of_ble_eq_true rfl)⟩ (fun H locs hP hD hS => ?_)
      refine lv_if_eq (tgt := 101) hx hb dX1_joinOperands_62 (by decide) (fun c_11 => ?_) (fun c_11 => ?_)
      · have hf := ift hf c_11
        cases hf
        exact ret_v X hAe hP hD hS rfl dX1_joinOperands_101
      · have hf := iff_ hf c_11
        refine lv_iload_n hx hb dX1_joinOperands_65 rfl (lv_at hl 3 rfl) ?_
        refine lv_sipush (v := 160) hx hb dX1_joinOperands_66 (by decide) ?_
        obtain ⟨r_12, hf_13, hf⟩ := obind hf
        refine gcSN (rest := []) (wn := [oX1 h h_operators h_operatorPlaces h_firsts h_lasts h_levels h_formula v_waiting v_operands v_openSigns v_openParens, aI g h_levels 160 v_levels, aI g h_firsts 160 v_firsts, aI g h_lasts 160 v_lasts, oX2 h_formula h_formula_symbols h_formula_opens h_formula_closes h_formula_steps v_formula_length v_formula_stepCount, aI g h_formula_opens 160 v_formula_opens_6, aI g h_formula_closes 160 v_formula_closes_7]) X hP hD hS hl (c_X11_within l g (v_operands - (1 : Int32)) 160 r_12 hf_13) [] rfl rfl rfl [.inl 0, .inl 1, .inl 2, .inl 3, .inl 4, .inl 5, .inl 6] rfl rfl cd_X11_within rfl st_X11_within ml_X1_58 rfl rfl ⟨(Nat.le_of_ble_eq_true rfl), (Nat.le_of_ble_eq_true rfl)⟩ rfl (Nat.le_of_ble_eq_true rfl) dX1_joinOperands_69 ⟨(Nat.le_of_ble_eq_true rfl), (Nat.le_of_ble_eq_true rfl)⟩ (fun H locs hP hD hS => ?_)
        refine lv_if_eq (tgt := 101) hx hb dX1_joinOperands_72 (by decide) (fun c_14 => ?_) (fun c_14 => ?_)
        · have hf := ift hf c_14
          cases hf
          exact ret_v X hAe hP hD hS rfl dX1_joinOperands_101
        · have hf := iff_ hf c_14
          refine lv_aload_n hx hb dX1_joinOperands_75 rfl (lv_at hl 0 rfl) ?_
          refine gf_X1_21 X rfl hP 0 rfl rfl dX1_joinOperands_76 ?_
          refine lv_iload hx hb dX1_joinOperands_79 (lv_at hl 4 rfl) ?_
          refine lv_aload_n hx hb dX1_joinOperands_81 rfl (lv_at hl 0 rfl) ?_
          refine gf_X1_21 X rfl hP 0 rfl rfl dX1_joinOperands_82 ?_
          refine lv_iload_n hx hb dX1_joinOperands_85 rfl (lv_at hl 3 rfl) ?_
          obtain ⟨hi_15, hf⟩ := ifs hf
          refine va_iald (D := g.1) hx hb hG.1 hP 3 1 rfl rfl (ix_in hi_15) dX1_joinOperands_86 ?_
          obtain ⟨hi_16, hf⟩ := ifs hf
          refine va_iast (D := g.1) hx hb hG.1 hP hD hS 3 1 rfl rfl (ix_in hi_16) dX1_joinOperands_87 (fun H locs hP hD hS => ?_)
          have hP : va_P g.1 vwCl [oX1 h h_operators h_operatorPlaces h_firsts h_lasts h_levels h_formula v_waiting v_operands v_openSigns v_openParens, aI g h_levels 160 v_levels, aI g h_firsts 160 v_firsts, aI g h_lasts 160 (upd v_lasts ((v_operands - (1 : Int32)) - (1 : Int32)).toNatClampNeg (v_lasts (v_operands - (1 : Int32)).toNatClampNeg)), oX2 h_formula h_formula_symbols h_formula_opens h_formula_closes h_formula_steps v_formula_length v_formula_stepCount, aI g h_formula_opens 160 v_formula_opens_6, aI g h_formula_closes 160 v_formula_closes_7] H := hP
          have hD : va_D A [oX1 h h_operators h_operatorPlaces h_firsts h_lasts h_levels h_formula v_waiting v_operands v_openSigns v_openParens, aI g h_levels 160 v_levels, aI g h_firsts 160 v_firsts, aI g h_lasts 160 (upd v_lasts ((v_operands - (1 : Int32)) - (1 : Int32)).toNatClampNeg (v_lasts (v_operands - (1 : Int32)).toNatClampNeg)), oX2 h_formula h_formula_symbols h_formula_opens h_formula_closes h_formula_steps v_formula_length v_formula_stepCount, aI g h_formula_opens 160 v_formula_opens_6, aI g h_formula_closes 160 v_formula_closes_7] := hD
          refine lv_aload_n hx hb dX1_joinOperands_88 rfl (lv_at hl 0 rfl) ?_
          refine gf_X1_24 X rfl hP 0 rfl rfl dX1_joinOperands_89 ?_
          refine lv_iload hx hb dX1_joinOperands_92 (lv_at hl 4 rfl) ?_
          refine lv_iload_n hx hb dX1_joinOperands_94 rfl (lv_at hl 2 rfl) ?_
          obtain ⟨hi_17, hf⟩ := ifs hf
          refine va_iast (D := g.1) hx hb hG.1 hP hD hS 1 1 rfl rfl (ix_in hi_17) dX1_joinOperands_95 (fun H locs hP hD hS => ?_)
          have hP : va_P g.1 vwCl [oX1 h h_operators h_operatorPlaces h_firsts h_lasts h_levels h_formula v_waiting v_operands v_openSigns v_openParens, aI g h_levels 160 (upd v_levels ((v_operands - (1 : Int32)) - (1 : Int32)).toNatClampNeg r_1), aI g h_firsts 160 v_firsts, aI g h_lasts 160 (upd v_lasts ((v_operands - (1 : Int32)) - (1 : Int32)).toNatClampNeg (v_lasts (v_operands - (1 : Int32)).toNatClampNeg)), oX2 h_formula h_formula_symbols h_formula_opens h_formula_closes h_formula_steps v_formula_length v_formula_stepCount, aI g h_formula_opens 160 v_formula_opens_6, aI g h_formula_closes 160 v_formula_closes_7] H := hP
          have hD : va_D A [oX1 h h_operators h_operatorPlaces h_firsts h_lasts h_levels h_formula v_waiting v_operands v_openSigns v_openParens, aI g h_levels 160 (upd v_levels ((v_operands - (1 : Int32)) - (1 : Int32)).toNatClampNeg r_1), aI g h_firsts 160 v_firsts, aI g h_lasts 160 (upd v_lasts ((v_operands - (1 : Int32)) - (1 : Int32)).toNatClampNeg (v_lasts (v_operands - (1 : Int32)).toNatClampNeg)), oX2 h_formula h_formula_symbols h_formula_opens h_formula_closes h_formula_steps v_formula_length v_formula_stepCount, aI g h_formula_opens 160 v_formula_opens_6, aI g h_formula_closes 160 v_formula_closes_7] := hD
          refine lv_aload_n hx hb dX1_joinOperands_96 rfl (lv_at hl 0 rfl) ?_
          refine lv_iload_n hx hb dX1_joinOperands_97 rfl (lv_at hl 3 rfl) ?_
          refine pf_X1_35 X rfl hP hD hS 0 rfl (Nat.le_of_ble_eq_true rfl) dX1_joinOperands_98 (fun H locs hP hD hS => ?_)
          have hP : va_P g.1 vwCl [oX1 h h_operators h_operatorPlaces h_firsts h_lasts h_levels h_formula v_waiting (v_operands - (1 : Int32)) v_openSigns v_openParens, aI g h_levels 160 (upd v_levels ((v_operands - (1 : Int32)) - (1 : Int32)).toNatClampNeg r_1), aI g h_firsts 160 v_firsts, aI g h_lasts 160 (upd v_lasts ((v_operands - (1 : Int32)) - (1 : Int32)).toNatClampNeg (v_lasts (v_operands - (1 : Int32)).toNatClampNeg)), oX2 h_formula h_formula_symbols h_formula_opens h_formula_closes h_formula_steps v_formula_length v_formula_stepCount, aI g h_formula_opens 160 v_formula_opens_6, aI g h_formula_closes 160 v_formula_closes_7] H := hP
          have hD : va_D A [oX1 h h_operators h_operatorPlaces h_firsts h_lasts h_levels h_formula v_waiting (v_operands - (1 : Int32)) v_openSigns v_openParens, aI g h_levels 160 (upd v_levels ((v_operands - (1 : Int32)) - (1 : Int32)).toNatClampNeg r_1), aI g h_firsts 160 v_firsts, aI g h_lasts 160 (upd v_lasts ((v_operands - (1 : Int32)) - (1 : Int32)).toNatClampNeg (v_lasts (v_operands - (1 : Int32)).toNatClampNeg)), oX2 h_formula h_formula_symbols h_formula_opens h_formula_closes h_formula_steps v_formula_length v_formula_stepCount, aI g h_formula_opens 160 v_formula_opens_6, aI g h_formula_closes 160 v_formula_closes_7] := hD
          cases hf
          exact ret_v X hAe hP hD hS rfl dX1_joinOperands_101
    refine lv_icmp_ne (tgt := 48) hx hb dX1_joinOperands_41 (by decide) (fun c_18 => ?_) (fun c_18 => ?_)
    · have hf := iff_ hf c_18
      refine lv_iload_n hx hb dX1_joinOperands_48 rfl (lv_at hl 2 rfl) ?_
      refine lv_iconst (v := 1) hx hb dX1_joinOperands_49 (by decide) ?_
      refine lv_iadd hx hb dX1_joinOperands_50 ?_
      exact J_51 (r_1 + (1 : Int32)) _ _ ls hP hD hS (lv_sub hl [0, 1, 2, 3, 4] rfl) hf
    · have hf := ift hf c_18
      refine lv_iload_n hx hb dX1_joinOperands_44 rfl (lv_at hl 2 rfl) ?_
      refine lv_goto (tgt := 51) hx hb dX1_joinOperands_45 (by decide) ?_
      exact J_51 r_1 _ _ ls hP hD hS (lv_sub hl [0, 1, 2, 3, 4] rfl) hf
  refine lv_icmp_ne (tgt := 32) hx hb dX1_joinOperands_23 (by decide) (fun c_19 => ?_) (fun c_19 => ?_)
  · have hf := iff_ hf c_19
    refine lv_iload_n hx hb dX1_joinOperands_32 rfl (lv_at hl 2 rfl) ?_
    exact J_33 r_1 _ _ ls hP hD hS (lv_sub hl [3, 4, 2, 1, 0] rfl) hf
  · have hf := ift hf c_19
    refine lv_iload_n hx hb dX1_joinOperands_26 rfl (lv_at hl 2 rfl) ?_
    refine lv_iconst (v := 1) hx hb dX1_joinOperands_27 (by decide) ?_
    refine lv_iadd hx hb dX1_joinOperands_28 ?_
    refine lv_goto (tgt := 33) hx hb dX1_joinOperands_29 (by decide) ?_
    exact J_33 (r_1 + (1 : Int32)) _ _ ls hP hD hS (lv_sub hl [3, 4, 2, 1, 0] rfl) hf
def lp_X1_applyDownTo_7 (y1_7 : Int32) (v_operators_7f : Nat → Int32) (v_operatorPlaces_7f : Nat → Int32) : Nat → Int32 → Int32 → Int32 → Int32 → Int32 → (Nat → Int32) → (Nat → Int32) → (Nat → Int32) → (Nat → Int32) → (Nat → Int32) → (Nat → Int32) → (Int32 → Int32 → Int32 → Int32 → Int32 → (Nat → Int32) → (Nat → Int32) → (Nat → Int32) → (Nat → Int32) → (Nat → Int32) → (Nat → Int32) → Option (Int32 × Int32 × Int32 × Int32 × (Nat → Int32) × (Nat → Int32) × (Nat → Int32) × (Nat → Int32) × (Nat → Int32) × (Nat → Int32))) → Option (Int32 × Int32 × Int32 × Int32 × (Nat → Int32) × (Nat → Int32) × (Nat → Int32) × (Nat → Int32) × (Nat → Int32) × (Nat → Int32))
  | 0, _, _, _, _, _, _, _, _, _, _, _, _ => none
  | n_7 + 1, x2_7, v_waiting_7, v_operands_7, v_openSigns_7, v_formula_stepCount_7, v_formula_steps_7, v_levels_7, v_firsts_7, v_lasts_7, v_formula_opens_7, v_formula_closes_7, K_7 =>
    (f_X11_within x2_7 160).bind fun r_1 =>
    if b2i r_1 = 0 then
    K_7 x2_7 v_waiting_7 v_operands_7 v_openSigns_7 v_formula_stepCount_7 v_formula_steps_7 v_levels_7 v_firsts_7 v_lasts_7 v_formula_opens_7 v_formula_closes_7
    else
    (if ix x2_7 160 then
    (f_X11_levelOf (v_operators_7f x2_7.toNatClampNeg)).bind fun r_5 =>
    if y1_7 ≤ r_5 then
    ((f_X2_addStep v_formula_stepCount_7 v_formula_steps_7 (v_operators_7f x2_7.toNatClampNeg)).bind fun (v_formula_stepCount_8, v_formula_steps_9) =>
    if v_operators_7f x2_7.toNatClampNeg = 33 then
    (if ix x2_7 160 then
    (f_X1_turnOperand v_operands_7 v_openSigns_7 v_levels_7 v_firsts_7 v_lasts_7 v_formula_opens_7 v_formula_closes_7 (v_operatorPlaces_7f x2_7.toNatClampNeg)).bind fun (v_openSigns_19, v_levels_20, v_firsts_21, v_formula_opens_22, v_formula_closes_23) =>
    lp_X1_applyDownTo_7 y1_7 v_operators_7f v_operatorPlaces_7f n_7 (x2_7 + (-1)) x2_7 v_operands_7 v_openSigns_19 v_formula_stepCount_8 v_formula_steps_9 v_levels_20 v_firsts_21 v_lasts_7 v_formula_opens_22 v_formula_closes_23 K_7
    else none)
    else
    ((f_X1_joinOperands v_operands_7 v_levels_7 v_firsts_7 v_lasts_7 v_formula_opens_7 v_formula_closes_7 (v_operators_7f x2_7.toNatClampNeg)).bind fun (v_operands_12, v_levels_13, v_lasts_14, v_formula_opens_15, v_formula_closes_16) =>
    lp_X1_applyDownTo_7 y1_7 v_operators_7f v_operatorPlaces_7f n_7 (x2_7 + (-1)) x2_7 v_operands_12 v_openSigns_7 v_formula_stepCount_8 v_formula_steps_9 v_levels_13 v_firsts_7 v_lasts_14 v_formula_opens_15 v_formula_closes_16 K_7))
    else
    some (v_waiting_7, v_operands_7, v_openSigns_7, v_formula_stepCount_7, v_formula_steps_7, v_levels_7, v_firsts_7, v_lasts_7, v_formula_opens_7, v_formula_closes_7)
    else none)
def f_X1_applyDownTo (v_waiting : Int32) (v_operands : Int32) (v_openSigns : Int32) (v_operators : Nat → Int32) (v_formula_stepCount : Int32) (v_formula_steps : Nat → Int32) (v_levels : Nat → Int32) (v_firsts : Nat → Int32) (v_lasts : Nat → Int32) (v_formula_opens : Nat → Int32) (v_formula_closes : Nat → Int32) (v_operatorPlaces : Nat → Int32) (a1 : Int32) : Option (Int32 × Int32 × Int32 × Int32 × (Nat → Int32) × (Nat → Int32) × (Nat → Int32) × (Nat → Int32) × (Nat → Int32) × (Nat → Int32)) :=
  lp_X1_applyDownTo_7 a1 v_operators v_operatorPlaces 5000 (v_waiting - (1 : Int32)) v_waiting v_operands v_openSigns v_formula_stepCount v_formula_steps v_levels v_firsts v_lasts v_formula_opens v_formula_closes (fun x2_7_25 v_waiting_7_26 v_operands_7_27 v_openSigns_7_28 v_formula_stepCount_7_29 v_formula_steps_7_30 v_levels_7_31 v_firsts_7_32 v_lasts_7_33 v_formula_opens_7_34 v_formula_closes_7_35 => 
  some (v_waiting_7_26, v_operands_7_27, v_openSigns_7_28, v_formula_stepCount_7_29, v_formula_steps_7_30, v_levels_7_31, v_firsts_7_32, v_lasts_7_33, v_formula_opens_7_34, v_formula_closes_7_35))
set_option maxHeartbeats 4000000 in
set_option maxRecDepth 100000 in
theorem c_X1_applyDownTo (l : Launch) (g : GT) (h : Nat) (h_operators : Nat) (h_operatorPlaces : Nat) (h_firsts : Nat) (h_lasts : Nat) (h_levels : Nat) (h_formula : Nat) (v_waiting : Int32) (v_operands : Int32) (v_openSigns : Int32) (v_openParens : Int32) (v_operators : Nat → Int32) (h_formula_symbols : Nat) (h_formula_opens : Nat) (h_formula_closes : Nat) (h_formula_steps : Nat) (v_formula_length : Int32) (v_formula_stepCount : Int32) (v_formula_steps : Nat → Int32) (v_levels : Nat → Int32) (v_firsts : Nat → Int32) (v_lasts : Nat → Int32) (v_formula_opens : Nat → Int32) (v_formula_closes : Nat → Int32) (v_operatorPlaces : Nat → Int32) (a1 : Int32) (u_waiting : Int32) (u_operands : Int32) (u_openSigns : Int32) (u_formula_stepCount : Int32) (u_formula_steps : Nat → Int32) (u_levels : Nat → Int32) (u_firsts : Nat → Int32) (u_lasts : Nat → Int32) (u_formula_opens : Nat → Int32) (u_formula_closes : Nat → Int32) (hf : f_X1_applyDownTo v_waiting v_operands v_openSigns v_operators v_formula_stepCount v_formula_steps v_levels v_firsts v_lasts v_formula_opens v_formula_closes v_operatorPlaces a1 = some (u_waiting, u_operands, u_openSigns, u_formula_stepCount, u_formula_steps, u_levels, u_firsts, u_lasts, u_formula_opens, u_formula_closes)) : Con l g yX1_applyDownTo cX1_applyDownTo 4 none ({ frames := 3, cells := 0, slots := 0, locals := 68 }) [.ref h, .int a1] [oX1 h h_operators h_operatorPlaces h_firsts h_lasts h_levels h_formula v_waiting v_operands v_openSigns v_openParens, aI g h_operators 160 v_operators, oX2 h_formula h_formula_symbols h_formula_opens h_formula_closes h_formula_steps v_formula_length v_formula_stepCount, aI g h_formula_steps 160 v_formula_steps, aI g h_levels 160 v_levels, aI g h_firsts 160 v_firsts, aI g h_lasts 160 v_lasts, aI g h_formula_opens 160 v_formula_opens, aI g h_formula_closes 160 v_formula_closes, aI g h_operatorPlaces 160 v_operatorPlaces] none [oX1 h h_operators h_operatorPlaces h_firsts h_lasts h_levels h_formula u_waiting u_operands u_openSigns v_openParens, aI g h_operators 160 v_operators, oX2 h_formula h_formula_symbols h_formula_opens h_formula_closes h_formula_steps v_formula_length u_formula_stepCount, aI g h_formula_steps 160 u_formula_steps, aI g h_levels 160 u_levels, aI g h_firsts 160 u_firsts, aI g h_lasts 160 u_lasts, aI g h_formula_opens 160 u_formula_opens, aI g h_formula_closes 160 u_formula_closes, aI g h_operatorPlaces 160 v_operatorPlaces] := by
  refine Con.of (by decide) (Nat.le_of_ble_eq_true rfl) ?_
  intro p e s m below meth c A ls hAe X hP hD hS hl
  obtain ⟨hx, hb, hml, hr, hown, hts, hlk, hnm, hA, hG, hZ⟩ := id X
  have hown : s.vm.findClass RX1 = some m.cls := hown
  have hl : lv_has ls 4 [(0, .ref h), (1, .int a1)] := hl
  unfold f_X1_applyDownTo at hf
  refine lv_aload_n hx hb dX1_applyDownTo_0 rfl (lv_at hl 0 rfl) ?_
  refine gf_X1_31 X rfl hP 0 rfl rfl dX1_applyDownTo_1 ?_
  refine lv_iconst (v := 1) hx hb dX1_applyDownTo_4 (by decide) ?_
  refine lv_isub hx hb dX1_applyDownTo_5 ?_
  refine lv_istore_n (lv' := [(2, .int (v_waiting - (1 : Int32))), (0, .ref h), (1, .int a1)]) hx hb dX1_applyDownTo_6 rfl hl (by decide) rfl (fun ls hl => ?_)
  have L_7 : ∀ (n : Nat) (x2_7 : Int32) (v_waiting_7 : Int32) (v_operands_7 : Int32) (v_openSigns_7 : Int32) (v_formula_stepCount_7 : Int32) (v_formula_steps_7 : Nat → Int32) (v_levels_7 : Nat → Int32) (v_firsts_7 : Nat → Int32) (v_lasts_7 : Nat → Int32) (v_formula_opens_7 : Nat → Int32) (v_formula_closes_7 : Nat → Int32) (H : Heap) (locs : List Loc) (ls : Array Slot) (K_7 : Int32 → Int32 → Int32 → Int32 → Int32 → (Nat → Int32) → (Nat → Int32) → (Nat → Int32) → (Nat → Int32) → (Nat → Int32) → (Nat → Int32) → Option (Int32 × Int32 × Int32 × Int32 × (Nat → Int32) × (Nat → Int32) × (Nat → Int32) × (Nat → Int32) × (Nat → Int32) × (Nat → Int32))), va_P g.1 vwCl [oX1 h h_operators h_operatorPlaces h_firsts h_lasts h_levels h_formula v_waiting_7 v_operands_7 v_openSigns_7 v_openParens, aI g h_operators 160 v_operators, oX2 h_formula h_formula_symbols h_formula_opens h_formula_closes h_formula_steps v_formula_length v_formula_stepCount_7, aI g h_formula_steps 160 v_formula_steps_7, aI g h_levels 160 v_levels_7, aI g h_firsts 160 v_firsts_7, aI g h_lasts 160 v_lasts_7, aI g h_formula_opens 160 v_formula_opens_7, aI g h_formula_closes 160 v_formula_closes_7, aI g h_operatorPlaces 160 v_operatorPlaces] H → va_D A [oX1 h h_operators h_operatorPlaces h_firsts h_lasts h_levels h_formula v_waiting_7 v_operands_7 v_openSigns_7 v_openParens, aI g h_operators 160 v_operators, oX2 h_formula h_formula_symbols h_formula_opens h_formula_closes h_formula_steps v_formula_length v_formula_stepCount_7, aI g h_formula_steps 160 v_formula_steps_7, aI g h_levels 160 v_levels_7, aI g h_firsts 160 v_firsts_7, aI g h_lasts 160 v_lasts_7, aI g h_formula_opens 160 v_formula_opens_7, aI g h_formula_closes 160 v_formula_closes_7, aI g h_operatorPlaces 160 v_operatorPlaces] → va_S A s.heap H locs → lv_has ls 4 [(0, .ref h), (1, .int a1), (2, .int x2_7)] → (∀ (z_x2_7 : Int32) (z_v_waiting_7 : Int32) (z_v_operands_7 : Int32) (z_v_openSigns_7 : Int32) (z_v_formula_stepCount_7 : Int32) (z_v_formula_steps_7 : Nat → Int32) (z_v_levels_7 : Nat → Int32) (z_v_firsts_7 : Nat → Int32) (z_v_lasts_7 : Nat → Int32) (z_v_formula_opens_7 : Nat → Int32) (z_v_formula_closes_7 : Nat → Int32) (H : Heap) (locs : List Loc) (ls : Array Slot), va_P g.1 vwCl [oX1 h h_operators h_operatorPlaces h_firsts h_lasts h_levels h_formula z_v_waiting_7 z_v_operands_7 z_v_openSigns_7 v_openParens, aI g h_operators 160 v_operators, oX2 h_formula h_formula_symbols h_formula_opens h_formula_closes h_formula_steps v_formula_length z_v_formula_stepCount_7, aI g h_formula_steps 160 z_v_formula_steps_7, aI g h_levels 160 z_v_levels_7, aI g h_firsts 160 z_v_firsts_7, aI g h_lasts 160 z_v_lasts_7, aI g h_formula_opens 160 z_v_formula_opens_7, aI g h_formula_closes 160 z_v_formula_closes_7, aI g h_operatorPlaces 160 v_operatorPlaces] H → va_D A [oX1 h h_operators h_operatorPlaces h_firsts h_lasts h_levels h_formula z_v_waiting_7 z_v_operands_7 z_v_openSigns_7 v_openParens, aI g h_operators 160 v_operators, oX2 h_formula h_formula_symbols h_formula_opens h_formula_closes h_formula_steps v_formula_length z_v_formula_stepCount_7, aI g h_formula_steps 160 z_v_formula_steps_7, aI g h_levels 160 z_v_levels_7, aI g h_firsts 160 z_v_firsts_7, aI g h_lasts 160 z_v_lasts_7, aI g h_formula_opens 160 z_v_formula_opens_7, aI g h_formula_closes 160 z_v_formula_closes_7, aI g h_operatorPlaces 160 v_operatorPlaces] → va_S A s.heap H locs → lv_has ls 4 [(0, .ref h), (1, .int a1), (2, .int z_x2_7)] → K_7 z_x2_7 z_v_waiting_7 z_v_operands_7 z_v_openSigns_7 z_v_formula_stepCount_7 z_v_formula_steps_7 z_v_levels_7 z_v_firsts_7 z_v_lasts_7 z_v_formula_opens_7 z_v_formula_closes_7 = some (u_waiting, u_operands, u_openSigns, u_formula_stepCount, u_formula_steps, u_levels, u_firsts, u_lasts, u_formula_opens, u_formula_closes) → W p l e ({ frames := 3, cells := 0, slots := 0, locals := 68 }) s m [.ref h, .int a1].toArray below meth c H locs 0 0 (MQ below (fun _ => QW g [oX1 h h_operators h_operatorPlaces h_firsts h_lasts h_levels h_formula v_waiting v_operands v_openSigns v_openParens, aI g h_operators 160 v_operators, oX2 h_formula h_formula_symbols h_formula_opens h_formula_closes h_formula_steps v_formula_length v_formula_stepCount, aI g h_formula_steps 160 v_formula_steps, aI g h_levels 160 v_levels, aI g h_firsts 160 v_firsts, aI g h_lasts 160 v_lasts, aI g h_formula_opens 160 v_formula_opens, aI g h_formula_closes 160 v_formula_closes, aI g h_operatorPlaces 160 v_operatorPlaces] s.heap.size none [oX1 h h_operators h_operatorPlaces h_firsts h_lasts h_levels h_formula u_waiting u_operands u_openSigns v_openParens, aI g h_operators 160 v_operators, oX2 h_formula h_formula_symbols h_formula_opens h_formula_closes h_formula_steps v_formula_length u_formula_stepCount, aI g h_formula_steps 160 u_formula_steps, aI g h_levels 160 u_levels, aI g h_firsts 160 u_firsts, aI g h_lasts 160 u_lasts, aI g h_formula_opens 160 u_formula_opens, aI g h_formula_closes 160 u_formula_closes, aI g h_operatorPlaces 160 v_operatorPlaces]) [.ref h, .int a1].toArray s 0 0 (va_A [oX1 h h_operators h_operatorPlaces h_firsts h_lasts h_levels h_formula v_waiting v_operands v_openSigns v_openParens, aI g h_operators 160 v_operators, oX2 h_formula h_formula_symbols h_formula_opens h_formula_closes h_formula_steps v_formula_length v_formula_stepCount, aI g h_formula_steps 160 v_formula_steps, aI g h_levels 160 v_levels, aI g h_firsts 160 v_firsts, aI g h_lasts 160 v_lasts, aI g h_formula_opens 160 v_formula_opens, aI g h_formula_closes 160 v_formula_closes, aI g h_operatorPlaces 160 v_operatorPlaces] s.heap.size)) (F0 m 76 ls [])) → lp_X1_applyDownTo_7 a1 v_operators v_operatorPlaces n x2_7 v_waiting_7 v_operands_7 v_openSigns_7 v_formula_stepCount_7 v_formula_steps_7 v_levels_7 v_firsts_7 v_lasts_7 v_formula_opens_7 v_formula_closes_7 K_7 = some (u_waiting, u_operands, u_openSigns, u_formula_stepCount, u_formula_steps, u_levels, u_firsts, u_lasts, u_formula_opens, u_formula_closes) → W p l e ({ frames := 3, cells := 0, slots := 0, locals := 68 }) s m [.ref h, .int a1].toArray below meth c H locs 0 0 (MQ below (fun _ => QW g [oX1 h h_operators h_operatorPlaces h_firsts h_lasts h_levels h_formula v_waiting v_operands v_openSigns v_openParens, aI g h_operators 160 v_operators, oX2 h_formula h_formula_symbols h_formula_opens h_formula_closes h_formula_steps v_formula_length v_formula_stepCount, aI g h_formula_steps 160 v_formula_steps, aI g h_levels 160 v_levels, aI g h_firsts 160 v_firsts, aI g h_lasts 160 v_lasts, aI g h_formula_opens 160 v_formula_opens, aI g h_formula_closes 160 v_formula_closes, aI g h_operatorPlaces 160 v_operatorPlaces] s.heap.size none [oX1 h h_operators h_operatorPlaces h_firsts h_lasts h_levels h_formula u_waiting u_operands u_openSigns v_openParens, aI g h_operators 160 v_operators, oX2 h_formula h_formula_symbols h_formula_opens h_formula_closes h_formula_steps v_formula_length u_formula_stepCount, aI g h_formula_steps 160 u_formula_steps, aI g h_levels 160 u_levels, aI g h_firsts 160 u_firsts, aI g h_lasts 160 u_lasts, aI g h_formula_opens 160 u_formula_opens, aI g h_formula_closes 160 u_formula_closes, aI g h_operatorPlaces 160 v_operatorPlaces]) [.ref h, .int a1].toArray s 0 0 (va_A [oX1 h h_operators h_operatorPlaces h_firsts h_lasts h_levels h_formula v_waiting v_operands v_openSigns v_openParens, aI g h_operators 160 v_operators, oX2 h_formula h_formula_symbols h_formula_opens h_formula_closes h_formula_steps v_formula_length v_formula_stepCount, aI g h_formula_steps 160 v_formula_steps, aI g h_levels 160 v_levels, aI g h_firsts 160 v_firsts, aI g h_lasts 160 v_lasts, aI g h_formula_opens 160 v_formula_opens, aI g h_formula_closes 160 v_formula_closes, aI g h_operatorPlaces 160 v_operatorPlaces] s.heap.size)) (F0 m 7 ls []) := by
    intro n
    induction n with
    | zero =>
      intro x2_7 v_waiting_7 v_operands_7 v_openSigns_7 v_formula_stepCount_7 v_formula_steps_7 v_levels_7 v_firsts_7 v_lasts_7 v_formula_opens_7 v_formula_closes_7 H locs ls K_7 hP hD hS hl hk hf
      have hf : (none : Option (Int32 × Int32 × Int32 × Int32 × (Nat → Int32) × (Nat → Int32) × (Nat → Int32) × (Nat → Int32) × (Nat → Int32) × (Nat → Int32))) = some _ := hf
      cases hf
    | succ n_7 ih_7 =>
      intro x2_7 v_waiting_7 v_operands_7 v_openSigns_7 v_formula_stepCount_7 v_formula_steps_7 v_levels_7 v_firsts_7 v_lasts_7 v_formula_opens_7 v_formula_closes_7 H locs ls K_7 hP hD hS hl hk_7 hf
      refine lv_iload_n hx hb dX1_applyDownTo_7 rfl (lv_at hl 2 rfl) ?_
      refine lv_sipush (v := 160) hx hb dX1_applyDownTo_8 (by decide) ?_
      obtain ⟨r_36, hf_37, hf⟩ := obind hf
      refine gcSN (rest := []) (wn := [oX1 h h_operators h_operatorPlaces h_firsts h_lasts h_levels h_formula v_waiting_7 v_operands_7 v_openSigns_7 v_openParens, aI g h_operators 160 v_operators, oX2 h_formula h_formula_symbols h_formula_opens h_formula_closes h_formula_steps v_formula_length v_formula_stepCount_7, aI g h_formula_steps 160 v_formula_steps_7, aI g h_levels 160 v_levels_7, aI g h_firsts 160 v_firsts_7, aI g h_lasts 160 v_lasts_7, aI g h_formula_opens 160 v_formula_opens_7, aI g h_formula_closes 160 v_formula_closes_7, aI g h_operatorPlaces 160 v_operatorPlaces]) X hP hD hS hl (c_X11_within l g x2_7 160 r_36 hf_37) [] rfl rfl rfl [.inl 0, .inl 1, .inl 2, .inl 3, .inl 4, .inl 5, .inl 6, .inl 7, .inl 8, .inl 9] rfl rfl cd_X11_within rfl st_X11_within ml_X1_58 rfl rfl ⟨(Nat.le_of_ble_eq_true rfl), (Nat.le_of_ble_eq_true rfl)⟩ rfl (Nat.le_of_ble_eq_true rfl) dX1_applyDownTo_11 ⟨(Nat.le_of_ble_eq_true rfl), (Nat.le_of_ble_eq_true rfl)⟩ (fun H locs hP hD hS => ?_)
      refine lv_if_eq (tgt := 76) hx hb dX1_applyDownTo_14 (by decide) (fun c_38 => ?_) (fun c_38 => ?_)
      · have hf := ift hf c_38
        exact hk_7 x2_7 v_waiting_7 v_operands_7 v_openSigns_7 v_formula_stepCount_7 v_formula_steps_7 v_levels_7 v_firsts_7 v_lasts_7 v_formula_opens_7 v_formula_closes_7 H locs ls hP hD hS (lv_sub hl [0, 1, 2] rfl) hf
      · have hf := iff_ hf c_38
        refine lv_aload_n hx hb dX1_applyDownTo_17 rfl (lv_at hl 0 rfl) ?_
        refine gf_X1_9 X rfl hP 0 rfl rfl dX1_applyDownTo_18 ?_
        refine lv_iload_n hx hb dX1_applyDownTo_21 rfl (lv_at hl 2 rfl) ?_
        obtain ⟨hi_39, hf⟩ := ifs hf
        refine va_iald (D := g.1) hx hb hG.1 hP 1 1 rfl rfl (ix_in hi_39) dX1_applyDownTo_22 ?_
        refine lv_istore_n (lv' := [(3, .int (v_operators x2_7.toNatClampNeg)), (0, .ref h), (1, .int a1), (2, .int x2_7)]) hx hb dX1_applyDownTo_23 rfl hl (by decide) rfl (fun ls hl => ?_)
        refine lv_iload_n hx hb dX1_applyDownTo_24 rfl (lv_at hl 0 rfl) ?_
        obtain ⟨r_40, hf_41, hf⟩ := obind hf
        refine gcSN (rest := []) (wn := [oX1 h h_operators h_operatorPlaces h_firsts h_lasts h_levels h_formula v_waiting_7 v_operands_7 v_openSigns_7 v_openParens, aI g h_operators 160 v_operators, oX2 h_formula h_formula_symbols h_formula_opens h_formula_closes h_formula_steps v_formula_length v_formula_stepCount_7, aI g h_formula_steps 160 v_formula_steps_7, aI g h_levels 160 v_levels_7, aI g h_firsts 160 v_firsts_7, aI g h_lasts 160 v_lasts_7, aI g h_formula_opens 160 v_formula_opens_7, aI g h_formula_closes 160 v_formula_closes_7, aI g h_operatorPlaces 160 v_operatorPlaces]) X hP hD hS hl (c_X11_levelOf l g (v_operators x2_7.toNatClampNeg) r_40 hf_41) [] rfl rfl rfl [.inl 0, .inl 1, .inl 2, .inl 3, .inl 4, .inl 5, .inl 6, .inl 7, .inl 8, .inl 9] rfl rfl cd_X11_levelOf rfl st_X11_levelOf ml_X1_65 rfl rfl ⟨(Nat.le_of_ble_eq_true rfl), (Nat.le_of_ble_eq_true rfl)⟩ rfl (Nat.le_of_ble_eq_true rfl) dX1_applyDownTo_25 ⟨(Nat.le_of_ble_eq_true rfl), (Nat.le_of_ble_eq_true rfl)⟩ (fun H locs hP hD hS => ?_)
        refine lv_iload_n hx hb dX1_applyDownTo_28 rfl (lv_at hl 2 rfl) ?_
        refine lv_icmp_ge (tgt := 33) hx hb dX1_applyDownTo_29 (by decide) (fun c_42 => ?_) (fun c_42 => ?_)
        · have hf := ift hf c_42
          refine lv_aload_n hx hb dX1_applyDownTo_33 rfl (lv_at hl 1 rfl) ?_
          refine lv_iload_n hx hb dX1_applyDownTo_34 rfl (lv_at hl 3 rfl) ?_
          refine pf_X1_31 X rfl hP hD hS 0 rfl (Nat.le_of_ble_eq_true rfl) dX1_applyDownTo_35 (fun H locs hP hD hS => ?_)
          have hP : va_P g.1 vwCl [oX1 h h_operators h_operatorPlaces h_firsts h_lasts h_levels h_formula x2_7 v_operands_7 v_openSigns_7 v_openParens, aI g h_operators 160 v_operators, oX2 h_formula h_formula_symbols h_formula_opens h_formula_closes h_formula_steps v_formula_length v_formula_stepCount_7, aI g h_formula_steps 160 v_formula_steps_7, aI g h_levels 160 v_levels_7, aI g h_firsts 160 v_firsts_7, aI g h_lasts 160 v_lasts_7, aI g h_formula_opens 160 v_formula_opens_7, aI g h_formula_closes 160 v_formula_closes_7, aI g h_operatorPlaces 160 v_operatorPlaces] H := hP
          have hD : va_D A [oX1 h h_operators h_operatorPlaces h_firsts h_lasts h_levels h_formula x2_7 v_operands_7 v_openSigns_7 v_openParens, aI g h_operators 160 v_operators, oX2 h_formula h_formula_symbols h_formula_opens h_formula_closes h_formula_steps v_formula_length v_formula_stepCount_7, aI g h_formula_steps 160 v_formula_steps_7, aI g h_levels 160 v_levels_7, aI g h_firsts 160 v_firsts_7, aI g h_lasts 160 v_lasts_7, aI g h_formula_opens 160 v_formula_opens_7, aI g h_formula_closes 160 v_formula_closes_7, aI g h_operatorPlaces 160 v_operatorPlaces] := hD
          refine lv_aload_n hx hb dX1_applyDownTo_38 rfl (lv_at hl 1 rfl) ?_
          refine gf_X1_27 X rfl hP 0 rfl rfl dX1_applyDownTo_39 ?_
          refine lv_iload_n hx hb dX1_applyDownTo_42 rfl (lv_at hl 0 rfl) ?_
          obtain ⟨⟨v_formula_stepCount_43, v_formula_steps_44⟩, hf_45, hf⟩ := obind hf
          refine gcV (rest := []) (wn := [oX1 h h_operators h_operatorPlaces h_firsts h_lasts h_levels h_formula x2_7 v_operands_7 v_openSigns_7 v_openParens, aI g h_operators 160 v_operators, oX2 h_formula h_formula_symbols h_formula_opens h_formula_closes h_formula_steps v_formula_length v_formula_stepCount_43, aI g h_formula_steps 160 v_formula_steps_44, aI g h_levels 160 v_levels_7, aI g h_firsts 160 v_firsts_7, aI g h_lasts 160 v_lasts_7, aI g h_formula_opens 160 v_formula_opens_7, aI g h_formula_closes 160 v_formula_closes_7, aI g h_operatorPlaces 160 v_operatorPlaces]) X hP hD hS hl (c_X2_addStep l g h_formula h_formula_symbols h_formula_opens h_formula_closes h_formula_steps v_formula_length v_formula_stepCount_7 v_formula_steps_7 (v_operators x2_7.toNatClampNeg) v_formula_stepCount_43 v_formula_steps_44 hf_45) [2, 3] rfl rfl rfl [.inl 0, .inl 1, .inr 0, .inr 1, .inl 4, .inl 5, .inl 6, .inl 7, .inl 8, .inl 9] rfl rfl cd_X2_addStep rfl im_X2_addStep se_X2_addStep ml_X1_54 2 rfl rfl rfl rfl rfl ⟨(Nat.le_of_ble_eq_true rfl), (Nat.le_of_ble_eq_true rfl)⟩ rfl (Nat.le_of_ble_eq_true rfl) dX1_applyDownTo_43 ⟨(Nat.le_of_ble_eq_true rfl), (Nat.le_of_ble_eq_true rfl)⟩ (fun H locs hP hD hS => ?_)
          refine lv_iload_n hx hb dX1_applyDownTo_46 rfl (lv_at hl 0 rfl) ?_
          refine lv_bipush (v := 33) hx hb dX1_applyDownTo_47 (by decide) ?_
          refine lv_icmp_ne (tgt := 65) hx hb dX1_applyDownTo_49 (by decide) (fun c_46 => ?_) (fun c_46 => ?_)
          · have hf := iff_ hf c_46
            refine lv_aload_n hx hb dX1_applyDownTo_65 rfl (lv_at hl 1 rfl) ?_
            refine lv_iload_n hx hb dX1_applyDownTo_66 rfl (lv_at hl 0 rfl) ?_
            obtain ⟨⟨v_operands_47, v_levels_48, v_lasts_49, v_formula_opens_50, v_formula_closes_51⟩, hf_52, hf⟩ := obind hf
            refine gcV (rest := []) (wn := [oX1 h h_operators h_operatorPlaces h_firsts h_lasts h_levels h_formula x2_7 v_operands_47 v_openSigns_7 v_openParens, aI g h_operators 160 v_operators, oX2 h_formula h_formula_symbols h_formula_opens h_formula_closes h_formula_steps v_formula_length v_formula_stepCount_43, aI g h_formula_steps 160 v_formula_steps_44, aI g h_levels 160 v_levels_48, aI g h_firsts 160 v_firsts_7, aI g h_lasts 160 v_lasts_49, aI g h_formula_opens 160 v_formula_opens_50, aI g h_formula_closes 160 v_formula_closes_51, aI g h_operatorPlaces 160 v_operatorPlaces]) X hP hD hS hl (c_X1_joinOperands l g h h_operators h_operatorPlaces h_firsts h_lasts h_levels h_formula x2_7 v_operands_7 v_openSigns_7 v_openParens v_levels_7 v_firsts_7 v_lasts_7 h_formula_symbols h_formula_opens h_formula_closes h_formula_steps v_formula_length v_formula_stepCount_43 v_formula_opens_7 v_formula_closes_7 (v_operators x2_7.toNatClampNeg) v_operands_47 v_levels_48 v_lasts_49 v_formula_opens_50 v_formula_closes_51 hf_52) [0, 4, 5, 6, 2, 7, 8] rfl rfl rfl [.inr 0, .inl 1, .inr 4, .inl 3, .inr 1, .inr 2, .inr 3, .inr 5, .inr 6, .inl 9] rfl rfl cd_X1_joinOperands rfl im_X1_joinOperands se_X1_joinOperands ml_X1_71 0 rfl rfl rfl rfl rfl ⟨(Nat.le_of_ble_eq_true rfl), (Nat.le_of_ble_eq_true rfl)⟩ rfl (Nat.le_of_ble_eq_true rfl) dX1_applyDownTo_67 ⟨(Nat.le_of_ble_eq_true rfl), (Nat.le_of_ble_eq_true rfl)⟩ (fun H locs hP hD hS => ?_)
            refine lv_iinc (v := x2_7 + (-1)) (lv' := [(2, .int (x2_7 + (-1))), (3, .int (v_operators x2_7.toNatClampNeg)), (0, .ref h), (1, .int a1)]) hx hb dX1_applyDownTo_70 hl (k := 3) rfl rfl (by decide) rfl (fun ls hl => ?_)
            refine lv_goto (tgt := 7) hx hb dX1_applyDownTo_73 (by decide) ?_
            exact ih_7 (x2_7 + (-1)) x2_7 v_operands_47 v_openSigns_7 v_formula_stepCount_43 v_formula_steps_44 v_levels_48 v_firsts_7 v_lasts_49 v_formula_opens_50 v_formula_closes_51 H locs ls K_7 hP hD hS (lv_sub hl [2, 3, 0] rfl) hk_7 hf
          · have hf := ift hf c_46
            refine lv_aload_n hx hb dX1_applyDownTo_52 rfl (lv_at hl 1 rfl) ?_
            refine lv_aload_n hx hb dX1_applyDownTo_53 rfl (lv_at hl 1 rfl) ?_
            refine gf_X1_15 X rfl hP 0 rfl rfl dX1_applyDownTo_54 ?_
            refine lv_iload_n hx hb dX1_applyDownTo_57 rfl (lv_at hl 3 rfl) ?_
            obtain ⟨hi_53, hf⟩ := ifs hf
            refine va_iald (D := g.1) hx hb hG.1 hP 9 1 rfl rfl (ix_in hi_53) dX1_applyDownTo_58 ?_
            obtain ⟨⟨v_openSigns_54, v_levels_55, v_firsts_56, v_formula_opens_57, v_formula_closes_58⟩, hf_59, hf⟩ := obind hf
            refine gcV (rest := []) (wn := [oX1 h h_operators h_operatorPlaces h_firsts h_lasts h_levels h_formula x2_7 v_operands_7 v_openSigns_54 v_openParens, aI g h_operators 160 v_operators, oX2 h_formula h_formula_symbols h_formula_opens h_formula_closes h_formula_steps v_formula_length v_formula_stepCount_43, aI g h_formula_steps 160 v_formula_steps_44, aI g h_levels 160 v_levels_55, aI g h_firsts 160 v_firsts_56, aI g h_lasts 160 v_lasts_7, aI g h_formula_opens 160 v_formula_opens_57, aI g h_formula_closes 160 v_formula_closes_58, aI g h_operatorPlaces 160 v_operatorPlaces]) X hP hD hS hl (c_X1_turnOperand l g h h_operators h_operatorPlaces h_firsts h_lasts h_levels h_formula x2_7 v_operands_7 v_openSigns_7 v_openParens v_levels_7 v_firsts_7 v_lasts_7 h_formula_symbols h_formula_opens h_formula_closes h_formula_steps v_formula_length v_formula_stepCount_43 v_formula_opens_7 v_formula_closes_7 (v_operatorPlaces x2_7.toNatClampNeg) v_openSigns_54 v_levels_55 v_firsts_56 v_formula_opens_57 v_formula_closes_58 hf_59) [0, 4, 5, 6, 2, 7, 8] rfl rfl rfl [.inr 0, .inl 1, .inr 4, .inl 3, .inr 1, .inr 2, .inr 3, .inr 5, .inr 6, .inl 9] rfl rfl cd_X1_turnOperand rfl im_X1_turnOperand se_X1_turnOperand ml_X1_68 0 rfl rfl rfl rfl rfl ⟨(Nat.le_of_ble_eq_true rfl), (Nat.le_of_ble_eq_true rfl)⟩ rfl (Nat.le_of_ble_eq_true rfl) dX1_applyDownTo_59 ⟨(Nat.le_of_ble_eq_true rfl), (Nat.le_of_ble_eq_true rfl)⟩ (fun H locs hP hD hS => ?_)
            refine lv_goto (tgt := 70) hx hb dX1_applyDownTo_62 (by decide) ?_
            refine lv_iinc (v := x2_7 + (-1)) (lv' := [(2, .int (x2_7 + (-1))), (3, .int (v_operators x2_7.toNatClampNeg)), (0, .ref h), (1, .int a1)]) hx hb dX1_applyDownTo_70 hl (k := 3) rfl rfl (by decide) rfl (fun ls hl => ?_)
            refine lv_goto (tgt := 7) hx hb dX1_applyDownTo_73 (by decide) ?_
            exact ih_7 (x2_7 + (-1)) x2_7 v_operands_7 v_openSigns_54 v_formula_stepCount_43 v_formula_steps_44 v_levels_55 v_firsts_56 v_lasts_7 v_formula_opens_57 v_formula_closes_58 H locs ls K_7 hP hD hS (lv_sub hl [2, 3, 0] rfl) hk_7 hf
        · have hf := iff_ hf c_42
          cases hf
          exact ret_v X hAe hP hD hS rfl dX1_applyDownTo_32
  refine L_7 _ _ _ _ _ _ _ _ _ _ _ _ _ _ ls _ hP hD hS (lv_sub hl [1, 2, 0] rfl) (fun x2_7_25 v_waiting_7_26 v_operands_7_27 v_openSigns_7_28 v_formula_stepCount_7_29 v_formula_steps_7_30 v_levels_7_31 v_firsts_7_32 v_lasts_7_33 v_formula_opens_7_34 v_formula_closes_7_35 H locs ls hP hD hS hl hf => ?_) hf
  cases hf
  exact ret_v X hAe hP hD hS rfl dX1_applyDownTo_76
def f_X1_addOperand (v_waiting : Int32) (v_operands : Int32) (v_openSigns : Int32) (v_formula_length : Int32) (v_formula_stepCount : Int32) (v_formula_symbols : Nat → Int32) (v_formula_opens : Nat → Int32) (v_formula_closes : Nat → Int32) (v_formula_steps : Nat → Int32) (v_operators : Nat → Int32) (v_levels : Nat → Int32) (v_firsts : Nat → Int32) (v_lasts : Nat → Int32) (v_operatorPlaces : Nat → Int32) (a1 : Int32) : Option (Int32 × Int32 × Int32 × Int32 × Int32 × (Nat → Int32) × (Nat → Int32) × (Nat → Int32) × (Nat → Int32) × (Nat → Int32) × (Nat → Int32) × (Nat → Int32)) :=
  (f_X2_addSymbol v_formula_length v_formula_symbols v_formula_opens v_formula_closes a1).bind fun (r_1, v_formula_length_2, v_formula_symbols_3, v_formula_opens_4, v_formula_closes_5) =>
  (f_X2_addStep v_formula_stepCount v_formula_steps a1).bind fun (v_formula_stepCount_7, v_formula_steps_8) =>
  (f_X11_within v_operands 160).bind fun r_10 =>
  if b2i r_10 = 0 then
  ((f_X1_applyDownTo v_waiting v_operands v_openSigns v_operators v_formula_stepCount_7 v_formula_steps_8 v_levels v_firsts v_lasts v_formula_opens_4 v_formula_closes_5 v_operatorPlaces 6).bind fun (v_waiting_13, v_operands_14, v_openSigns_15, v_formula_stepCount_16, v_formula_steps_17, v_levels_18, v_firsts_19, v_lasts_20, v_formula_opens_21, v_formula_closes_22) =>
  some (v_waiting_13, v_operands_14, v_openSigns_15, v_formula_length_2, v_formula_stepCount_16, v_formula_symbols_3, v_formula_opens_21, v_formula_closes_22, v_formula_steps_17, v_levels_18, v_firsts_19, v_lasts_20))
  else
  (if ix v_operands 160 then
  if ix v_operands 160 then
  if ix v_operands 160 then
  (f_X1_applyDownTo v_waiting (v_operands + (1 : Int32)) v_openSigns v_operators v_formula_stepCount_7 v_formula_steps_8 (upd v_levels v_operands.toNatClampNeg 6) (upd v_firsts v_operands.toNatClampNeg r_1) (upd v_lasts v_operands.toNatClampNeg r_1) v_formula_opens_4 v_formula_closes_5 v_operatorPlaces 6).bind fun (v_waiting_27, v_operands_28, v_openSigns_29, v_formula_stepCount_30, v_formula_steps_31, v_levels_32, v_firsts_33, v_lasts_34, v_formula_opens_35, v_formula_closes_36) =>
  some (v_waiting_27, v_operands_28, v_openSigns_29, v_formula_length_2, v_formula_stepCount_30, v_formula_symbols_3, v_formula_opens_35, v_formula_closes_36, v_formula_steps_31, v_levels_32, v_firsts_33, v_lasts_34)
  else none
  else none
  else none)
set_option maxHeartbeats 4000000 in
set_option maxRecDepth 100000 in
theorem c_X1_addOperand (l : Launch) (g : GT) (h : Nat) (h_operators : Nat) (h_operatorPlaces : Nat) (h_firsts : Nat) (h_lasts : Nat) (h_levels : Nat) (h_formula : Nat) (v_waiting : Int32) (v_operands : Int32) (v_openSigns : Int32) (v_openParens : Int32) (h_formula_symbols : Nat) (h_formula_opens : Nat) (h_formula_closes : Nat) (h_formula_steps : Nat) (v_formula_length : Int32) (v_formula_stepCount : Int32) (v_formula_symbols : Nat → Int32) (v_formula_opens : Nat → Int32) (v_formula_closes : Nat → Int32) (v_formula_steps : Nat → Int32) (v_operators : Nat → Int32) (v_levels : Nat → Int32) (v_firsts : Nat → Int32) (v_lasts : Nat → Int32) (v_operatorPlaces : Nat → Int32) (a1 : Int32) (u_waiting : Int32) (u_operands : Int32) (u_openSigns : Int32) (u_formula_length : Int32) (u_formula_stepCount : Int32) (u_formula_symbols : Nat → Int32) (u_formula_opens : Nat → Int32) (u_formula_closes : Nat → Int32) (u_formula_steps : Nat → Int32) (u_levels : Nat → Int32) (u_firsts : Nat → Int32) (u_lasts : Nat → Int32) (hf : f_X1_addOperand v_waiting v_operands v_openSigns v_formula_length v_formula_stepCount v_formula_symbols v_formula_opens v_formula_closes v_formula_steps v_operators v_levels v_firsts v_lasts v_operatorPlaces a1 = some (u_waiting, u_operands, u_openSigns, u_formula_length, u_formula_stepCount, u_formula_symbols, u_formula_opens, u_formula_closes, u_formula_steps, u_levels, u_firsts, u_lasts)) : Con l g yX1_addOperand cX1_addOperand 3 none ({ frames := 4, cells := 0, slots := 0, locals := 91 }) [.ref h, .int a1] [oX1 h h_operators h_operatorPlaces h_firsts h_lasts h_levels h_formula v_waiting v_operands v_openSigns v_openParens, oX2 h_formula h_formula_symbols h_formula_opens h_formula_closes h_formula_steps v_formula_length v_formula_stepCount, aI g h_formula_symbols 160 v_formula_symbols, aI g h_formula_opens 160 v_formula_opens, aI g h_formula_closes 160 v_formula_closes, aI g h_formula_steps 160 v_formula_steps, aI g h_operators 160 v_operators, aI g h_levels 160 v_levels, aI g h_firsts 160 v_firsts, aI g h_lasts 160 v_lasts, aI g h_operatorPlaces 160 v_operatorPlaces] none [oX1 h h_operators h_operatorPlaces h_firsts h_lasts h_levels h_formula u_waiting u_operands u_openSigns v_openParens, oX2 h_formula h_formula_symbols h_formula_opens h_formula_closes h_formula_steps u_formula_length u_formula_stepCount, aI g h_formula_symbols 160 u_formula_symbols, aI g h_formula_opens 160 u_formula_opens, aI g h_formula_closes 160 u_formula_closes, aI g h_formula_steps 160 u_formula_steps, aI g h_operators 160 v_operators, aI g h_levels 160 u_levels, aI g h_firsts 160 u_firsts, aI g h_lasts 160 u_lasts, aI g h_operatorPlaces 160 v_operatorPlaces] := by
  refine Con.of (by decide) (Nat.le_of_ble_eq_true rfl) ?_
  intro p e s m below meth c A ls hAe X hP hD hS hl
  obtain ⟨hx, hb, hml, hr, hown, hts, hlk, hnm, hA, hG, hZ⟩ := id X
  have hown : s.vm.findClass RX1 = some m.cls := hown
  have hl : lv_has ls 3 [(0, .ref h), (1, .int a1)] := hl
  unfold f_X1_addOperand at hf
  refine lv_aload_n hx hb dX1_addOperand_0 rfl (lv_at hl 0 rfl) ?_
  refine gf_X1_27 X rfl hP 0 rfl rfl dX1_addOperand_1 ?_
  refine lv_iload_n hx hb dX1_addOperand_4 rfl (lv_at hl 1 rfl) ?_
  obtain ⟨⟨r_1, v_formula_length_2, v_formula_symbols_3, v_formula_opens_4, v_formula_closes_5⟩, hf_6, hf⟩ := obind hf
  refine gcV (rest := []) (wn := [oX1 h h_operators h_operatorPlaces h_firsts h_lasts h_levels h_formula v_waiting v_operands v_openSigns v_openParens, oX2 h_formula h_formula_symbols h_formula_opens h_formula_closes h_formula_steps v_formula_length_2 v_formula_stepCount, aI g h_formula_symbols 160 v_formula_symbols_3, aI g h_formula_opens 160 v_formula_opens_4, aI g h_formula_closes 160 v_formula_closes_5, aI g h_formula_steps 160 v_formula_steps, aI g h_operators 160 v_operators, aI g h_levels 160 v_levels, aI g h_firsts 160 v_firsts, aI g h_lasts 160 v_lasts, aI g h_operatorPlaces 160 v_operatorPlaces]) X hP hD hS hl (c_X2_addSymbol l g h_formula h_formula_symbols h_formula_opens h_formula_closes h_formula_steps v_formula_length v_formula_stepCount v_formula_symbols v_formula_opens v_formula_closes a1 r_1 v_formula_length_2 v_formula_symbols_3 v_formula_opens_4 v_formula_closes_5 hf_6) [1, 2, 3, 4] rfl rfl rfl [.inl 0, .inr 0, .inr 1, .inr 2, .inr 3, .inl 5, .inl 6, .inl 7, .inl 8, .inl 9, .inl 10] rfl rfl cd_X2_addSymbol rfl im_X2_addSymbol se_X2_addSymbol ml_X1_48 1 rfl rfl rfl rfl rfl ⟨(Nat.le_of_ble_eq_true rfl), (Nat.le_of_ble_eq_true rfl)⟩ rfl (Nat.le_of_ble_eq_true rfl) dX1_addOperand_5 ⟨(Nat.le_of_ble_eq_true rfl), (Nat.le_of_ble_eq_true rfl)⟩ (fun H locs hP hD hS => ?_)
  refine lv_istore_n (lv' := [(2, .int r_1), (0, .ref h), (1, .int a1)]) hx hb dX1_addOperand_8 rfl hl (by decide) rfl (fun ls hl => ?_)
  refine lv_aload_n hx hb dX1_addOperand_9 rfl (lv_at hl 1 rfl) ?_
  refine gf_X1_27 X rfl hP 0 rfl rfl dX1_addOperand_10 ?_
  refine lv_iload_n hx hb dX1_addOperand_13 rfl (lv_at hl 2 rfl) ?_
  obtain ⟨⟨v_formula_stepCount_7, v_formula_steps_8⟩, hf_9, hf⟩ := obind hf
  refine gcV (rest := []) (wn := [oX1 h h_operators h_operatorPlaces h_firsts h_lasts h_levels h_formula v_waiting v_operands v_openSigns v_openParens, oX2 h_formula h_formula_symbols h_formula_opens h_formula_closes h_formula_steps v_formula_length_2 v_formula_stepCount_7, aI g h_formula_symbols 160 v_formula_symbols_3, aI g h_formula_opens 160 v_formula_opens_4, aI g h_formula_closes 160 v_formula_closes_5, aI g h_formula_steps 160 v_formula_steps_8, aI g h_operators 160 v_operators, aI g h_levels 160 v_levels, aI g h_firsts 160 v_firsts, aI g h_lasts 160 v_lasts, aI g h_operatorPlaces 160 v_operatorPlaces]) X hP hD hS hl (c_X2_addStep l g h_formula h_formula_symbols h_formula_opens h_formula_closes h_formula_steps v_formula_length_2 v_formula_stepCount v_formula_steps a1 v_formula_stepCount_7 v_formula_steps_8 hf_9) [1, 5] rfl rfl rfl [.inl 0, .inr 0, .inl 2, .inl 3, .inl 4, .inr 1, .inl 6, .inl 7, .inl 8, .inl 9, .inl 10] rfl rfl cd_X2_addStep rfl im_X2_addStep se_X2_addStep ml_X1_54 1 rfl rfl rfl rfl rfl ⟨(Nat.le_of_ble_eq_true rfl), (Nat.le_of_ble_eq_true rfl)⟩ rfl (Nat.le_of_ble_eq_true rfl) dX1_addOperand_14 ⟨(Nat.le_of_ble_eq_true rfl), (Nat.le_of_ble_eq_true rfl)⟩ (fun H locs hP hD hS => ?_)
  refine lv_aload_n hx hb dX1_addOperand_17 rfl (lv_at hl 1 rfl) ?_
  refine gf_X1_35 X rfl hP 0 rfl rfl dX1_addOperand_18 ?_
  refine lv_sipush (v := 160) hx hb dX1_addOperand_21 (by decide) ?_
  obtain ⟨r_10, hf_11, hf⟩ := obind hf
  refine gcSN (rest := []) (wn := [oX1 h h_operators h_operatorPlaces h_firsts h_lasts h_levels h_formula v_waiting v_operands v_openSigns v_openParens, oX2 h_formula h_formula_symbols h_formula_opens h_formula_closes h_formula_steps v_formula_length_2 v_formula_stepCount_7, aI g h_formula_symbols 160 v_formula_symbols_3, aI g h_formula_opens 160 v_formula_opens_4, aI g h_formula_closes 160 v_formula_closes_5, aI g h_formula_steps 160 v_formula_steps_8, aI g h_operators 160 v_operators, aI g h_levels 160 v_levels, aI g h_firsts 160 v_firsts, aI g h_lasts 160 v_lasts, aI g h_operatorPlaces 160 v_operatorPlaces]) X hP hD hS hl (c_X11_within l g v_operands 160 r_10 hf_11) [] rfl rfl rfl [.inl 0, .inl 1, .inl 2, .inl 3, .inl 4, .inl 5, .inl 6, .inl 7, .inl 8, .inl 9, .inl 10] rfl rfl cd_X11_within rfl st_X11_within ml_X1_58 rfl rfl ⟨(Nat.le_of_ble_eq_true rfl), (Nat.le_of_ble_eq_true rfl)⟩ rfl (Nat.le_of_ble_eq_true rfl) dX1_addOperand_24 ⟨(Nat.le_of_ble_eq_true rfl), (Nat.le_of_ble_eq_true rfl)⟩ (fun H locs hP hD hS => ?_)
  refine lv_if_eq (tgt := 71) hx hb dX1_addOperand_27 (by decide) (fun c_12 => ?_) (fun c_12 => ?_)
  · have hf := ift hf c_12
    refine lv_aload_n hx hb dX1_addOperand_71 rfl (lv_at hl 1 rfl) ?_
    refine lv_bipush (v := 6) hx hb dX1_addOperand_72 (by decide) ?_
    obtain ⟨⟨v_waiting_13, v_operands_14, v_openSigns_15, v_formula_stepCount_16, v_formula_steps_17, v_levels_18, v_firsts_19, v_lasts_20, v_formula_opens_21, v_formula_closes_22⟩, hf_23, hf⟩ := obind hf
    refine gcV (rest := []) (wn := [oX1 h h_operators h_operatorPlaces h_firsts h_lasts h_levels h_formula v_waiting_13 v_operands_14 v_openSigns_15 v_openParens, oX2 h_formula h_formula_symbols h_formula_opens h_formula_closes h_formula_steps v_formula_length_2 v_formula_stepCount_16, aI g h_formula_symbols 160 v_formula_symbols_3, aI g h_formula_opens 160 v_formula_opens_21, aI g h_formula_closes 160 v_formula_closes_22, aI g h_formula_steps 160 v_formula_steps_17, aI g h_operators 160 v_operators, aI g h_levels 160 v_levels_18, aI g h_firsts 160 v_firsts_19, aI g h_lasts 160 v_lasts_20, aI g h_operatorPlaces 160 v_operatorPlaces]) X hP hD hS hl (c_X1_applyDownTo l g h h_operators h_operatorPlaces h_firsts h_lasts h_levels h_formula v_waiting v_operands v_openSigns v_openParens v_operators h_formula_symbols h_formula_opens h_formula_closes h_formula_steps v_formula_length_2 v_formula_stepCount_7 v_formula_steps_8 v_levels v_firsts v_lasts v_formula_opens_4 v_formula_closes_5 v_operatorPlaces 6 v_waiting_13 v_operands_14 v_openSigns_15 v_formula_stepCount_16 v_formula_steps_17 v_levels_18 v_firsts_19 v_lasts_20 v_formula_opens_21 v_formula_closes_22 hf_23) [0, 6, 1, 5, 7, 8, 9, 3, 4, 10] rfl rfl rfl [.inr 0, .inr 2, .inl 2, .inr 7, .inr 8, .inr 3, .inr 1, .inr 4, .inr 5, .inr 6, .inr 9] rfl rfl cd_X1_applyDownTo rfl im_X1_applyDownTo se_X1_applyDownTo ml_X1_62 0 rfl rfl rfl rfl rfl ⟨(Nat.le_of_ble_eq_true rfl), (Nat.le_of_ble_eq_true rfl)⟩ rfl (Nat.le_of_ble_eq_true rfl) dX1_addOperand_74 ⟨(Nat.le_of_ble_eq_true rfl), (Nat.le_of_ble_eq_true rfl)⟩ (fun H locs hP hD hS => ?_)
    cases hf
    exact ret_v X hAe hP hD hS rfl dX1_addOperand_77
  · have hf := iff_ hf c_12
    refine lv_aload_n hx hb dX1_addOperand_30 rfl (lv_at hl 1 rfl) ?_
    refine gf_X1_18 X rfl hP 0 rfl rfl dX1_addOperand_31 ?_
    refine lv_aload_n hx hb dX1_addOperand_34 rfl (lv_at hl 1 rfl) ?_
    refine gf_X1_35 X rfl hP 0 rfl rfl dX1_addOperand_35 ?_
    refine lv_iload_n hx hb dX1_addOperand_38 rfl (lv_at hl 0 rfl) ?_
    obtain ⟨hi_24, hf⟩ := ifs hf
    refine va_iast (D := g.1) hx hb hG.1 hP hD hS 8 1 rfl rfl (ix_in hi_24) dX1_addOperand_39 (fun H locs hP hD hS => ?_)
    have hP : va_P g.1 vwCl [oX1 h h_operators h_operatorPlaces h_firsts h_lasts h_levels h_formula v_waiting v_operands v_openSigns v_openParens, oX2 h_formula h_formula_symbols h_formula_opens h_formula_closes h_formula_steps v_formula_length_2 v_formula_stepCount_7, aI g h_formula_symbols 160 v_formula_symbols_3, aI g h_formula_opens 160 v_formula_opens_4, aI g h_formula_closes 160 v_formula_closes_5, aI g h_formula_steps 160 v_formula_steps_8, aI g h_operators 160 v_operators, aI g h_levels 160 v_levels, aI g h_firsts 160 (upd v_firsts v_operands.toNatClampNeg r_1), aI g h_lasts 160 v_lasts, aI g h_operatorPlaces 160 v_operatorPlaces] H := hP
    have hD : va_D A [oX1 h h_operators h_operatorPlaces h_firsts h_lasts h_levels h_formula v_waiting v_operands v_openSigns v_openParens, oX2 h_formula h_formula_symbols h_formula_opens h_formula_closes h_formula_steps v_formula_length_2 v_formula_stepCount_7, aI g h_formula_symbols 160 v_formula_symbols_3, aI g h_formula_opens 160 v_formula_opens_4, aI g h_formula_closes 160 v_formula_closes_5, aI g h_formula_steps 160 v_formula_steps_8, aI g h_operators 160 v_operators, aI g h_levels 160 v_levels, aI g h_firsts 160 (upd v_firsts v_operands.toNatClampNeg r_1), aI g h_lasts 160 v_lasts, aI g h_operatorPlaces 160 v_operatorPlaces] := hD
    refine lv_aload_n hx hb dX1_addOperand_40 rfl (lv_at hl 1 rfl) ?_
    refine gf_X1_21 X rfl hP 0 rfl rfl dX1_addOperand_41 ?_
    refine lv_aload_n hx hb dX1_addOperand_44 rfl (lv_at hl 1 rfl) ?_
    refine gf_X1_35 X rfl hP 0 rfl rfl dX1_addOperand_45 ?_
    refine lv_iload_n hx hb dX1_addOperand_48 rfl (lv_at hl 0 rfl) ?_
    obtain ⟨hi_25, hf⟩ := ifs hf
    refine va_iast (D := g.1) hx hb hG.1 hP hD hS 9 1 rfl rfl (ix_in hi_25) dX1_addOperand_49 (fun H locs hP hD hS => ?_)
    have hP : va_P g.1 vwCl [oX1 h h_operators h_operatorPlaces h_firsts h_lasts h_levels h_formula v_waiting v_operands v_openSigns v_openParens, oX2 h_formula h_formula_symbols h_formula_opens h_formula_closes h_formula_steps v_formula_length_2 v_formula_stepCount_7, aI g h_formula_symbols 160 v_formula_symbols_3, aI g h_formula_opens 160 v_formula_opens_4, aI g h_formula_closes 160 v_formula_closes_5, aI g h_formula_steps 160 v_formula_steps_8, aI g h_operators 160 v_operators, aI g h_levels 160 v_levels, aI g h_firsts 160 (upd v_firsts v_operands.toNatClampNeg r_1), aI g h_lasts 160 (upd v_lasts v_operands.toNatClampNeg r_1), aI g h_operatorPlaces 160 v_operatorPlaces] H := hP
    have hD : va_D A [oX1 h h_operators h_operatorPlaces h_firsts h_lasts h_levels h_formula v_waiting v_operands v_openSigns v_openParens, oX2 h_formula h_formula_symbols h_formula_opens h_formula_closes h_formula_steps v_formula_length_2 v_formula_stepCount_7, aI g h_formula_symbols 160 v_formula_symbols_3, aI g h_formula_opens 160 v_formula_opens_4, aI g h_formula_closes 160 v_formula_closes_5, aI g h_formula_steps 160 v_formula_steps_8, aI g h_operators 160 v_operators, aI g h_levels 160 v_levels, aI g h_firsts 160 (upd v_firsts v_operands.toNatClampNeg r_1), aI g h_lasts 160 (upd v_lasts v_operands.toNatClampNeg r_1), aI g h_operatorPlaces 160 v_operatorPlaces] := hD
    refine lv_aload_n hx hb dX1_addOperand_50 rfl (lv_at hl 1 rfl) ?_
    refine gf_X1_24 X rfl hP 0 rfl rfl dX1_addOperand_51 ?_
    refine lv_aload_n hx hb dX1_addOperand_54 rfl (lv_at hl 1 rfl) ?_
    refine gf_X1_35 X rfl hP 0 rfl rfl dX1_addOperand_55 ?_
    refine lv_bipush (v := 6) hx hb dX1_addOperand_58 (by decide) ?_
    obtain ⟨hi_26, hf⟩ := ifs hf
    refine va_iast (D := g.1) hx hb hG.1 hP hD hS 7 1 rfl rfl (ix_in hi_26) dX1_addOperand_60 (fun H locs hP hD hS => ?_)
    have hP : va_P g.1 vwCl [oX1 h h_operators h_operatorPlaces h_firsts h_lasts h_levels h_formula v_waiting v_operands v_openSigns v_openParens, oX2 h_formula h_formula_symbols h_formula_opens h_formula_closes h_formula_steps v_formula_length_2 v_formula_stepCount_7, aI g h_formula_symbols 160 v_formula_symbols_3, aI g h_formula_opens 160 v_formula_opens_4, aI g h_formula_closes 160 v_formula_closes_5, aI g h_formula_steps 160 v_formula_steps_8, aI g h_operators 160 v_operators, aI g h_levels 160 (upd v_levels v_operands.toNatClampNeg 6), aI g h_firsts 160 (upd v_firsts v_operands.toNatClampNeg r_1), aI g h_lasts 160 (upd v_lasts v_operands.toNatClampNeg r_1), aI g h_operatorPlaces 160 v_operatorPlaces] H := hP
    have hD : va_D A [oX1 h h_operators h_operatorPlaces h_firsts h_lasts h_levels h_formula v_waiting v_operands v_openSigns v_openParens, oX2 h_formula h_formula_symbols h_formula_opens h_formula_closes h_formula_steps v_formula_length_2 v_formula_stepCount_7, aI g h_formula_symbols 160 v_formula_symbols_3, aI g h_formula_opens 160 v_formula_opens_4, aI g h_formula_closes 160 v_formula_closes_5, aI g h_formula_steps 160 v_formula_steps_8, aI g h_operators 160 v_operators, aI g h_levels 160 (upd v_levels v_operands.toNatClampNeg 6), aI g h_firsts 160 (upd v_firsts v_operands.toNatClampNeg r_1), aI g h_lasts 160 (upd v_lasts v_operands.toNatClampNeg r_1), aI g h_operatorPlaces 160 v_operatorPlaces] := hD
    refine lv_aload_n hx hb dX1_addOperand_61 rfl (lv_at hl 1 rfl) ?_
    refine lv_dup hx hb dX1_addOperand_62 rfl ?_
    refine gf_X1_35 X rfl hP 0 rfl rfl dX1_addOperand_63 ?_
    refine lv_iconst (v := 1) hx hb dX1_addOperand_66 (by decide) ?_
    refine lv_iadd hx hb dX1_addOperand_67 ?_
    refine pf_X1_35 X rfl hP hD hS 0 rfl (Nat.le_of_ble_eq_true rfl) dX1_addOperand_68 (fun H locs hP hD hS => ?_)
    have hP : va_P g.1 vwCl [oX1 h h_operators h_operatorPlaces h_firsts h_lasts h_levels h_formula v_waiting (v_operands + (1 : Int32)) v_openSigns v_openParens, oX2 h_formula h_formula_symbols h_formula_opens h_formula_closes h_formula_steps v_formula_length_2 v_formula_stepCount_7, aI g h_formula_symbols 160 v_formula_symbols_3, aI g h_formula_opens 160 v_formula_opens_4, aI g h_formula_closes 160 v_formula_closes_5, aI g h_formula_steps 160 v_formula_steps_8, aI g h_operators 160 v_operators, aI g h_levels 160 (upd v_levels v_operands.toNatClampNeg 6), aI g h_firsts 160 (upd v_firsts v_operands.toNatClampNeg r_1), aI g h_lasts 160 (upd v_lasts v_operands.toNatClampNeg r_1), aI g h_operatorPlaces 160 v_operatorPlaces] H := hP
    have hD : va_D A [oX1 h h_operators h_operatorPlaces h_firsts h_lasts h_levels h_formula v_waiting (v_operands + (1 : Int32)) v_openSigns v_openParens, oX2 h_formula h_formula_symbols h_formula_opens h_formula_closes h_formula_steps v_formula_length_2 v_formula_stepCount_7, aI g h_formula_symbols 160 v_formula_symbols_3, aI g h_formula_opens 160 v_formula_opens_4, aI g h_formula_closes 160 v_formula_closes_5, aI g h_formula_steps 160 v_formula_steps_8, aI g h_operators 160 v_operators, aI g h_levels 160 (upd v_levels v_operands.toNatClampNeg 6), aI g h_firsts 160 (upd v_firsts v_operands.toNatClampNeg r_1), aI g h_lasts 160 (upd v_lasts v_operands.toNatClampNeg r_1), aI g h_operatorPlaces 160 v_operatorPlaces] := hD
    refine lv_aload_n hx hb dX1_addOperand_71 rfl (lv_at hl 1 rfl) ?_
    refine lv_bipush (v := 6) hx hb dX1_addOperand_72 (by decide) ?_
    obtain ⟨⟨v_waiting_27, v_operands_28, v_openSigns_29, v_formula_stepCount_30, v_formula_steps_31, v_levels_32, v_firsts_33, v_lasts_34, v_formula_opens_35, v_formula_closes_36⟩, hf_37, hf⟩ := obind hf
    refine gcV (rest := []) (wn := [oX1 h h_operators h_operatorPlaces h_firsts h_lasts h_levels h_formula v_waiting_27 v_operands_28 v_openSigns_29 v_openParens, oX2 h_formula h_formula_symbols h_formula_opens h_formula_closes h_formula_steps v_formula_length_2 v_formula_stepCount_30, aI g h_formula_symbols 160 v_formula_symbols_3, aI g h_formula_opens 160 v_formula_opens_35, aI g h_formula_closes 160 v_formula_closes_36, aI g h_formula_steps 160 v_formula_steps_31, aI g h_operators 160 v_operators, aI g h_levels 160 v_levels_32, aI g h_firsts 160 v_firsts_33, aI g h_lasts 160 v_lasts_34, aI g h_operatorPlaces 160 v_operatorPlaces]) X hP hD hS hl (c_X1_applyDownTo l g h h_operators h_operatorPlaces h_firsts h_lasts h_levels h_formula v_waiting (v_operands + (1 : Int32)) v_openSigns v_openParens v_operators h_formula_symbols h_formula_opens h_formula_closes h_formula_steps v_formula_length_2 v_formula_stepCount_7 v_formula_steps_8 (upd v_levels v_operands.toNatClampNeg 6) (upd v_firsts v_operands.toNatClampNeg r_1) (upd v_lasts v_operands.toNatClampNeg r_1) v_formula_opens_4 v_formula_closes_5 v_operatorPlaces 6 v_waiting_27 v_operands_28 v_openSigns_29 v_formula_stepCount_30 v_formula_steps_31 v_levels_32 v_firsts_33 v_lasts_34 v_formula_opens_35 v_formula_closes_36 hf_37) [0, 6, 1, 5, 7, 8, 9, 3, 4, 10] rfl rfl rfl [.inr 0, .inr 2, .inl 2, .inr 7, .inr 8, .inr 3, .inr 1, .inr 4, .inr 5, .inr 6, .inr 9] rfl rfl cd_X1_applyDownTo rfl im_X1_applyDownTo se_X1_applyDownTo ml_X1_62 0 rfl rfl rfl rfl rfl ⟨(Nat.le_of_ble_eq_true rfl), (Nat.le_of_ble_eq_true rfl)⟩ rfl (Nat.le_of_ble_eq_true rfl) dX1_addOperand_74 ⟨(Nat.le_of_ble_eq_true rfl), (Nat.le_of_ble_eq_true rfl)⟩ (fun H locs hP hD hS => ?_)
    cases hf
    exact ret_v X hAe hP hD hS rfl dX1_addOperand_77
def f_X1_addOperator (v_waiting : Int32) (v_operands : Int32) (v_openSigns : Int32) (v_operators : Nat → Int32) (v_formula_length : Int32) (v_formula_stepCount : Int32) (v_formula_steps : Nat → Int32) (v_levels : Nat → Int32) (v_firsts : Nat → Int32) (v_lasts : Nat → Int32) (v_formula_opens : Nat → Int32) (v_formula_closes : Nat → Int32) (v_operatorPlaces : Nat → Int32) (v_formula_symbols : Nat → Int32) (a1 : Int32) : Option (Int32 × Int32 × Int32 × (Nat → Int32) × Int32 × Int32 × (Nat → Int32) × (Nat → Int32) × (Nat → Int32) × (Nat → Int32) × (Nat → Int32) × (Nat → Int32) × (Nat → Int32) × (Nat → Int32)) :=
  jn (κ := Int32 → Option (Int32 × Int32 × Int32 × (Nat → Int32) × Int32 × Int32 × (Nat → Int32) × (Nat → Int32) × (Nat → Int32) × (Nat → Int32) × (Nat → Int32) × (Nat → Int32) × (Nat → Int32) × (Nat → Int32))) (fun (s1_15 : Int32) =>
  (f_X1_applyDownTo v_waiting v_operands v_openSigns v_operators v_formula_stepCount v_formula_steps v_levels v_firsts v_lasts v_formula_opens v_formula_closes v_operatorPlaces s1_15).bind fun (v_waiting_1, v_operands_2, v_openSigns_3, v_formula_stepCount_4, v_formula_steps_5, v_levels_6, v_firsts_7, v_lasts_8, v_formula_opens_9, v_formula_closes_10) =>
  (f_X2_addSymbol v_formula_length v_formula_symbols v_formula_opens_9 v_formula_closes_10 a1).bind fun (r_12, v_formula_length_13, v_formula_symbols_14, v_formula_opens_15, v_formula_closes_16) =>
  (f_X1_pushOperator v_waiting_1 v_operators v_operatorPlaces a1 r_12).bind fun (v_waiting_18, v_operators_19, v_operatorPlaces_20) =>
  some (v_waiting_18, v_operands_2, v_openSigns_3, v_operators_19, v_formula_length_13, v_formula_stepCount_4, v_formula_steps_5, v_levels_6, v_firsts_7, v_lasts_8, v_formula_opens_15, v_formula_closes_16, v_operatorPlaces_20, v_formula_symbols_14)) fun j_15 =>
  if a1 = 62 then
  j_15 3
  else
  ((f_X11_levelOf a1).bind fun r_23 =>
  j_15 r_23)
set_option maxHeartbeats 4000000 in
set_option maxRecDepth 100000 in
theorem c_X1_addOperator (l : Launch) (g : GT) (h : Nat) (h_operators : Nat) (h_operatorPlaces : Nat) (h_firsts : Nat) (h_lasts : Nat) (h_levels : Nat) (h_formula : Nat) (v_waiting : Int32) (v_operands : Int32) (v_openSigns : Int32) (v_openParens : Int32) (v_operators : Nat → Int32) (h_formula_symbols : Nat) (h_formula_opens : Nat) (h_formula_closes : Nat) (h_formula_steps : Nat) (v_formula_length : Int32) (v_formula_stepCount : Int32) (v_formula_steps : Nat → Int32) (v_levels : Nat → Int32) (v_firsts : Nat → Int32) (v_lasts : Nat → Int32) (v_formula_opens : Nat → Int32) (v_formula_closes : Nat → Int32) (v_operatorPlaces : Nat → Int32) (v_formula_symbols : Nat → Int32) (a1 : Int32) (u_waiting : Int32) (u_operands : Int32) (u_openSigns : Int32) (u_operators : Nat → Int32) (u_formula_length : Int32) (u_formula_stepCount : Int32) (u_formula_steps : Nat → Int32) (u_levels : Nat → Int32) (u_firsts : Nat → Int32) (u_lasts : Nat → Int32) (u_formula_opens : Nat → Int32) (u_formula_closes : Nat → Int32) (u_operatorPlaces : Nat → Int32) (u_formula_symbols : Nat → Int32) (hf : f_X1_addOperator v_waiting v_operands v_openSigns v_operators v_formula_length v_formula_stepCount v_formula_steps v_levels v_firsts v_lasts v_formula_opens v_formula_closes v_operatorPlaces v_formula_symbols a1 = some (u_waiting, u_operands, u_openSigns, u_operators, u_formula_length, u_formula_stepCount, u_formula_steps, u_levels, u_firsts, u_lasts, u_formula_opens, u_formula_closes, u_operatorPlaces, u_formula_symbols)) : Con l g yX1_addOperator cX1_addOperator 2 none ({ frames := 4, cells := 0, slots := 0, locals := 91 }) [.ref h, .int a1] [oX1 h h_operators h_operatorPlaces h_firsts h_lasts h_levels h_formula v_waiting v_operands v_openSigns v_openParens, aI g h_operators 160 v_operators, oX2 h_formula h_formula_symbols h_formula_opens h_formula_closes h_formula_steps v_formula_length v_formula_stepCount, aI g h_formula_steps 160 v_formula_steps, aI g h_levels 160 v_levels, aI g h_firsts 160 v_firsts, aI g h_lasts 160 v_lasts, aI g h_formula_opens 160 v_formula_opens, aI g h_formula_closes 160 v_formula_closes, aI g h_operatorPlaces 160 v_operatorPlaces, aI g h_formula_symbols 160 v_formula_symbols] none [oX1 h h_operators h_operatorPlaces h_firsts h_lasts h_levels h_formula u_waiting u_operands u_openSigns v_openParens, aI g h_operators 160 u_operators, oX2 h_formula h_formula_symbols h_formula_opens h_formula_closes h_formula_steps u_formula_length u_formula_stepCount, aI g h_formula_steps 160 u_formula_steps, aI g h_levels 160 u_levels, aI g h_firsts 160 u_firsts, aI g h_lasts 160 u_lasts, aI g h_formula_opens 160 u_formula_opens, aI g h_formula_closes 160 u_formula_closes, aI g h_operatorPlaces 160 u_operatorPlaces, aI g h_formula_symbols 160 u_formula_symbols] := by
  refine Con.of (by decide) (Nat.le_of_ble_eq_true rfl) ?_
  intro p e s m below meth c A ls hAe X hP hD hS hl
  obtain ⟨hx, hb, hml, hr, hown, hts, hlk, hnm, hA, hG, hZ⟩ := id X
  have hown : s.vm.findClass RX1 = some m.cls := hown
  have hl : lv_has ls 2 [(0, .ref h), (1, .int a1)] := hl
  unfold f_X1_addOperator at hf
  refine lv_aload_n hx hb dX1_addOperator_0 rfl (lv_at hl 0 rfl) ?_
  refine lv_iload_n hx hb dX1_addOperator_1 rfl (lv_at hl 1 rfl) ?_
  refine lv_bipush (v := 62) hx hb dX1_addOperator_2 (by decide) ?_
  refine jn_elim hf (fun j_15 hj_15 hf => ?_)
  have J_15 : ∀ (s1_15 : Int32) (H : Heap) (locs : List Loc) (ls : Array Slot), va_P g.1 vwCl [oX1 h h_operators h_operatorPlaces h_firsts h_lasts h_levels h_formula v_waiting v_operands v_openSigns v_openParens, aI g h_operators 160 v_operators, oX2 h_formula h_formula_symbols h_formula_opens h_formula_closes h_formula_steps v_formula_length v_formula_stepCount, aI g h_formula_steps 160 v_formula_steps, aI g h_levels 160 v_levels, aI g h_firsts 160 v_firsts, aI g h_lasts 160 v_lasts, aI g h_formula_opens 160 v_formula_opens, aI g h_formula_closes 160 v_formula_closes, aI g h_operatorPlaces 160 v_operatorPlaces, aI g h_formula_symbols 160 v_formula_symbols] H → va_D A [oX1 h h_operators h_operatorPlaces h_firsts h_lasts h_levels h_formula v_waiting v_operands v_openSigns v_openParens, aI g h_operators 160 v_operators, oX2 h_formula h_formula_symbols h_formula_opens h_formula_closes h_formula_steps v_formula_length v_formula_stepCount, aI g h_formula_steps 160 v_formula_steps, aI g h_levels 160 v_levels, aI g h_firsts 160 v_firsts, aI g h_lasts 160 v_lasts, aI g h_formula_opens 160 v_formula_opens, aI g h_formula_closes 160 v_formula_closes, aI g h_operatorPlaces 160 v_operatorPlaces, aI g h_formula_symbols 160 v_formula_symbols] → va_S A s.heap H locs → lv_has ls 2 [(0, .ref h), (1, .int a1)] → j_15 s1_15 = some (u_waiting, u_operands, u_openSigns, u_operators, u_formula_length, u_formula_stepCount, u_formula_steps, u_levels, u_firsts, u_lasts, u_formula_opens, u_formula_closes, u_operatorPlaces, u_formula_symbols) → W p l e ({ frames := 4, cells := 0, slots := 0, locals := 91 }) s m [.ref h, .int a1].toArray below meth c H locs 0 0 (MQ below (fun _ => QW g [oX1 h h_operators h_operatorPlaces h_firsts h_lasts h_levels h_formula v_waiting v_operands v_openSigns v_openParens, aI g h_operators 160 v_operators, oX2 h_formula h_formula_symbols h_formula_opens h_formula_closes h_formula_steps v_formula_length v_formula_stepCount, aI g h_formula_steps 160 v_formula_steps, aI g h_levels 160 v_levels, aI g h_firsts 160 v_firsts, aI g h_lasts 160 v_lasts, aI g h_formula_opens 160 v_formula_opens, aI g h_formula_closes 160 v_formula_closes, aI g h_operatorPlaces 160 v_operatorPlaces, aI g h_formula_symbols 160 v_formula_symbols] s.heap.size none [oX1 h h_operators h_operatorPlaces h_firsts h_lasts h_levels h_formula u_waiting u_operands u_openSigns v_openParens, aI g h_operators 160 u_operators, oX2 h_formula h_formula_symbols h_formula_opens h_formula_closes h_formula_steps u_formula_length u_formula_stepCount, aI g h_formula_steps 160 u_formula_steps, aI g h_levels 160 u_levels, aI g h_firsts 160 u_firsts, aI g h_lasts 160 u_lasts, aI g h_formula_opens 160 u_formula_opens, aI g h_formula_closes 160 u_formula_closes, aI g h_operatorPlaces 160 u_operatorPlaces, aI g h_formula_symbols 160 u_formula_symbols]) [.ref h, .int a1].toArray s 0 0 (va_A [oX1 h h_operators h_operatorPlaces h_firsts h_lasts h_levels h_formula v_waiting v_operands v_openSigns v_openParens, aI g h_operators 160 v_operators, oX2 h_formula h_formula_symbols h_formula_opens h_formula_closes h_formula_steps v_formula_length v_formula_stepCount, aI g h_formula_steps 160 v_formula_steps, aI g h_levels 160 v_levels, aI g h_firsts 160 v_firsts, aI g h_lasts 160 v_lasts, aI g h_formula_opens 160 v_formula_opens, aI g h_formula_closes 160 v_formula_closes, aI g h_operatorPlaces 160 v_operatorPlaces, aI g h_formula_symbols 160 v_formula_symbols] s.heap.size)) (F0 m 15 ls [.int s1_15, .ref h]) := by
    intro s1_15 H locs ls hP hD hS hl hf
    rw [hj_15] at hf
    obtain ⟨⟨v_waiting_1, v_operands_2, v_openSigns_3, v_formula_stepCount_4, v_formula_steps_5, v_levels_6, v_firsts_7, v_lasts_8, v_formula_opens_9, v_formula_closes_10⟩, hf_11, hf⟩ := obind hf
    refine gcV (rest := []) (wn := [oX1 h h_operators h_operatorPlaces h_firsts h_lasts h_levels h_formula v_waiting_1 v_operands_2 v_openSigns_3 v_openParens, aI g h_operators 160 v_operators, oX2 h_formula h_formula_symbols h_formula_opens h_formula_closes h_formula_steps v_formula_length v_formula_stepCount_4, aI g h_formula_steps 160 v_formula_steps_5, aI g h_levels 160 v_levels_6, aI g h_firsts 160 v_firsts_7, aI g h_lasts 160 v_lasts_8, aI g h_formula_opens 160 v_formula_opens_9, aI g h_formula_closes 160 v_formula_closes_10, aI g h_operatorPlaces 160 v_operatorPlaces, aI g h_formula_symbols 160 v_formula_symbols]) X hP hD hS hl (c_X1_applyDownTo l g h h_operators h_operatorPlaces h_firsts h_lasts h_levels h_formula v_waiting v_operands v_openSigns v_openParens v_operators h_formula_symbols h_formula_opens h_formula_closes h_formula_steps v_formula_length v_formula_stepCount v_formula_steps v_levels v_firsts v_lasts v_formula_opens v_formula_closes v_operatorPlaces s1_15 v_waiting_1 v_operands_2 v_openSigns_3 v_formula_stepCount_4 v_formula_steps_5 v_levels_6 v_firsts_7 v_lasts_8 v_formula_opens_9 v_formula_closes_10 hf_11) [0, 1, 2, 3, 4, 5, 6, 7, 8, 9] rfl rfl rfl [.inr 0, .inr 1, .inr 2, .inr 3, .inr 4, .inr 5, .inr 6, .inr 7, .inr 8, .inr 9, .inl 10] rfl rfl cd_X1_applyDownTo rfl im_X1_applyDownTo se_X1_applyDownTo ml_X1_62 0 rfl rfl rfl rfl rfl ⟨(Nat.le_of_ble_eq_true rfl), (Nat.le_of_ble_eq_true rfl)⟩ rfl (Nat.le_of_ble_eq_true rfl) dX1_addOperator_15 ⟨(Nat.le_of_ble_eq_true rfl), (Nat.le_of_ble_eq_true rfl)⟩ (fun H locs hP hD hS => ?_)
    refine lv_aload_n hx hb dX1_addOperator_18 rfl (lv_at hl 0 rfl) ?_
    refine lv_iload_n hx hb dX1_addOperator_19 rfl (lv_at hl 1 rfl) ?_
    refine lv_aload_n hx hb dX1_addOperator_20 rfl (lv_at hl 0 rfl) ?_
    refine gf_X1_27 X rfl hP 0 rfl rfl dX1_addOperator_21 ?_
    refine lv_iload_n hx hb dX1_addOperator_24 rfl (lv_at hl 1 rfl) ?_
    obtain ⟨⟨r_12, v_formula_length_13, v_formula_symbols_14, v_formula_opens_15, v_formula_closes_16⟩, hf_17, hf⟩ := obind hf
    refine gcV (rest := [.int a1, .ref h]) (wn := [oX1 h h_operators h_operatorPlaces h_firsts h_lasts h_levels h_formula v_waiting_1 v_operands_2 v_openSigns_3 v_openParens, aI g h_operators 160 v_operators, oX2 h_formula h_formula_symbols h_formula_opens h_formula_closes h_formula_steps v_formula_length_13 v_formula_stepCount_4, aI g h_formula_steps 160 v_formula_steps_5, aI g h_levels 160 v_levels_6, aI g h_firsts 160 v_firsts_7, aI g h_lasts 160 v_lasts_8, aI g h_formula_opens 160 v_formula_opens_15, aI g h_formula_closes 160 v_formula_closes_16, aI g h_operatorPlaces 160 v_operatorPlaces, aI g h_formula_symbols 160 v_formula_symbols_14]) X hP hD hS hl (c_X2_addSymbol l g h_formula h_formula_symbols h_formula_opens h_formula_closes h_formula_steps v_formula_length v_formula_stepCount_4 v_formula_symbols v_formula_opens_9 v_formula_closes_10 a1 r_12 v_formula_length_13 v_formula_symbols_14 v_formula_opens_15 v_formula_closes_16 hf_17) [2, 10, 7, 8] rfl rfl rfl [.inl 0, .inl 1, .inr 0, .inl 3, .inl 4, .inl 5, .inl 6, .inr 2, .inr 3, .inl 9, .inr 1] rfl rfl cd_X2_addSymbol rfl im_X2_addSymbol se_X2_addSymbol ml_X1_48 2 rfl rfl rfl rfl rfl ⟨(Nat.le_of_ble_eq_true rfl), (Nat.le_of_ble_eq_true rfl)⟩ rfl (Nat.le_of_ble_eq_true rfl) dX1_addOperator_25 ⟨(Nat.le_of_ble_eq_true rfl), (Nat.le_of_ble_eq_true rfl)⟩ (fun H locs hP hD hS => ?_)
    obtain ⟨⟨v_waiting_18, v_operators_19, v_operatorPlaces_20⟩, hf_21, hf⟩ := obind hf
    refine gcV (rest := []) (wn := [oX1 h h_operators h_operatorPlaces h_firsts h_lasts h_levels h_formula v_waiting_18 v_operands_2 v_openSigns_3 v_openParens, aI g h_operators 160 v_operators_19, oX2 h_formula h_formula_symbols h_formula_opens h_formula_closes h_formula_steps v_formula_length_13 v_formula_stepCount_4, aI g h_formula_steps 160 v_formula_steps_5, aI g h_levels 160 v_levels_6, aI g h_firsts 160 v_firsts_7, aI g h_lasts 160 v_lasts_8, aI g h_formula_opens 160 v_formula_opens_15, aI g h_formula_closes 160 v_formula_closes_16, aI g h_operatorPlaces 160 v_operatorPlaces_20, aI g h_formula_symbols 160 v_formula_symbols_14]) X hP hD hS hl (c_X1_pushOperator l g h h_operators h_operatorPlaces h_firsts h_lasts h_levels h_formula v_waiting_1 v_operands_2 v_openSigns_3 v_openParens v_operators v_operatorPlaces a1 r_12 v_waiting_18 v_operators_19 v_operatorPlaces_20 hf_21) [0, 1, 9] rfl rfl rfl [.inr 0, .inr 1, .inl 2, .inl 3, .inl 4, .inl 5, .inl 6, .inl 7, .inl 8, .inr 2, .inl 10] rfl rfl cd_X1_pushOperator rfl im_X1_pushOperator se_X1_pushOperator ml_X1_44 0 rfl rfl rfl rfl rfl ⟨(Nat.le_of_ble_eq_true rfl), (Nat.le_of_ble_eq_true rfl)⟩ rfl (Nat.le_of_ble_eq_true rfl) dX1_addOperator_28 ⟨(Nat.le_of_ble_eq_true rfl), (Nat.le_of_ble_eq_true rfl)⟩ (fun H locs hP hD hS => ?_)
    cases hf
    exact ret_v X hAe hP hD hS rfl dX1_addOperator_31
  refine lv_icmp_ne (tgt := 11) hx hb dX1_addOperator_4 (by decide) (fun c_22 => ?_) (fun c_22 => ?_)
  · have hf := iff_ hf c_22
    refine lv_iload_n hx hb dX1_addOperator_11 rfl (lv_at hl 1 rfl) ?_
    obtain ⟨r_23, hf_24, hf⟩ := obind hf
    refine gcSN (rest := [.ref h]) (wn := [oX1 h h_operators h_operatorPlaces h_firsts h_lasts h_levels h_formula v_waiting v_operands v_openSigns v_openParens, aI g h_operators 160 v_operators, oX2 h_formula h_formula_symbols h_formula_opens h_formula_closes h_formula_steps v_formula_length v_formula_stepCount, aI g h_formula_steps 160 v_formula_steps, aI g h_levels 160 v_levels, aI g h_firsts 160 v_firsts, aI g h_lasts 160 v_lasts, aI g h_formula_opens 160 v_formula_opens, aI g h_formula_closes 160 v_formula_closes, aI g h_operatorPlaces 160 v_operatorPlaces, aI g h_formula_symbols 160 v_formula_symbols]) X hP hD hS hl (c_X11_levelOf l g a1 r_23 hf_24) [] rfl rfl rfl [.inl 0, .inl 1, .inl 2, .inl 3, .inl 4, .inl 5, .inl 6, .inl 7, .inl 8, .inl 9, .inl 10] rfl rfl cd_X11_levelOf rfl st_X11_levelOf ml_X1_65 rfl rfl ⟨(Nat.le_of_ble_eq_true rfl), (Nat.le_of_ble_eq_true rfl)⟩ rfl (Nat.le_of_ble_eq_true rfl) dX1_addOperator_12 ⟨(Nat.le_of_ble_eq_true rfl), (Nat.le_of_ble_eq_true rfl)⟩ (fun H locs hP hD hS => ?_)
    exact J_15 r_23 _ _ ls hP hD hS (lv_sub hl [0, 1] rfl) hf
  · have hf := ift hf c_22
    refine lv_iconst (v := 3) hx hb dX1_addOperator_7 (by decide) ?_
    refine lv_goto (tgt := 15) hx hb dX1_addOperator_8 (by decide) ?_
    exact J_15 3 _ _ ls hP hD hS (lv_sub hl [0, 1] rfl) hf
def f_X1_closeParen (v_waiting : Int32) (v_operands : Int32) (v_openSigns : Int32) (v_openParens : Int32) (v_operators : Nat → Int32) (v_formula_stepCount : Int32) (v_formula_steps : Nat → Int32) (v_levels : Nat → Int32) (v_firsts : Nat → Int32) (v_lasts : Nat → Int32) (v_formula_opens : Nat → Int32) (v_formula_closes : Nat → Int32) (v_operatorPlaces : Nat → Int32) : Option (Bool × Int32 × Int32 × Int32 × Int32 × Int32 × (Nat → Int32) × (Nat → Int32) × (Nat → Int32) × (Nat → Int32) × (Nat → Int32) × (Nat → Int32)) :=
  if v_openParens = 0 then
  some (false, v_waiting, v_operands, v_openSigns, v_openParens, v_formula_stepCount, v_formula_steps, v_levels, v_firsts, v_lasts, v_formula_opens, v_formula_closes)
  else
  ((f_X1_applyDownTo v_waiting v_operands v_openSigns v_operators v_formula_stepCount v_formula_steps v_levels v_firsts v_lasts v_formula_opens v_formula_closes v_operatorPlaces 1).bind fun (v_waiting_2, v_operands_3, v_openSigns_4, v_formula_stepCount_5, v_formula_steps_6, v_levels_7, v_firsts_8, v_lasts_9, v_formula_opens_10, v_formula_closes_11) =>
  (f_X1_applyDownTo (v_waiting_2 - (1 : Int32)) v_operands_3 (v_openSigns_4 - (1 : Int32)) v_operators v_formula_stepCount_5 v_formula_steps_6 v_levels_7 v_firsts_8 v_lasts_9 v_formula_opens_10 v_formula_closes_11 v_operatorPlaces 6).bind fun (v_waiting_13, v_operands_14, v_openSigns_15, v_formula_stepCount_16, v_formula_steps_17, v_levels_18, v_firsts_19, v_lasts_20, v_formula_opens_21, v_formula_closes_22) =>
  some (true, v_waiting_13, v_operands_14, v_openSigns_15, v_openParens - (1 : Int32), v_formula_stepCount_16, v_formula_steps_17, v_levels_18, v_firsts_19, v_lasts_20, v_formula_opens_21, v_formula_closes_22))
set_option maxHeartbeats 4000000 in
set_option maxRecDepth 100000 in
theorem c_X1_closeParen (l : Launch) (g : GT) (h : Nat) (h_operators : Nat) (h_operatorPlaces : Nat) (h_firsts : Nat) (h_lasts : Nat) (h_levels : Nat) (h_formula : Nat) (v_waiting : Int32) (v_operands : Int32) (v_openSigns : Int32) (v_openParens : Int32) (v_operators : Nat → Int32) (h_formula_symbols : Nat) (h_formula_opens : Nat) (h_formula_closes : Nat) (h_formula_steps : Nat) (v_formula_length : Int32) (v_formula_stepCount : Int32) (v_formula_steps : Nat → Int32) (v_levels : Nat → Int32) (v_firsts : Nat → Int32) (v_lasts : Nat → Int32) (v_formula_opens : Nat → Int32) (v_formula_closes : Nat → Int32) (v_operatorPlaces : Nat → Int32) (r_ : Bool) (u_waiting : Int32) (u_operands : Int32) (u_openSigns : Int32) (u_openParens : Int32) (u_formula_stepCount : Int32) (u_formula_steps : Nat → Int32) (u_levels : Nat → Int32) (u_firsts : Nat → Int32) (u_lasts : Nat → Int32) (u_formula_opens : Nat → Int32) (u_formula_closes : Nat → Int32) (hf : f_X1_closeParen v_waiting v_operands v_openSigns v_openParens v_operators v_formula_stepCount v_formula_steps v_levels v_firsts v_lasts v_formula_opens v_formula_closes v_operatorPlaces = some (r_, u_waiting, u_operands, u_openSigns, u_openParens, u_formula_stepCount, u_formula_steps, u_levels, u_firsts, u_lasts, u_formula_opens, u_formula_closes)) : Con l g yX1_closeParen cX1_closeParen 1 (some .boolean) ({ frames := 4, cells := 0, slots := 0, locals := 91 }) [.ref h] [oX1 h h_operators h_operatorPlaces h_firsts h_lasts h_levels h_formula v_waiting v_operands v_openSigns v_openParens, aI g h_operators 160 v_operators, oX2 h_formula h_formula_symbols h_formula_opens h_formula_closes h_formula_steps v_formula_length v_formula_stepCount, aI g h_formula_steps 160 v_formula_steps, aI g h_levels 160 v_levels, aI g h_firsts 160 v_firsts, aI g h_lasts 160 v_lasts, aI g h_formula_opens 160 v_formula_opens, aI g h_formula_closes 160 v_formula_closes, aI g h_operatorPlaces 160 v_operatorPlaces] (some (.int (b2i r_))) [oX1 h h_operators h_operatorPlaces h_firsts h_lasts h_levels h_formula u_waiting u_operands u_openSigns u_openParens, aI g h_operators 160 v_operators, oX2 h_formula h_formula_symbols h_formula_opens h_formula_closes h_formula_steps v_formula_length u_formula_stepCount, aI g h_formula_steps 160 u_formula_steps, aI g h_levels 160 u_levels, aI g h_firsts 160 u_firsts, aI g h_lasts 160 u_lasts, aI g h_formula_opens 160 u_formula_opens, aI g h_formula_closes 160 u_formula_closes, aI g h_operatorPlaces 160 v_operatorPlaces] := by
  refine Con.of (by decide) (Nat.le_of_ble_eq_true rfl) ?_
  intro p e s m below meth c A ls hAe X hP hD hS hl
  obtain ⟨hx, hb, hml, hr, hown, hts, hlk, hnm, hA, hG, hZ⟩ := id X
  have hown : s.vm.findClass RX1 = some m.cls := hown
  have hl : lv_has ls 1 [(0, .ref h)] := hl
  unfold f_X1_closeParen at hf
  refine lv_aload_n hx hb dX1_closeParen_0 rfl (lv_at hl 0 rfl) ?_
  refine gf_X1_41 X rfl hP 0 rfl rfl dX1_closeParen_1 ?_
  refine lv_if_ne (tgt := 9) hx hb dX1_closeParen_4 (by decide) (fun c_1 => ?_) (fun c_1 => ?_)
  · have hf := iff_ hf c_1
    refine lv_aload_n hx hb dX1_closeParen_9 rfl (lv_at hl 0 rfl) ?_
    refine lv_iconst (v := 1) hx hb dX1_closeParen_10 (by decide) ?_
    obtain ⟨⟨v_waiting_2, v_operands_3, v_openSigns_4, v_formula_stepCount_5, v_formula_steps_6, v_levels_7, v_firsts_8, v_lasts_9, v_formula_opens_10, v_formula_closes_11⟩, hf_12, hf⟩ := obind hf
    refine gcV (rest := []) (wn := [oX1 h h_operators h_operatorPlaces h_firsts h_lasts h_levels h_formula v_waiting_2 v_operands_3 v_openSigns_4 v_openParens, aI g h_operators 160 v_operators, oX2 h_formula h_formula_symbols h_formula_opens h_formula_closes h_formula_steps v_formula_length v_formula_stepCount_5, aI g h_formula_steps 160 v_formula_steps_6, aI g h_levels 160 v_levels_7, aI g h_firsts 160 v_firsts_8, aI g h_lasts 160 v_lasts_9, aI g h_formula_opens 160 v_formula_opens_10, aI g h_formula_closes 160 v_formula_closes_11, aI g h_operatorPlaces 160 v_operatorPlaces]) X hP hD hS hl (c_X1_applyDownTo l g h h_operators h_operatorPlaces h_firsts h_lasts h_levels h_formula v_waiting v_operands v_openSigns v_openParens v_operators h_formula_symbols h_formula_opens h_formula_closes h_formula_steps v_formula_length v_formula_stepCount v_formula_steps v_levels v_firsts v_lasts v_formula_opens v_formula_closes v_operatorPlaces 1 v_waiting_2 v_operands_3 v_openSigns_4 v_formula_stepCount_5 v_formula_steps_6 v_levels_7 v_firsts_8 v_lasts_9 v_formula_opens_10 v_formula_closes_11 hf_12) [0, 1, 2, 3, 4, 5, 6, 7, 8, 9] rfl rfl rfl [.inr 0, .inr 1, .inr 2, .inr 3, .inr 4, .inr 5, .inr 6, .inr 7, .inr 8, .inr 9] rfl rfl cd_X1_applyDownTo rfl im_X1_applyDownTo se_X1_applyDownTo ml_X1_62 0 rfl rfl rfl rfl rfl ⟨(Nat.le_of_ble_eq_true rfl), (Nat.le_of_ble_eq_true rfl)⟩ rfl (Nat.le_of_ble_eq_true rfl) dX1_closeParen_11 ⟨(Nat.le_of_ble_eq_true rfl), (Nat.le_of_ble_eq_true rfl)⟩ (fun H locs hP hD hS => ?_)
    refine lv_aload_n hx hb dX1_closeParen_14 rfl (lv_at hl 0 rfl) ?_
    refine lv_dup hx hb dX1_closeParen_15 rfl ?_
    refine gf_X1_31 X rfl hP 0 rfl rfl dX1_closeParen_16 ?_
    refine lv_iconst (v := 1) hx hb dX1_closeParen_19 (by decide) ?_
    refine lv_isub hx hb dX1_closeParen_20 ?_
    refine pf_X1_31 X rfl hP hD hS 0 rfl (Nat.le_of_ble_eq_true rfl) dX1_closeParen_21 (fun H locs hP hD hS => ?_)
    have hP : va_P g.1 vwCl [oX1 h h_operators h_operatorPlaces h_firsts h_lasts h_levels h_formula (v_waiting_2 - (1 : Int32)) v_operands_3 v_openSigns_4 v_openParens, aI g h_operators 160 v_operators, oX2 h_formula h_formula_symbols h_formula_opens h_formula_closes h_formula_steps v_formula_length v_formula_stepCount_5, aI g h_formula_steps 160 v_formula_steps_6, aI g h_levels 160 v_levels_7, aI g h_firsts 160 v_firsts_8, aI g h_lasts 160 v_lasts_9, aI g h_formula_opens 160 v_formula_opens_10, aI g h_formula_closes 160 v_formula_closes_11, aI g h_operatorPlaces 160 v_operatorPlaces] H := hP
    have hD : va_D A [oX1 h h_operators h_operatorPlaces h_firsts h_lasts h_levels h_formula (v_waiting_2 - (1 : Int32)) v_operands_3 v_openSigns_4 v_openParens, aI g h_operators 160 v_operators, oX2 h_formula h_formula_symbols h_formula_opens h_formula_closes h_formula_steps v_formula_length v_formula_stepCount_5, aI g h_formula_steps 160 v_formula_steps_6, aI g h_levels 160 v_levels_7, aI g h_firsts 160 v_firsts_8, aI g h_lasts 160 v_lasts_9, aI g h_formula_opens 160 v_formula_opens_10, aI g h_formula_closes 160 v_formula_closes_11, aI g h_operatorPlaces 160 v_operatorPlaces] := hD
    refine lv_aload_n hx hb dX1_closeParen_24 rfl (lv_at hl 0 rfl) ?_
    refine lv_dup hx hb dX1_closeParen_25 rfl ?_
    refine gf_X1_41 X rfl hP 0 rfl rfl dX1_closeParen_26 ?_
    refine lv_iconst (v := 1) hx hb dX1_closeParen_29 (by decide) ?_
    refine lv_isub hx hb dX1_closeParen_30 ?_
    refine pf_X1_41 X rfl hP hD hS 0 rfl (Nat.le_of_ble_eq_true rfl) dX1_closeParen_31 (fun H locs hP hD hS => ?_)
    have hP : va_P g.1 vwCl [oX1 h h_operators h_operatorPlaces h_firsts h_lasts h_levels h_formula (v_waiting_2 - (1 : Int32)) v_operands_3 v_openSigns_4 (v_openParens - (1 : Int32)), aI g h_operators 160 v_operators, oX2 h_formula h_formula_symbols h_formula_opens h_formula_closes h_formula_steps v_formula_length v_formula_stepCount_5, aI g h_formula_steps 160 v_formula_steps_6, aI g h_levels 160 v_levels_7, aI g h_firsts 160 v_firsts_8, aI g h_lasts 160 v_lasts_9, aI g h_formula_opens 160 v_formula_opens_10, aI g h_formula_closes 160 v_formula_closes_11, aI g h_operatorPlaces 160 v_operatorPlaces] H := hP
    have hD : va_D A [oX1 h h_operators h_operatorPlaces h_firsts h_lasts h_levels h_formula (v_waiting_2 - (1 : Int32)) v_operands_3 v_openSigns_4 (v_openParens - (1 : Int32)), aI g h_operators 160 v_operators, oX2 h_formula h_formula_symbols h_formula_opens h_formula_closes h_formula_steps v_formula_length v_formula_stepCount_5, aI g h_formula_steps 160 v_formula_steps_6, aI g h_levels 160 v_levels_7, aI g h_firsts 160 v_firsts_8, aI g h_lasts 160 v_lasts_9, aI g h_formula_opens 160 v_formula_opens_10, aI g h_formula_closes 160 v_formula_closes_11, aI g h_operatorPlaces 160 v_operatorPlaces] := hD
    refine lv_aload_n hx hb dX1_closeParen_34 rfl (lv_at hl 0 rfl) ?_
    refine lv_dup hx hb dX1_closeParen_35 rfl ?_
    refine gf_X1_38 X rfl hP 0 rfl rfl dX1_closeParen_36 ?_
    refine lv_iconst (v := 1) hx hb dX1_closeParen_39 (by decide) ?_
    refine lv_isub hx hb dX1_closeParen_40 ?_
    refine pf_X1_38 X rfl hP hD hS 0 rfl (Nat.le_of_ble_eq_true rfl) dX1_closeParen_41 (fun H locs hP hD hS => ?_)
    have hP : va_P g.1 vwCl [oX1 h h_operators h_operatorPlaces h_firsts h_lasts h_levels h_formula (v_waiting_2 - (1 : Int32)) v_operands_3 (v_openSigns_4 - (1 : Int32)) (v_openParens - (1 : Int32)), aI g h_operators 160 v_operators, oX2 h_formula h_formula_symbols h_formula_opens h_formula_closes h_formula_steps v_formula_length v_formula_stepCount_5, aI g h_formula_steps 160 v_formula_steps_6, aI g h_levels 160 v_levels_7, aI g h_firsts 160 v_firsts_8, aI g h_lasts 160 v_lasts_9, aI g h_formula_opens 160 v_formula_opens_10, aI g h_formula_closes 160 v_formula_closes_11, aI g h_operatorPlaces 160 v_operatorPlaces] H := hP
    have hD : va_D A [oX1 h h_operators h_operatorPlaces h_firsts h_lasts h_levels h_formula (v_waiting_2 - (1 : Int32)) v_operands_3 (v_openSigns_4 - (1 : Int32)) (v_openParens - (1 : Int32)), aI g h_operators 160 v_operators, oX2 h_formula h_formula_symbols h_formula_opens h_formula_closes h_formula_steps v_formula_length v_formula_stepCount_5, aI g h_formula_steps 160 v_formula_steps_6, aI g h_levels 160 v_levels_7, aI g h_firsts 160 v_firsts_8, aI g h_lasts 160 v_lasts_9, aI g h_formula_opens 160 v_formula_opens_10, aI g h_formula_closes 160 v_formula_closes_11, aI g h_operatorPlaces 160 v_operatorPlaces] := hD
    refine lv_aload_n hx hb dX1_closeParen_44 rfl (lv_at hl 0 rfl) ?_
    refine lv_bipush (v := 6) hx hb dX1_closeParen_45 (by decide) ?_
    obtain ⟨⟨v_waiting_13, v_operands_14, v_openSigns_15, v_formula_stepCount_16, v_formula_steps_17, v_levels_18, v_firsts_19, v_lasts_20, v_formula_opens_21, v_formula_closes_22⟩, hf_23, hf⟩ := obind hf
    refine gcV (rest := []) (wn := [oX1 h h_operators h_operatorPlaces h_firsts h_lasts h_levels h_formula v_waiting_13 v_operands_14 v_openSigns_15 (v_openParens - (1 : Int32)), aI g h_operators 160 v_operators, oX2 h_formula h_formula_symbols h_formula_opens h_formula_closes h_formula_steps v_formula_length v_formula_stepCount_16, aI g h_formula_steps 160 v_formula_steps_17, aI g h_levels 160 v_levels_18, aI g h_firsts 160 v_firsts_19, aI g h_lasts 160 v_lasts_20, aI g h_formula_opens 160 v_formula_opens_21, aI g h_formula_closes 160 v_formula_closes_22, aI g h_operatorPlaces 160 v_operatorPlaces]) X hP hD hS hl (c_X1_applyDownTo l g h h_operators h_operatorPlaces h_firsts h_lasts h_levels h_formula (v_waiting_2 - (1 : Int32)) v_operands_3 (v_openSigns_4 - (1 : Int32)) (v_openParens - (1 : Int32)) v_operators h_formula_symbols h_formula_opens h_formula_closes h_formula_steps v_formula_length v_formula_stepCount_5 v_formula_steps_6 v_levels_7 v_firsts_8 v_lasts_9 v_formula_opens_10 v_formula_closes_11 v_operatorPlaces 6 v_waiting_13 v_operands_14 v_openSigns_15 v_formula_stepCount_16 v_formula_steps_17 v_levels_18 v_firsts_19 v_lasts_20 v_formula_opens_21 v_formula_closes_22 hf_23) [0, 1, 2, 3, 4, 5, 6, 7, 8, 9] rfl rfl rfl [.inr 0, .inr 1, .inr 2, .inr 3, .inr 4, .inr 5, .inr 6, .inr 7, .inr 8, .inr 9] rfl rfl cd_X1_applyDownTo rfl im_X1_applyDownTo se_X1_applyDownTo ml_X1_62 0 rfl rfl rfl rfl rfl ⟨(Nat.le_of_ble_eq_true rfl), (Nat.le_of_ble_eq_true rfl)⟩ rfl (Nat.le_of_ble_eq_true rfl) dX1_closeParen_47 ⟨(Nat.le_of_ble_eq_true rfl), (Nat.le_of_ble_eq_true rfl)⟩ (fun H locs hP hD hS => ?_)
    refine lv_iconst (v := 1) hx hb dX1_closeParen_50 (by decide) ?_
    cases hf
    exact ret_z (v := true) X hAe hP hD hS rfl dX1_closeParen_51
  · have hf := ift hf c_1
    refine lv_iconst (v := 0) hx hb dX1_closeParen_7 (by decide) ?_
    cases hf
    exact ret_z (v := false) X hAe hP hD hS rfl dX1_closeParen_8
def f_X1_finish (v_waiting : Int32) (v_operands : Int32) (v_openSigns : Int32) (v_openParens : Int32) (v_operators : Nat → Int32) (v_formula_stepCount : Int32) (v_formula_steps : Nat → Int32) (v_levels : Nat → Int32) (v_firsts : Nat → Int32) (v_lasts : Nat → Int32) (v_formula_opens : Nat → Int32) (v_formula_closes : Nat → Int32) (v_operatorPlaces : Nat → Int32) : Option (Bool × Int32 × Int32 × Int32 × Int32 × (Nat → Int32) × (Nat → Int32) × (Nat → Int32) × (Nat → Int32) × (Nat → Int32) × (Nat → Int32)) :=
  if v_openParens = 0 then
  ((f_X1_applyDownTo v_waiting v_operands v_openSigns v_operators v_formula_stepCount v_formula_steps v_levels v_firsts v_lasts v_formula_opens v_formula_closes v_operatorPlaces 1).bind fun (v_waiting_2, v_operands_3, v_openSigns_4, v_formula_stepCount_5, v_formula_steps_6, v_levels_7, v_firsts_8, v_lasts_9, v_formula_opens_10, v_formula_closes_11) =>
  some (true, v_waiting_2, v_operands_3, v_openSigns_4, v_formula_stepCount_5, v_formula_steps_6, v_levels_7, v_firsts_8, v_lasts_9, v_formula_opens_10, v_formula_closes_11))
  else
  some (false, v_waiting, v_operands, v_openSigns, v_formula_stepCount, v_formula_steps, v_levels, v_firsts, v_lasts, v_formula_opens, v_formula_closes)
set_option maxHeartbeats 4000000 in
set_option maxRecDepth 100000 in
theorem c_X1_finish (l : Launch) (g : GT) (h : Nat) (h_operators : Nat) (h_operatorPlaces : Nat) (h_firsts : Nat) (h_lasts : Nat) (h_levels : Nat) (h_formula : Nat) (v_waiting : Int32) (v_operands : Int32) (v_openSigns : Int32) (v_openParens : Int32) (v_operators : Nat → Int32) (h_formula_symbols : Nat) (h_formula_opens : Nat) (h_formula_closes : Nat) (h_formula_steps : Nat) (v_formula_length : Int32) (v_formula_stepCount : Int32) (v_formula_steps : Nat → Int32) (v_levels : Nat → Int32) (v_firsts : Nat → Int32) (v_lasts : Nat → Int32) (v_formula_opens : Nat → Int32) (v_formula_closes : Nat → Int32) (v_operatorPlaces : Nat → Int32) (r_ : Bool) (u_waiting : Int32) (u_operands : Int32) (u_openSigns : Int32) (u_formula_stepCount : Int32) (u_formula_steps : Nat → Int32) (u_levels : Nat → Int32) (u_firsts : Nat → Int32) (u_lasts : Nat → Int32) (u_formula_opens : Nat → Int32) (u_formula_closes : Nat → Int32) (hf : f_X1_finish v_waiting v_operands v_openSigns v_openParens v_operators v_formula_stepCount v_formula_steps v_levels v_firsts v_lasts v_formula_opens v_formula_closes v_operatorPlaces = some (r_, u_waiting, u_operands, u_openSigns, u_formula_stepCount, u_formula_steps, u_levels, u_firsts, u_lasts, u_formula_opens, u_formula_closes)) : Con l g yX1_finish cX1_finish 1 (some .boolean) ({ frames := 4, cells := 0, slots := 0, locals := 91 }) [.ref h] [oX1 h h_operators h_operatorPlaces h_firsts h_lasts h_levels h_formula v_waiting v_operands v_openSigns v_openParens, aI g h_operators 160 v_operators, oX2 h_formula h_formula_symbols h_formula_opens h_formula_closes h_formula_steps v_formula_length v_formula_stepCount, aI g h_formula_steps 160 v_formula_steps, aI g h_levels 160 v_levels, aI g h_firsts 160 v_firsts, aI g h_lasts 160 v_lasts, aI g h_formula_opens 160 v_formula_opens, aI g h_formula_closes 160 v_formula_closes, aI g h_operatorPlaces 160 v_operatorPlaces] (some (.int (b2i r_))) [oX1 h h_operators h_operatorPlaces h_firsts h_lasts h_levels h_formula u_waiting u_operands u_openSigns v_openParens, aI g h_operators 160 v_operators, oX2 h_formula h_formula_symbols h_formula_opens h_formula_closes h_formula_steps v_formula_length u_formula_stepCount, aI g h_formula_steps 160 u_formula_steps, aI g h_levels 160 u_levels, aI g h_firsts 160 u_firsts, aI g h_lasts 160 u_lasts, aI g h_formula_opens 160 u_formula_opens, aI g h_formula_closes 160 u_formula_closes, aI g h_operatorPlaces 160 v_operatorPlaces] := by
  refine Con.of (by decide) (Nat.le_of_ble_eq_true rfl) ?_
  intro p e s m below meth c A ls hAe X hP hD hS hl
  obtain ⟨hx, hb, hml, hr, hown, hts, hlk, hnm, hA, hG, hZ⟩ := id X
  have hown : s.vm.findClass RX1 = some m.cls := hown
  have hl : lv_has ls 1 [(0, .ref h)] := hl
  unfold f_X1_finish at hf
  refine lv_aload_n hx hb dX1_finish_0 rfl (lv_at hl 0 rfl) ?_
  refine gf_X1_41 X rfl hP 0 rfl rfl dX1_finish_1 ?_
  refine lv_if_eq (tgt := 9) hx hb dX1_finish_4 (by decide) (fun c_1 => ?_) (fun c_1 => ?_)
  · have hf := ift hf c_1
    refine lv_aload_n hx hb dX1_finish_9 rfl (lv_at hl 0 rfl) ?_
    refine lv_iconst (v := 1) hx hb dX1_finish_10 (by decide) ?_
    obtain ⟨⟨v_waiting_2, v_operands_3, v_openSigns_4, v_formula_stepCount_5, v_formula_steps_6, v_levels_7, v_firsts_8, v_lasts_9, v_formula_opens_10, v_formula_closes_11⟩, hf_12, hf⟩ := obind hf
    refine gcV (rest := []) (wn := [oX1 h h_operators h_operatorPlaces h_firsts h_lasts h_levels h_formula v_waiting_2 v_operands_3 v_openSigns_4 v_openParens, aI g h_operators 160 v_operators, oX2 h_formula h_formula_symbols h_formula_opens h_formula_closes h_formula_steps v_formula_length v_formula_stepCount_5, aI g h_formula_steps 160 v_formula_steps_6, aI g h_levels 160 v_levels_7, aI g h_firsts 160 v_firsts_8, aI g h_lasts 160 v_lasts_9, aI g h_formula_opens 160 v_formula_opens_10, aI g h_formula_closes 160 v_formula_closes_11, aI g h_operatorPlaces 160 v_operatorPlaces]) X hP hD hS hl (c_X1_applyDownTo l g h h_operators h_operatorPlaces h_firsts h_lasts h_levels h_formula v_waiting v_operands v_openSigns v_openParens v_operators h_formula_symbols h_formula_opens h_formula_closes h_formula_steps v_formula_length v_formula_stepCount v_formula_steps v_levels v_firsts v_lasts v_formula_opens v_formula_closes v_operatorPlaces 1 v_waiting_2 v_operands_3 v_openSigns_4 v_formula_stepCount_5 v_formula_steps_6 v_levels_7 v_firsts_8 v_lasts_9 v_formula_opens_10 v_formula_closes_11 hf_12) [0, 1, 2, 3, 4, 5, 6, 7, 8, 9] rfl rfl rfl [.inr 0, .inr 1, .inr 2, .inr 3, .inr 4, .inr 5, .inr 6, .inr 7, .inr 8, .inr 9] rfl rfl cd_X1_applyDownTo rfl im_X1_applyDownTo se_X1_applyDownTo ml_X1_62 0 rfl rfl rfl rfl rfl ⟨(Nat.le_of_ble_eq_true rfl), (Nat.le_of_ble_eq_true rfl)⟩ rfl (Nat.le_of_ble_eq_true rfl) dX1_finish_11 ⟨(Nat.le_of_ble_eq_true rfl), (Nat.le_of_ble_eq_true rfl)⟩ (fun H locs hP hD hS => ?_)
    refine lv_iconst (v := 1) hx hb dX1_finish_14 (by decide) ?_
    cases hf
    exact ret_z (v := true) X hAe hP hD hS rfl dX1_finish_15
  · have hf := iff_ hf c_1
    refine lv_iconst (v := 0) hx hb dX1_finish_7 (by decide) ?_
    cases hf
    exact ret_z (v := false) X hAe hP hD hS rfl dX1_finish_8
