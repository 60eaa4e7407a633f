def f_X2_addSymbol (v_length : Int32) (v_symbols : Nat → Int32) (v_opens : Nat → Int32) (v_closes : Nat → Int32) (a1 : Int32) : Option (Int32 × Int32 × (Nat → Int32) × (Nat → Int32) × (Nat → Int32)) :=
  (f_X11_within v_length 160).bind fun r_1 =>
  if b2i r_1 = 0 then
  some ((-1), v_length, v_symbols, v_opens, v_closes)
  else
  (if ix v_length 160 then
  if ix v_length 160 then
  if ix v_length 160 then
  some ((v_length + (1 : Int32)) - (1 : Int32), v_length + (1 : Int32), upd v_symbols v_length.toNatClampNeg a1, upd v_opens v_length.toNatClampNeg 0, upd v_closes v_length.toNatClampNeg 0)
  else none
  else none
  else none)
set_option maxHeartbeats 4000000 in
set_option maxRecDepth 100000 in
theorem c_X2_addSymbol (l : Launch) (g : GT) (h : Nat) (h_symbols : Nat) (h_opens : Nat) (h_closes : Nat) (h_steps : Nat) (v_length : Int32) (v_stepCount : Int32) (v_symbols : Nat → Int32) (v_opens : Nat → Int32) (v_closes : Nat → Int32) (a1 : Int32) (r_ : Int32) (u_length : Int32) (u_symbols : Nat → Int32) (u_opens : Nat → Int32) (u_closes : Nat → Int32) (hf : f_X2_addSymbol v_length v_symbols v_opens v_closes a1 = some (r_, u_length, u_symbols, u_opens, u_closes)) : Con l g yX2_addSymbol cX2_addSymbol 2 (some .int) ({ frames := 1, cells := 0, slots := 0, locals := 21 }) [.ref h, .int a1] [oX2 h h_symbols h_opens h_closes h_steps v_length v_stepCount, aI g h_symbols 160 v_symbols, aI g h_opens 160 v_opens, aI g h_closes 160 v_closes] (some (.int r_)) [oX2 h h_symbols h_opens h_closes h_steps u_length v_stepCount, aI g h_symbols 160 u_symbols, aI g h_opens 160 u_opens, aI g h_closes 160 u_closes] := by
  refine Con.of (by decide) (Nat.le_of_ble_eq_true rfl) ?_
  intro p e s m below meth c A ls hAe X hP hD hS hl
  obtain ⟨hx, hb, hml, hr, hown, hts, hlk, hnm, hA, hG, hZ⟩ := id X
  have hown : s.vm.findClass RX2 = some m.cls := hown
  have hl : lv_has ls 2 [(0, .ref h), (1, .int a1)] := hl
  unfold f_X2_addSymbol at hf
  refine lv_aload_n hx hb dX2_addSymbol_0 rfl (lv_at hl 0 rfl) ?_
  refine gf_X2_24 X rfl hP 0 rfl rfl dX2_addSymbol_1 ?_
  refine lv_sipush (v := 160) hx hb dX2_addSymbol_4 (by decide) ?_
  obtain ⟨r_1, hf_2, hf⟩ := obind hf
  refine gcSN (rest := []) (wn := [oX2 h h_symbols h_opens h_closes h_steps v_length v_stepCount, aI g h_symbols 160 v_symbols, aI g h_opens 160 v_opens, aI g h_closes 160 v_closes]) X hP hD hS hl (c_X11_within l g v_length 160 r_1 hf_2) [] rfl rfl rfl [.inl 0, .inl 1, .inl 2, .inl 3] rfl rfl cd_X11_within rfl st_X11_within ml_X2_31 rfl rfl ⟨(Nat.le_of_ble_eq_true rfl), (Nat.le_of_ble_eq_true rfl)⟩ rfl (Nat.le_of_ble_eq_true rfl) dX2_addSymbol_7 ⟨(Nat.le_of_ble_eq_true rfl), (Nat.le_of_ble_eq_true rfl)⟩ (fun H locs hP hD hS => ?_)
  refine lv_if_ne (tgt := 15) hx hb dX2_addSymbol_10 (by decide) (fun c_3 => ?_) (fun c_3 => ?_)
  · have hf := iff_ hf c_3
    refine lv_aload_n hx hb dX2_addSymbol_15 rfl (lv_at hl 0 rfl) ?_
    refine gf_X2_9 X rfl hP 0 rfl rfl dX2_addSymbol_16 ?_
    refine lv_aload_n hx hb dX2_addSymbol_19 rfl (lv_at hl 0 rfl) ?_
    refine gf_X2_24 X rfl hP 0 rfl rfl dX2_addSymbol_20 ?_
    refine lv_iload_n hx hb dX2_addSymbol_23 rfl (lv_at hl 1 rfl) ?_
    obtain ⟨hi_4, hf⟩ := ifs hf
    refine va_iast (D := g.1) hx hb hG.1 hP hD hS 1 1 rfl rfl (ix_in hi_4) dX2_addSymbol_24 (fun H locs hP hD hS => ?_)
    have hP : va_P g.1 vwCl [oX2 h h_symbols h_opens h_closes h_steps v_length v_stepCount, aI g h_symbols 160 (upd v_symbols v_length.toNatClampNeg a1), aI g h_opens 160 v_opens, aI g h_closes 160 v_closes] H := hP
    have hD : va_D A [oX2 h h_symbols h_opens h_closes h_steps v_length v_stepCount, aI g h_symbols 160 (upd v_symbols v_length.toNatClampNeg a1), aI g h_opens 160 v_opens, aI g h_closes 160 v_closes] := hD
    refine lv_aload_n hx hb dX2_addSymbol_25 rfl (lv_at hl 0 rfl) ?_
    refine gf_X2_15 X rfl hP 0 rfl rfl dX2_addSymbol_26 ?_
    refine lv_aload_n hx hb dX2_addSymbol_29 rfl (lv_at hl 0 rfl) ?_
    refine gf_X2_24 X rfl hP 0 rfl rfl dX2_addSymbol_30 ?_
    refine lv_iconst (v := 0) hx hb dX2_addSymbol_33 (by decide) ?_
    obtain ⟨hi_5, hf⟩ := ifs hf
    refine va_iast (D := g.1) hx hb hG.1 hP hD hS 2 1 rfl rfl (ix_in hi_5) dX2_addSymbol_34 (fun H locs hP hD hS => ?_)
    have hP : va_P g.1 vwCl [oX2 h h_symbols h_opens h_closes h_steps v_length v_stepCount, aI g h_symbols 160 (upd v_symbols v_length.toNatClampNeg a1), aI g h_opens 160 (upd v_opens v_length.toNatClampNeg 0), aI g h_closes 160 v_closes] H := hP
    have hD : va_D A [oX2 h h_symbols h_opens h_closes h_steps v_length v_stepCount, aI g h_symbols 160 (upd v_symbols v_length.toNatClampNeg a1), aI g h_opens 160 (upd v_opens v_length.toNatClampNeg 0), aI g h_closes 160 v_closes] := hD
    refine lv_aload_n hx hb dX2_addSymbol_35 rfl (lv_at hl 0 rfl) ?_
    refine gf_X2_18 X rfl hP 0 rfl rfl dX2_addSymbol_36 ?_
    refine lv_aload_n hx hb dX2_addSymbol_39 rfl (lv_at hl 0 rfl) ?_
    refine gf_X2_24 X rfl hP 0 rfl rfl dX2_addSymbol_40 ?_
    refine lv_iconst (v := 0) hx hb dX2_addSymbol_43 (by decide) ?_
    obtain ⟨hi_6, hf⟩ := ifs hf
    refine va_iast (D := g.1) hx hb hG.1 hP hD hS 3 1 rfl rfl (ix_in hi_6) dX2_addSymbol_44 (fun H locs hP hD hS => ?_)
    have hP : va_P g.1 vwCl [oX2 h h_symbols h_opens h_closes h_steps v_length v_stepCount, aI g h_symbols 160 (upd v_symbols v_length.toNatClampNeg a1), aI g h_opens 160 (upd v_opens v_length.toNatClampNeg 0), aI g h_closes 160 (upd v_closes v_length.toNatClampNeg 0)] H := hP
    have hD : va_D A [oX2 h h_symbols h_opens h_closes h_steps v_length v_stepCount, aI g h_symbols 160 (upd v_symbols v_length.toNatClampNeg a1), aI g h_opens 160 (upd v_opens v_length.toNatClampNeg 0), aI g h_closes 160 (upd v_closes v_length.toNatClampNeg 0)] := hD
    refine lv_aload_n hx hb dX2_addSymbol_45 rfl (lv_at hl 0 rfl) ?_
    refine lv_dup hx hb dX2_addSymbol_46 rfl ?_
    refine gf_X2_24 X rfl hP 0 rfl rfl dX2_addSymbol_47 ?_
    refine lv_iconst (v := 1) hx hb dX2_addSymbol_50 (by decide) ?_
    refine lv_iadd hx hb dX2_addSymbol_51 ?_
    refine pf_X2_24 X rfl hP hD hS 0 rfl (Nat.le_of_ble_eq_true rfl) dX2_addSymbol_52 (fun H locs hP hD hS => ?_)
    have hP : va_P g.1 vwCl [oX2 h h_symbols h_opens h_closes h_steps (v_length + (1 : Int32)) v_stepCount, aI g h_symbols 160 (upd v_symbols v_length.toNatClampNeg a1), aI g h_opens 160 (upd v_opens v_length.toNatClampNeg 0), aI g h_closes 160 (upd v_closes v_length.toNatClampNeg 0)] H := hP
    have hD : va_D A [oX2 h h_symbols h_opens h_closes h_steps (v_length + (1 : Int32)) v_stepCount, aI g h_symbols 160 (upd v_symbols v_length.toNatClampNeg a1), aI g h_opens 160 (upd v_opens v_length.toNatClampNeg 0), aI g h_closes 160 (upd v_closes v_length.toNatClampNeg 0)] := hD
    refine lv_aload_n hx hb dX2_addSymbol_55 rfl (lv_at hl 0 rfl) ?_
    refine gf_X2_24 X rfl hP 0 rfl rfl dX2_addSymbol_56 ?_
    refine lv_iconst (v := 1) hx hb dX2_addSymbol_59 (by decide) ?_
    refine lv_isub hx hb dX2_addSymbol_60 ?_
    cases hf
    exact ret_i X hAe hP hD hS rfl dX2_addSymbol_61
  · have hf := ift hf c_3
    refine lv_iconst (v := (-1)) hx hb dX2_addSymbol_13 (by decide) ?_
    cases hf
    exact ret_i X hAe hP hD hS rfl dX2_addSymbol_14
def f_X2_addStep (v_stepCount : Int32) (v_steps : Nat → Int32) (a1 : Int32) : Option (Int32 × (Nat → Int32)) :=
  (f_X11_within v_stepCount 160).bind fun r_1 =>
  if b2i r_1 = 0 then
  some (v_stepCount, v_steps)
  else
  (if ix v_stepCount 160 then
  some (v_stepCount + (1 : Int32), upd v_steps v_stepCount.toNatClampNeg a1)
  else none)
set_option maxHeartbeats 4000000 in
set_option maxRecDepth 100000 in
theorem c_X2_addStep (l : Launch) (g : GT) (h : Nat) (h_symbols : Nat) (h_opens : Nat) (h_closes : Nat) (h_steps : Nat) (v_length : Int32) (v_stepCount : Int32) (v_steps : Nat → Int32) (a1 : Int32) (u_stepCount : Int32) (u_steps : Nat → Int32) (hf : f_X2_addStep v_stepCount v_steps a1 = some (u_stepCount, u_steps)) : Con l g yX2_addStep cX2_addStep 2 none ({ frames := 1, cells := 0, slots := 0, locals := 21 }) [.ref h, .int a1] [oX2 h h_symbols h_opens h_closes h_steps v_length v_stepCount, aI g h_steps 160 v_steps] none [oX2 h h_symbols h_opens h_closes h_steps v_length u_stepCount, aI g h_steps 160 u_steps] := by
  refine Con.of (by decide) (Nat.le_of_ble_eq_true rfl) ?_
  intro p e s m below meth c A ls hAe X hP hD hS hl
  obtain ⟨hx, hb, hml, hr, hown, hts, hlk, hnm, hA, hG, hZ⟩ := id X
  have hown : s.vm.findClass RX2 = some m.cls := hown
  have hl : lv_has ls 2 [(0, .ref h), (1, .int a1)] := hl
  unfold f_X2_addStep at hf
  refine lv_aload_n hx hb dX2_addStep_0 rfl (lv_at hl 0 rfl) ?_
  refine gf_X2_28 X rfl hP 0 rfl rfl dX2_addStep_1 ?_
  refine lv_sipush (v := 160) hx hb dX2_addStep_4 (by decide) ?_
  obtain ⟨r_1, hf_2, hf⟩ := obind hf
  refine gcSN (rest := []) (wn := [oX2 h h_symbols h_opens h_closes h_steps v_length v_stepCount, aI g h_steps 160 v_steps]) X hP hD hS hl (c_X11_within l g v_stepCount 160 r_1 hf_2) [] rfl rfl rfl [.inl 0, .inl 1] rfl rfl cd_X11_within rfl st_X11_within ml_X2_31 rfl rfl ⟨(Nat.le_of_ble_eq_true rfl), (Nat.le_of_ble_eq_true rfl)⟩ rfl (Nat.le_of_ble_eq_true rfl) dX2_addStep_7 ⟨(Nat.le_of_ble_eq_true rfl), (Nat.le_of_ble_eq_true rfl)⟩ (fun H locs hP hD hS => ?_)
  refine lv_if_eq (tgt := 33) hx hb dX2_addStep_10 (by decide) (fun c_3 => ?_) (fun c_3 => ?_)
  · have hf := ift hf c_3
    cases hf
    exact ret_v X hAe hP hD hS rfl dX2_addStep_33
  · have hf := iff_ hf c_3
    refine lv_aload_n hx hb dX2_addStep_13 rfl (lv_at hl 0 rfl) ?_
    refine gf_X2_21 X rfl hP 0 rfl rfl dX2_addStep_14 ?_
    refine lv_aload_n hx hb dX2_addStep_17 rfl (lv_at hl 0 rfl) ?_
    refine gf_X2_28 X rfl hP 0 rfl rfl dX2_addStep_18 ?_
    refine lv_iload_n hx hb dX2_addStep_21 rfl (lv_at hl 1 rfl) ?_
    obtain ⟨hi_4, hf⟩ := ifs hf
    refine va_iast (D := g.1) hx hb hG.1 hP hD hS 1 1 rfl rfl (ix_in hi_4) dX2_addStep_22 (fun H locs hP hD hS => ?_)
    have hP : va_P g.1 vwCl [oX2 h h_symbols h_opens h_closes h_steps v_length v_stepCount, aI g h_steps 160 (upd v_steps v_stepCount.toNatClampNeg a1)] H := hP
    have hD : va_D A [oX2 h h_symbols h_opens h_closes h_steps v_length v_stepCount, aI g h_steps 160 (upd v_steps v_stepCount.toNatClampNeg a1)] := hD
    refine lv_aload_n hx hb dX2_addStep_23 rfl (lv_at hl 0 rfl) ?_
    refine lv_dup hx hb dX2_addStep_24 rfl ?_
    refine gf_X2_28 X rfl hP 0 rfl rfl dX2_addStep_25 ?_
    refine lv_iconst (v := 1) hx hb dX2_addStep_28 (by decide) ?_
    refine lv_iadd hx hb dX2_addStep_29 ?_
    refine pf_X2_28 X rfl hP hD hS 0 rfl (Nat.le_of_ble_eq_true rfl) dX2_addStep_30 (fun H locs hP hD hS => ?_)
    have hP : va_P g.1 vwCl [oX2 h h_symbols h_opens h_closes h_steps v_length (v_stepCount + (1 : Int32)), aI g h_steps 160 (upd v_steps v_stepCount.toNatClampNeg a1)] H := hP
    have hD : va_D A [oX2 h h_symbols h_opens h_closes h_steps v_length (v_stepCount + (1 : Int32)), aI g h_steps 160 (upd v_steps v_stepCount.toNatClampNeg a1)] := hD
    cases hf
    exact ret_v X hAe hP hD hS rfl dX2_addStep_33
def f_X2_wrap (v_opens : Nat → Int32) (v_closes : Nat → Int32) (a1 : Int32) (a2 : Int32) : Option ((Nat → Int32) × (Nat → Int32)) :=
  if a1 < 0 then
  some (v_opens, v_closes)
  else
  (if 160 ≤ a1 then
  some (v_opens, v_closes)
  else
  (if a2 < 0 then
  some (v_opens, v_closes)
  else
  (if 160 ≤ a2 then
  some (v_opens, v_closes)
  else
  (if ix a1 160 then
  if ix a1 160 then
  if ix a2 160 then
  if ix a2 160 then
  some (upd v_opens a1.toNatClampNeg ((v_opens a1.toNatClampNeg) + (1 : Int32)), upd v_closes a2.toNatClampNeg ((v_closes a2.toNatClampNeg) + (1 : Int32)))
  else none
  else none
  else none
  else none))))
set_option maxHeartbeats 4000000 in
set_option maxRecDepth 100000 in
theorem c_X2_wrap (l : Launch) (g : GT) (h : Nat) (h_symbols : Nat) (h_opens : Nat) (h_closes : Nat) (h_steps : Nat) (v_length : Int32) (v_stepCount : Int32) (v_opens : Nat → Int32) (v_closes : Nat → Int32) (a1 : Int32) (a2 : Int32) (u_opens : Nat → Int32) (u_closes : Nat → Int32) (hf : f_X2_wrap v_opens v_closes a1 a2 = some (u_opens, u_closes)) : Con l g yX2_wrap cX2_wrap 3 none ({ frames := 0, cells := 0, slots := 0, locals := 0 }) [.ref h, .int a1, .int a2] [oX2 h h_symbols h_opens h_closes h_steps v_length v_stepCount, aI g h_opens 160 v_opens, aI g h_closes 160 v_closes] none [oX2 h h_symbols h_opens h_closes h_steps v_length v_stepCount, aI g h_opens 160 u_opens, aI g h_closes 160 u_closes] := by
  refine Con.of (by decide) (Nat.le_of_ble_eq_true rfl) ?_
  intro p e s m below meth c A ls hAe X hP hD hS hl
  obtain ⟨hx, hb, hml, hr, hown, hts, hlk, hnm, hA, hG, hZ⟩ := id X
  have hown : s.vm.findClass RX2 = some m.cls := hown
  have hl : lv_has ls 3 [(0, .ref h), (1, .int a1), (2, .int a2)] := hl
  unfold f_X2_wrap at hf
  refine lv_iload_n hx hb dX2_wrap_0 rfl (lv_at hl 1 rfl) ?_
  refine lv_if_lt (tgt := 42) hx hb dX2_wrap_1 (by decide) (fun c_1 => ?_) (fun c_1 => ?_)
  · have hf := ift hf c_1
    cases hf
    exact ret_v X hAe hP hD hS rfl dX2_wrap_42
  · have hf := iff_ hf c_1
    refine lv_iload_n hx hb dX2_wrap_4 rfl (lv_at hl 1 rfl) ?_
    refine lv_sipush (v := 160) hx hb dX2_wrap_5 (by decide) ?_
    refine lv_icmp_ge (tgt := 42) hx hb dX2_wrap_8 (by decide) (fun c_2 => ?_) (fun c_2 => ?_)
    · have hf := ift hf c_2
      cases hf
      exact ret_v X hAe hP hD hS rfl dX2_wrap_42
    · have hf := iff_ hf c_2
      refine lv_iload_n hx hb dX2_wrap_11 rfl (lv_at hl 2 rfl) ?_
      refine lv_if_lt (tgt := 42) hx hb dX2_wrap_12 (by decide) (fun c_3 => ?_) (fun c_3 => ?_)
      · have hf := ift hf c_3
        cases hf
        exact ret_v X hAe hP hD hS rfl dX2_wrap_42
      · have hf := iff_ hf c_3
        refine lv_iload_n hx hb dX2_wrap_15 rfl (lv_at hl 2 rfl) ?_
        refine lv_sipush (v := 160) hx hb dX2_wrap_16 (by decide) ?_
        refine lv_icmp_ge (tgt := 42) hx hb dX2_wrap_19 (by decide) (fun c_4 => ?_) (fun c_4 => ?_)
        · have hf := ift hf c_4
          cases hf
          exact ret_v X hAe hP hD hS rfl dX2_wrap_42
        · have hf := iff_ hf c_4
          refine lv_aload_n hx hb dX2_wrap_22 rfl (lv_at hl 0 rfl) ?_
          refine gf_X2_15 X rfl hP 0 rfl rfl dX2_wrap_23 ?_
          refine lv_iload_n hx hb dX2_wrap_26 rfl (lv_at hl 1 rfl) ?_
          refine lv_dup2_11 hx hb dX2_wrap_27 rfl rfl ?_
          obtain ⟨hi_5, hf⟩ := ifs hf
          refine va_iald (D := g.1) hx hb hG.1 hP 1 1 rfl rfl (ix_in hi_5) dX2_wrap_28 ?_
          refine lv_iconst (v := 1) hx hb dX2_wrap_29 (by decide) ?_
          refine lv_iadd hx hb dX2_wrap_30 ?_
          obtain ⟨hi_6, hf⟩ := ifs hf
          refine va_iast (D := g.1) hx hb hG.1 hP hD hS 1 1 rfl rfl (ix_in hi_6) dX2_wrap_31 (fun H locs hP hD hS => ?_)
          have hP : va_P g.1 vwCl [oX2 h h_symbols h_opens h_closes h_steps v_length v_stepCount, aI g h_opens 160 (upd v_opens a1.toNatClampNeg ((v_opens a1.toNatClampNeg) + (1 : Int32))), aI g h_closes 160 v_closes] H := hP
          have hD : va_D A [oX2 h h_symbols h_opens h_closes h_steps v_length v_stepCount, aI g h_opens 160 (upd v_opens a1.toNatClampNeg ((v_opens a1.toNatClampNeg) + (1 : Int32))), aI g h_closes 160 v_closes] := hD
          refine lv_aload_n hx hb dX2_wrap_32 rfl (lv_at hl 0 rfl) ?_
          refine gf_X2_18 X rfl hP 0 rfl rfl dX2_wrap_33 ?_
          refine lv_iload_n hx hb dX2_wrap_36 rfl (lv_at hl 2 rfl) ?_
          refine lv_dup2_11 hx hb dX2_wrap_37 rfl rfl ?_
          obtain ⟨hi_7, hf⟩ := ifs hf
          refine va_iald (D := g.1) hx hb hG.1 hP 2 1 rfl rfl (ix_in hi_7) dX2_wrap_38 ?_
          refine lv_iconst (v := 1) hx hb dX2_wrap_39 (by decide) ?_
          refine lv_iadd hx hb dX2_wrap_40 ?_
          obtain ⟨hi_8, hf⟩ := ifs hf
          refine va_iast (D := g.1) hx hb hG.1 hP hD hS 2 1 rfl rfl (ix_in hi_8) dX2_wrap_41 (fun H locs hP hD hS => ?_)
          have hP : va_P g.1 vwCl [oX2 h h_symbols h_opens h_closes h_steps v_length v_stepCount, aI g h_opens 160 (upd v_opens a1.toNatClampNeg ((v_opens a1.toNatClampNeg) + (1 : Int32))), aI g h_closes 160 (upd v_closes a2.toNatClampNeg ((v_closes a2.toNatClampNeg) + (1 : Int32)))] H := hP
          have hD : va_D A [oX2 h h_symbols h_opens h_closes h_steps v_length v_stepCount, aI g h_opens 160 (upd v_opens a1.toNatClampNeg ((v_opens a1.toNatClampNeg) + (1 : Int32))), aI g h_closes 160 (upd v_closes a2.toNatClampNeg ((v_closes a2.toNatClampNeg) + (1 : Int32)))] := hD
          cases hf
          exact ret_v X hAe hP hD hS rfl dX2_wrap_42
def f_X2_clear (v_length : Int32) (v_stepCount : Int32) : Option (Int32 × Int32) :=
  some (0, 0)
set_option maxHeartbeats 4000000 in
set_option maxRecDepth 100000 in
theorem c_X2_clear (l : Launch) (g : GT) (h : Nat) (h_symbols : Nat) (h_opens : Nat) (h_closes : Nat) (h_steps : Nat) (v_length : Int32) (v_stepCount : Int32) (u_length : Int32) (u_stepCount : Int32) (hf : f_X2_clear v_length v_stepCount = some (u_length, u_stepCount)) : Con l g yX2_clear cX2_clear 1 none ({ frames := 0, cells := 0, slots := 0, locals := 0 }) [.ref h] [oX2 h h_symbols h_opens h_closes h_steps v_length v_stepCount] none [oX2 h h_symbols h_opens h_closes h_steps u_length u_stepCount] := by
  refine Con.of (by decide) (Nat.le_of_ble_eq_true rfl) ?_
  intro p e s m below meth c A ls hAe X hP hD hS hl
  obtain ⟨hx, hb, hml, hr, hown, hts, hlk, hnm, hA, hG, hZ⟩ := id X
  have hown : s.vm.findClass RX2 = some m.cls := hown
  have hl : lv_has ls 1 [(0, .ref h)] := hl
  unfold f_X2_clear at hf
  refine lv_aload_n hx hb dX2_clear_0 rfl (lv_at hl 0 rfl) ?_
  refine lv_iconst (v := 0) hx hb dX2_clear_1 (by decide) ?_
  refine pf_X2_24 X rfl hP hD hS 0 rfl (Nat.le_of_ble_eq_true rfl) dX2_clear_2 (fun H locs hP hD hS => ?_)
  have hP : va_P g.1 vwCl [oX2 h h_symbols h_opens h_closes h_steps 0 v_stepCount] H := hP
  have hD : va_D A [oX2 h h_symbols h_opens h_closes h_steps 0 v_stepCount] := hD
  refine lv_aload_n hx hb dX2_clear_5 rfl (lv_at hl 0 rfl) ?_
  refine lv_iconst (v := 0) hx hb dX2_clear_6 (by decide) ?_
  refine pf_X2_28 X rfl hP hD hS 0 rfl (Nat.le_of_ble_eq_true rfl) dX2_clear_7 (fun H locs hP hD hS => ?_)
  have hP : va_P g.1 vwCl [oX2 h h_symbols h_opens h_closes h_steps 0 0] H := hP
  have hD : va_D A [oX2 h h_symbols h_opens h_closes h_steps 0 0] := hD
  cases hf
  exact ret_v X hAe hP hD hS rfl dX2_clear_10
def f_X2_symbolAt (v_symbols : Nat → Int32) (a1 : Int32) : Option (Int32) :=
  (f_X11_within a1 160).bind fun r_1 =>
  if b2i r_1 = 0 then
  some (-1)
  else
  (if ix a1 160 then
  some (v_symbols a1.toNatClampNeg)
  else none)
set_option maxHeartbeats 4000000 in
set_option maxRecDepth 100000 in
theorem c_X2_symbolAt (l : Launch) (g : GT) (h : Nat) (h_symbols : Nat) (h_opens : Nat) (h_closes : Nat) (h_steps : Nat) (v_length : Int32) (v_stepCount : Int32) (v_symbols : Nat → Int32) (a1 : Int32) (r_ : Int32) (hf : f_X2_symbolAt v_symbols a1 = some r_) : Con l g yX2_symbolAt cX2_symbolAt 2 (some .int) ({ frames := 1, cells := 0, slots := 0, locals := 21 }) [.ref h, .int a1] [oX2 h h_symbols h_opens h_closes h_steps v_length v_stepCount, aI g h_symbols 160 v_symbols] (some (.int r_)) [oX2 h h_symbols h_opens h_closes h_steps v_length v_stepCount, aI g h_symbols 160 v_symbols] := by
  refine Con.of (by decide) (Nat.le_of_ble_eq_true rfl) ?_
  intro p e s m below meth c A ls hAe X hP hD hS hl
  obtain ⟨hx, hb, hml, hr, hown, hts, hlk, hnm, hA, hG, hZ⟩ := id X
  have hown : s.vm.findClass RX2 = some m.cls := hown
  have hl : lv_has ls 2 [(0, .ref h), (1, .int a1)] := hl
  unfold f_X2_symbolAt at hf
  refine lv_iload_n hx hb dX2_symbolAt_0 rfl (lv_at hl 1 rfl) ?_
  refine lv_sipush (v := 160) hx hb dX2_symbolAt_1 (by decide) ?_
  obtain ⟨r_1, hf_2, hf⟩ := obind hf
  refine gcSN (rest := []) (wn := [oX2 h h_symbols h_opens h_closes h_steps v_length v_stepCount, aI g h_symbols 160 v_symbols]) X hP hD hS hl (c_X11_within l g a1 160 r_1 hf_2) [] rfl rfl rfl [.inl 0, .inl 1] rfl rfl cd_X11_within rfl st_X11_within ml_X2_31 rfl rfl ⟨(Nat.le_of_ble_eq_true rfl), (Nat.le_of_ble_eq_true rfl)⟩ rfl (Nat.le_of_ble_eq_true rfl) dX2_symbolAt_4 ⟨(Nat.le_of_ble_eq_true rfl), (Nat.le_of_ble_eq_true rfl)⟩ (fun H locs hP hD hS => ?_)
  refine lv_if_eq (tgt := 19) hx hb dX2_symbolAt_7 (by decide) (fun c_3 => ?_) (fun c_3 => ?_)
  · have hf := ift hf c_3
    refine lv_iconst (v := (-1)) hx hb dX2_symbolAt_19 (by decide) ?_
    cases hf
    exact ret_i X hAe hP hD hS rfl dX2_symbolAt_20
  · have hf := iff_ hf c_3
    refine lv_aload_n hx hb dX2_symbolAt_10 rfl (lv_at hl 0 rfl) ?_
    refine gf_X2_9 X rfl hP 0 rfl rfl dX2_symbolAt_11 ?_
    refine lv_iload_n hx hb dX2_symbolAt_14 rfl (lv_at hl 1 rfl) ?_
    obtain ⟨hi_4, hf⟩ := ifs hf
    refine va_iald (D := g.1) hx hb hG.1 hP 1 1 rfl rfl (ix_in hi_4) dX2_symbolAt_15 ?_
    refine lv_goto (tgt := 20) hx hb dX2_symbolAt_16 (by decide) ?_
    cases hf
    exact ret_i X hAe hP hD hS rfl dX2_symbolAt_20
def f_X2_opensAt (v_opens : Nat → Int32) (a1 : Int32) : Option (Int32) :=
  (f_X11_within a1 160).bind fun r_1 =>
  if b2i r_1 = 0 then
  some 0
  else
  (if ix a1 160 then
  some (v_opens a1.toNatClampNeg)
  else none)
set_option maxHeartbeats 4000000 in
set_option maxRecDepth 100000 in
theorem c_X2_opensAt (l : Launch) (g : GT) (h : Nat) (h_symbols : Nat) (h_opens : Nat) (h_closes : Nat) (h_steps : Nat) (v_length : Int32) (v_stepCount : Int32) (v_opens : Nat → Int32) (a1 : Int32) (r_ : Int32) (hf : f_X2_opensAt v_opens a1 = some r_) : Con l g yX2_opensAt cX2_opensAt 2 (some .int) ({ frames := 1, cells := 0, slots := 0, locals := 21 }) [.ref h, .int a1] [oX2 h h_symbols h_opens h_closes h_steps v_length v_stepCount, aI g h_opens 160 v_opens] (some (.int r_)) [oX2 h h_symbols h_opens h_closes h_steps v_length v_stepCount, aI g h_opens 160 v_opens] := by
  refine Con.of (by decide) (Nat.le_of_ble_eq_true rfl) ?_
  intro p e s m below meth c A ls hAe X hP hD hS hl
  obtain ⟨hx, hb, hml, hr, hown, hts, hlk, hnm, hA, hG, hZ⟩ := id X
  have hown : s.vm.findClass RX2 = some m.cls := hown
  have hl : lv_has ls 2 [(0, .ref h), (1, .int a1)] := hl
  unfold f_X2_opensAt at hf
  refine lv_iload_n hx hb dX2_opensAt_0 rfl (lv_at hl 1 rfl) ?_
  refine lv_sipush (v := 160) hx hb dX2_opensAt_1 (by decide) ?_
  obtain ⟨r_1, hf_2, hf⟩ := obind hf
  refine gcSN (rest := []) (wn := [oX2 h h_symbols h_opens h_closes h_steps v_length v_stepCount, aI g h_opens 160 v_opens]) X hP hD hS hl (c_X11_within l g a1 160 r_1 hf_2) [] rfl rfl rfl [.inl 0, .inl 1] rfl rfl cd_X11_within rfl st_X11_within ml_X2_31 rfl rfl ⟨(Nat.le_of_ble_eq_true rfl), (Nat.le_of_ble_eq_true rfl)⟩ rfl (Nat.le_of_ble_eq_true rfl) dX2_opensAt_4 ⟨(Nat.le_of_ble_eq_true rfl), (Nat.le_of_ble_eq_true rfl)⟩ (fun H locs hP hD hS => ?_)
  refine lv_if_eq (tgt := 19) hx hb dX2_opensAt_7 (by decide) (fun c_3 => ?_) (fun c_3 => ?_)
  · have hf := ift hf c_3
    refine lv_iconst (v := 0) hx hb dX2_opensAt_19 (by decide) ?_
    cases hf
    exact ret_i X hAe hP hD hS rfl dX2_opensAt_20
  · have hf := iff_ hf c_3
    refine lv_aload_n hx hb dX2_opensAt_10 rfl (lv_at hl 0 rfl) ?_
    refine gf_X2_15 X rfl hP 0 rfl rfl dX2_opensAt_11 ?_
    refine lv_iload_n hx hb dX2_opensAt_14 rfl (lv_at hl 1 rfl) ?_
    obtain ⟨hi_4, hf⟩ := ifs hf
    refine va_iald (D := g.1) hx hb hG.1 hP 1 1 rfl rfl (ix_in hi_4) dX2_opensAt_15 ?_
    refine lv_goto (tgt := 20) hx hb dX2_opensAt_16 (by decide) ?_
    cases hf
    exact ret_i X hAe hP hD hS rfl dX2_opensAt_20
def f_X2_closesAt (v_closes : Nat → Int32) (a1 : Int32) : Option (Int32) :=
  (f_X11_within a1 160).bind fun r_1 =>
  if b2i r_1 = 0 then
  some 0
  else
  (if ix a1 160 then
  some (v_closes a1.toNatClampNeg)
  else none)
set_option maxHeartbeats 4000000 in
set_option maxRecDepth 100000 in
theorem c_X2_closesAt (l : Launch) (g : GT) (h : Nat) (h_symbols : Nat) (h_opens : Nat) (h_closes : Nat) (h_steps : Nat) (v_length : Int32) (v_stepCount : Int32) (v_closes : Nat → Int32) (a1 : Int32) (r_ : Int32) (hf : f_X2_closesAt v_closes a1 = some r_) : Con l g yX2_closesAt cX2_closesAt 2 (some .int) ({ frames := 1, cells := 0, slots := 0, locals := 21 }) [.ref h, .int a1] [oX2 h h_symbols h_opens h_closes h_steps v_length v_stepCount, aI g h_closes 160 v_closes] (some (.int r_)) [oX2 h h_symbols h_opens h_closes h_steps v_length v_stepCount, aI g h_closes 160 v_closes] := by
  refine Con.of (by decide) (Nat.le_of_ble_eq_true rfl) ?_
  intro p e s m below meth c A ls hAe X hP hD hS hl
  obtain ⟨hx, hb, hml, hr, hown, hts, hlk, hnm, hA, hG, hZ⟩ := id X
  have hown : s.vm.findClass RX2 = some m.cls := hown
  have hl : lv_has ls 2 [(0, .ref h), (1, .int a1)] := hl
  unfold f_X2_closesAt at hf
  refine lv_iload_n hx hb dX2_closesAt_0 rfl (lv_at hl 1 rfl) ?_
  refine lv_sipush (v := 160) hx hb dX2_closesAt_1 (by decide) ?_
  obtain ⟨r_1, hf_2, hf⟩ := obind hf
  refine gcSN (rest := []) (wn := [oX2 h h_symbols h_opens h_closes h_steps v_length v_stepCount, aI g h_closes 160 v_closes]) X hP hD hS hl (c_X11_within l g a1 160 r_1 hf_2) [] rfl rfl rfl [.inl 0, .inl 1] rfl rfl cd_X11_within rfl st_X11_within ml_X2_31 rfl rfl ⟨(Nat.le_of_ble_eq_true rfl), (Nat.le_of_ble_eq_true rfl)⟩ rfl (Nat.le_of_ble_eq_true rfl) dX2_closesAt_4 ⟨(Nat.le_of_ble_eq_true rfl), (Nat.le_of_ble_eq_true rfl)⟩ (fun H locs hP hD hS => ?_)
  refine lv_if_eq (tgt := 19) hx hb dX2_closesAt_7 (by decide) (fun c_3 => ?_) (fun c_3 => ?_)
  · have hf := ift hf c_3
    refine lv_iconst (v := 0) hx hb dX2_closesAt_19 (by decide) ?_
    cases hf
    exact ret_i X hAe hP hD hS rfl dX2_closesAt_20
  · have hf := iff_ hf c_3
    refine lv_aload_n hx hb dX2_closesAt_10 rfl (lv_at hl 0 rfl) ?_
    refine gf_X2_18 X rfl hP 0 rfl rfl dX2_closesAt_11 ?_
    refine lv_iload_n hx hb dX2_closesAt_14 rfl (lv_at hl 1 rfl) ?_
    obtain ⟨hi_4, hf⟩ := ifs hf
    refine va_iald (D := g.1) hx hb hG.1 hP 1 1 rfl rfl (ix_in hi_4) dX2_closesAt_15 ?_
    refine lv_goto (tgt := 20) hx hb dX2_closesAt_16 (by decide) ?_
    cases hf
    exact ret_i X hAe hP hD hS rfl dX2_closesAt_20
def f_X2_stepAt (v_steps : Nat → Int32) (a1 : Int32) : Option (Int32) :=
  (f_X11_within a1 160).bind fun r_1 =>
  if b2i r_1 = 0 then
  some (-1)
  else
  (if ix a1 160 then
  some (v_steps a1.toNatClampNeg)
  else none)
set_option maxHeartbeats 4000000 in
set_option maxRecDepth 100000 in
theorem c_X2_stepAt (l : Launch) (g : GT) (h : Nat) (h_symbols : Nat) (h_opens : Nat) (h_closes : Nat) (h_steps : Nat) (v_length : Int32) (v_stepCount : Int32) (v_steps : Nat → Int32) (a1 : Int32) (r_ : Int32) (hf : f_X2_stepAt v_steps a1 = some r_) : Con l g yX2_stepAt cX2_stepAt 2 (some .int) ({ frames := 1, cells := 0, slots := 0, locals := 21 }) [.ref h, .int a1] [oX2 h h_symbols h_opens h_closes h_steps v_length v_stepCount, aI g h_steps 160 v_steps] (some (.int r_)) [oX2 h h_symbols h_opens h_closes h_steps v_length v_stepCount, aI g h_steps 160 v_steps] := by
  refine Con.of (by decide) (Nat.le_of_ble_eq_true rfl) ?_
  intro p e s m below meth c A ls hAe X hP hD hS hl
  obtain ⟨hx, hb, hml, hr, hown, hts, hlk, hnm, hA, hG, hZ⟩ := id X
  have hown : s.vm.findClass RX2 = some m.cls := hown
  have hl : lv_has ls 2 [(0, .ref h), (1, .int a1)] := hl
  unfold f_X2_stepAt at hf
  refine lv_iload_n hx hb dX2_stepAt_0 rfl (lv_at hl 1 rfl) ?_
  refine lv_sipush (v := 160) hx hb dX2_stepAt_1 (by decide) ?_
  obtain ⟨r_1, hf_2, hf⟩ := obind hf
  refine gcSN (rest := []) (wn := [oX2 h h_symbols h_opens h_closes h_steps v_length v_stepCount, aI g h_steps 160 v_steps]) X hP hD hS hl (c_X11_within l g a1 160 r_1 hf_2) [] rfl rfl rfl [.inl 0, .inl 1] rfl rfl cd_X11_within rfl st_X11_within ml_X2_31 rfl rfl ⟨(Nat.le_of_ble_eq_true rfl), (Nat.le_of_ble_eq_true rfl)⟩ rfl (Nat.le_of_ble_eq_true rfl) dX2_stepAt_4 ⟨(Nat.le_of_ble_eq_true rfl), (Nat.le_of_ble_eq_true rfl)⟩ (fun H locs hP hD hS => ?_)
  refine lv_if_eq (tgt := 19) hx hb dX2_stepAt_7 (by decide) (fun c_3 => ?_) (fun c_3 => ?_)
  · have hf := ift hf c_3
    refine lv_iconst (v := (-1)) hx hb dX2_stepAt_19 (by decide) ?_
    cases hf
    exact ret_i X hAe hP hD hS rfl dX2_stepAt_20
  · have hf := iff_ hf c_3
    refine lv_aload_n hx hb dX2_stepAt_10 rfl (lv_at hl 0 rfl) ?_
    refine gf_X2_21 X rfl hP 0 rfl rfl dX2_stepAt_11 ?_
    refine lv_iload_n hx hb dX2_stepAt_14 rfl (lv_at hl 1 rfl) ?_
    obtain ⟨hi_4, hf⟩ := ifs hf
    refine va_iald (D := g.1) hx hb hG.1 hP 1 1 rfl rfl (ix_in hi_4) dX2_stepAt_15 ?_
    refine lv_goto (tgt := 20) hx hb dX2_stepAt_16 (by decide) ?_
    cases hf
    exact ret_i X hAe hP hD hS rfl dX2_stepAt_20
