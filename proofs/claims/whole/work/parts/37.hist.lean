def f_X4_clear (v_blocks : Int32) (v_names : Int32) (v_values : Int32) : Option (Int32 × Int32 × Int32) :=
  some (0, 0, 0)
set_option maxHeartbeats 4000000 in
set_option maxRecDepth 100000 in
theorem c_X4_clear (l : Launch) (g : GT) (h : Nat) (h_played : Nat) (v_blocks : Int32) (v_names : Int32) (v_values : Int32) (u_blocks : Int32) (u_names : Int32) (u_values : Int32) (hf : f_X4_clear v_blocks v_names v_values = some (u_blocks, u_names, u_values)) : Con l g yX4_clear cX4_clear 1 none ({ frames := 0, cells := 0, slots := 0, locals := 0 }) [.ref h] [oX4 h h_played v_blocks v_names v_values] none [oX4 h h_played u_blocks u_names u_values] := by
  refine Con.of (by decide) (Nat.le_of_ble_eq_true rfl) ?_
  intro p e s m below meth c A ls hAe X hP hD hS hl
  obtain ⟨hx, hb, hml, hr, hown, hts, hlk, hnm, hA, hG, hZ⟩ := id X
  have hown : s.vm.findClass RX4 = some m.cls := hown
  have hl : lv_has ls 1 [(0, .ref h)] := hl
  unfold f_X4_clear at hf
  refine lv_aload_n hx hb dX4_clear_0 rfl (lv_at hl 0 rfl) ?_
  refine lv_iconst (v := 0) hx hb dX4_clear_1 (by decide) ?_
  refine pf_X4_15 X rfl hP hD hS 0 rfl (Nat.le_of_ble_eq_true rfl) dX4_clear_2 (fun H locs hP hD hS => ?_)
  have hP : va_P g.1 vwCl [oX4 h h_played 0 v_names v_values] H := hP
  have hD : va_D A [oX4 h h_played 0 v_names v_values] := hD
  refine lv_aload_n hx hb dX4_clear_5 rfl (lv_at hl 0 rfl) ?_
  refine lv_iconst (v := 0) hx hb dX4_clear_6 (by decide) ?_
  refine pf_X4_19 X rfl hP hD hS 0 rfl (Nat.le_of_ble_eq_true rfl) dX4_clear_7 (fun H locs hP hD hS => ?_)
  have hP : va_P g.1 vwCl [oX4 h h_played 0 0 v_values] H := hP
  have hD : va_D A [oX4 h h_played 0 0 v_values] := hD
  refine lv_aload_n hx hb dX4_clear_10 rfl (lv_at hl 0 rfl) ?_
  refine lv_iconst (v := 0) hx hb dX4_clear_11 (by decide) ?_
  refine pf_X4_22 X rfl hP hD hS 0 rfl (Nat.le_of_ble_eq_true rfl) dX4_clear_12 (fun H locs hP hD hS => ?_)
  have hP : va_P g.1 vwCl [oX4 h h_played 0 0 0] H := hP
  have hD : va_D A [oX4 h h_played 0 0 0] := hD
  cases hf
  exact ret_v X hAe hP hD hS rfl dX4_clear_15
def f_X4_add (v_blocks : Int32) (v_names : Int32) (v_values : Int32) (v_played : Nat → Int32) (a1 : Int32) (a2 : Int32) : Option (Int32 × Int32 × Int32 × (Nat → Int32)) :=
  (f_X11_within v_blocks 6).bind fun r_1 =>
  if b2i r_1 = 0 then
  some (v_blocks, v_names, v_values, v_played)
  else
  (if ix v_blocks 6 then
  some (v_blocks + (1 : Int32), v_names + a2, (v_values <<< (a2 &&& 31)) ||| a1, upd v_played v_blocks.toNatClampNeg a1)
  else none)
set_option maxHeartbeats 4000000 in
set_option maxRecDepth 100000 in
theorem c_X4_add (l : Launch) (g : GT) (h : Nat) (h_played : Nat) (v_blocks : Int32) (v_names : Int32) (v_values : Int32) (v_played : Nat → Int32) (a1 : Int32) (a2 : Int32) (u_blocks : Int32) (u_names : Int32) (u_values : Int32) (u_played : Nat → Int32) (hf : f_X4_add v_blocks v_names v_values v_played a1 a2 = some (u_blocks, u_names, u_values, u_played)) : Con l g yX4_add cX4_add 3 none ({ frames := 1, cells := 0, slots := 0, locals := 21 }) [.ref h, .int a1, .int a2] [oX4 h h_played v_blocks v_names v_values, aI g h_played 6 v_played] none [oX4 h h_played u_blocks u_names u_values, aI g h_played 6 u_played] := by
  refine Con.of (by decide) (Nat.le_of_ble_eq_true rfl) ?_
  intro p e s m below meth c A ls hAe X hP hD hS hl
  obtain ⟨hx, hb, hml, hr, hown, hts, hlk, hnm, hA, hG, hZ⟩ := id X
  have hown : s.vm.findClass RX4 = some m.cls := hown
  have hl : lv_has ls 3 [(0, .ref h), (1, .int a1), (2, .int a2)] := hl
  unfold f_X4_add at hf
  refine lv_aload_n hx hb dX4_add_0 rfl (lv_at hl 0 rfl) ?_
  refine gf_X4_15 X rfl hP 0 rfl rfl dX4_add_1 ?_
  refine lv_bipush (v := 6) hx hb dX4_add_4 (by decide) ?_
  obtain ⟨r_1, hf_2, hf⟩ := obind hf
  refine gcSN (rest := []) (wn := [oX4 h h_played v_blocks v_names v_values, aI g h_played 6 v_played]) X hP hD hS hl (c_X11_within l g v_blocks 6 r_1 hf_2) [] rfl rfl rfl [.inl 0, .inl 1] rfl rfl cd_X11_within rfl st_X11_within ml_X4_25 rfl rfl ⟨(Nat.le_of_ble_eq_true rfl), (Nat.le_of_ble_eq_true rfl)⟩ rfl (Nat.le_of_ble_eq_true rfl) dX4_add_6 ⟨(Nat.le_of_ble_eq_true rfl), (Nat.le_of_ble_eq_true rfl)⟩ (fun H locs hP hD hS => ?_)
  refine lv_if_eq (tgt := 54) hx hb dX4_add_9 (by decide) (fun c_3 => ?_) (fun c_3 => ?_)
  · have hf := ift hf c_3
    cases hf
    exact ret_v X hAe hP hD hS rfl dX4_add_54
  · have hf := iff_ hf c_3
    refine lv_aload_n hx hb dX4_add_12 rfl (lv_at hl 0 rfl) ?_
    refine gf_X4_9 X rfl hP 0 rfl rfl dX4_add_13 ?_
    refine lv_aload_n hx hb dX4_add_16 rfl (lv_at hl 0 rfl) ?_
    refine gf_X4_15 X rfl hP 0 rfl rfl dX4_add_17 ?_
    refine lv_iload_n hx hb dX4_add_20 rfl (lv_at hl 1 rfl) ?_
    obtain ⟨hi_4, hf⟩ := ifs hf
    refine va_iast (D := g.1) hx hb hG.1 hP hD hS 1 1 rfl rfl (ix_in hi_4) dX4_add_21 (fun H locs hP hD hS => ?_)
    have hP : va_P g.1 vwCl [oX4 h h_played v_blocks v_names v_values, aI g h_played 6 (upd v_played v_blocks.toNatClampNeg a1)] H := hP
    have hD : va_D A [oX4 h h_played v_blocks v_names v_values, aI g h_played 6 (upd v_played v_blocks.toNatClampNeg a1)] := hD
    refine lv_aload_n hx hb dX4_add_22 rfl (lv_at hl 0 rfl) ?_
    refine lv_dup hx hb dX4_add_23 rfl ?_
    refine gf_X4_15 X rfl hP 0 rfl rfl dX4_add_24 ?_
    refine lv_iconst (v := 1) hx hb dX4_add_27 (by decide) ?_
    refine lv_iadd hx hb dX4_add_28 ?_
    refine pf_X4_15 X rfl hP hD hS 0 rfl (Nat.le_of_ble_eq_true rfl) dX4_add_29 (fun H locs hP hD hS => ?_)
    have hP : va_P g.1 vwCl [oX4 h h_played (v_blocks + (1 : Int32)) v_names v_values, aI g h_played 6 (upd v_played v_blocks.toNatClampNeg a1)] H := hP
    have hD : va_D A [oX4 h h_played (v_blocks + (1 : Int32)) v_names v_values, aI g h_played 6 (upd v_played v_blocks.toNatClampNeg a1)] := hD
    refine lv_aload_n hx hb dX4_add_32 rfl (lv_at hl 0 rfl) ?_
    refine lv_dup hx hb dX4_add_33 rfl ?_
    refine gf_X4_19 X rfl hP 0 rfl rfl dX4_add_34 ?_
    refine lv_iload_n hx hb dX4_add_37 rfl (lv_at hl 2 rfl) ?_
    refine lv_iadd hx hb dX4_add_38 ?_
    refine pf_X4_19 X rfl hP hD hS 0 rfl (Nat.le_of_ble_eq_true rfl) dX4_add_39 (fun H locs hP hD hS => ?_)
    have hP : va_P g.1 vwCl [oX4 h h_played (v_blocks + (1 : Int32)) (v_names + a2) v_values, aI g h_played 6 (upd v_played v_blocks.toNatClampNeg a1)] H := hP
    have hD : va_D A [oX4 h h_played (v_blocks + (1 : Int32)) (v_names + a2) v_values, aI g h_played 6 (upd v_played v_blocks.toNatClampNeg a1)] := hD
    refine lv_aload_n hx hb dX4_add_42 rfl (lv_at hl 0 rfl) ?_
    refine lv_aload_n hx hb dX4_add_43 rfl (lv_at hl 0 rfl) ?_
    refine gf_X4_22 X rfl hP 0 rfl rfl dX4_add_44 ?_
    refine lv_iload_n hx hb dX4_add_47 rfl (lv_at hl 2 rfl) ?_
    refine lv_ishl hx hb dX4_add_48 ?_
    refine lv_iload_n hx hb dX4_add_49 rfl (lv_at hl 1 rfl) ?_
    refine lv_ior hx hb dX4_add_50 ?_
    refine pf_X4_22 X rfl hP hD hS 0 rfl (Nat.le_of_ble_eq_true rfl) dX4_add_51 (fun H locs hP hD hS => ?_)
    have hP : va_P g.1 vwCl [oX4 h h_played (v_blocks + (1 : Int32)) (v_names + a2) ((v_values <<< (a2 &&& 31)) ||| a1), aI g h_played 6 (upd v_played v_blocks.toNatClampNeg a1)] H := hP
    have hD : va_D A [oX4 h h_played (v_blocks + (1 : Int32)) (v_names + a2) ((v_values <<< (a2 &&& 31)) ||| a1), aI g h_played 6 (upd v_played v_blocks.toNatClampNeg a1)] := hD
    cases hf
    exact ret_v X hAe hP hD hS rfl dX4_add_54
def f_X4_takeBack (v_blocks : Int32) (v_names : Int32) (v_values : Int32) (v_played : Nat → Int32) (a1 : Int32) : Option (Int32 × Int32 × Int32 × Int32) :=
  (f_X11_within (v_blocks - (1 : Int32)) 6).bind fun r_1 =>
  if b2i r_1 = 0 then
  some ((-1), v_blocks, v_names, v_values)
  else
  (if ix (v_blocks - (1 : Int32)) 6 then
  some (v_played (v_blocks - (1 : Int32)).toNatClampNeg, v_blocks - (1 : Int32), v_names - a1, v_values >>> (a1 &&& 31))
  else none)
set_option maxHeartbeats 4000000 in
set_option maxRecDepth 100000 in
theorem c_X4_takeBack (l : Launch) (g : GT) (h : Nat) (h_played : Nat) (v_blocks : Int32) (v_names : Int32) (v_values : Int32) (v_played : Nat → Int32) (a1 : Int32) (r_ : Int32) (u_blocks : Int32) (u_names : Int32) (u_values : Int32) (hf : f_X4_takeBack v_blocks v_names v_values v_played a1 = some (r_, u_blocks, u_names, u_values)) : Con l g yX4_takeBack cX4_takeBack 2 (some .int) ({ frames := 1, cells := 0, slots := 0, locals := 21 }) [.ref h, .int a1] [oX4 h h_played v_blocks v_names v_values, aI g h_played 6 v_played] (some (.int r_)) [oX4 h h_played u_blocks u_names u_values, aI g h_played 6 v_played] := by
  refine Con.of (by decide) (Nat.le_of_ble_eq_true rfl) ?_
  intro p e s m below meth c A ls hAe X hP hD hS hl
  obtain ⟨hx, hb, hml, hr, hown, hts, hlk, hnm, hA, hG, hZ⟩ := id X
  have hown : s.vm.findClass RX4 = some m.cls := hown
  have hl : lv_has ls 2 [(0, .ref h), (1, .int a1)] := hl
  unfold f_X4_takeBack at hf
  refine lv_aload_n hx hb dX4_takeBack_0 rfl (lv_at hl 0 rfl) ?_
  refine gf_X4_15 X rfl hP 0 rfl rfl dX4_takeBack_1 ?_
  refine lv_iconst (v := 1) hx hb dX4_takeBack_4 (by decide) ?_
  refine lv_isub hx hb dX4_takeBack_5 ?_
  refine lv_bipush (v := 6) hx hb dX4_takeBack_6 (by decide) ?_
  obtain ⟨r_1, hf_2, hf⟩ := obind hf
  refine gcSN (rest := []) (wn := [oX4 h h_played v_blocks v_names v_values, aI g h_played 6 v_played]) X hP hD hS hl (c_X11_within l g (v_blocks - (1 : Int32)) 6 r_1 hf_2) [] rfl rfl rfl [.inl 0, .inl 1] rfl rfl cd_X11_within rfl st_X11_within ml_X4_25 rfl rfl ⟨(Nat.le_of_ble_eq_true rfl), (Nat.le_of_ble_eq_true rfl)⟩ rfl (Nat.le_of_ble_eq_true rfl) dX4_takeBack_8 ⟨(Nat.le_of_ble_eq_true rfl), (Nat.le_of_ble_eq_true rfl)⟩ (fun H locs hP hD hS => ?_)
  refine lv_if_ne (tgt := 16) hx hb dX4_takeBack_11 (by decide) (fun c_3 => ?_) (fun c_3 => ?_)
  · have hf := iff_ hf c_3
    refine lv_aload_n hx hb dX4_takeBack_16 rfl (lv_at hl 0 rfl) ?_
    refine lv_dup hx hb dX4_takeBack_17 rfl ?_
    refine gf_X4_15 X rfl hP 0 rfl rfl dX4_takeBack_18 ?_
    refine lv_iconst (v := 1) hx hb dX4_takeBack_21 (by decide) ?_
    refine lv_isub hx hb dX4_takeBack_22 ?_
    refine pf_X4_15 X rfl hP hD hS 0 rfl (Nat.le_of_ble_eq_true rfl) dX4_takeBack_23 (fun H locs hP hD hS => ?_)
    have hP : va_P g.1 vwCl [oX4 h h_played (v_blocks - (1 : Int32)) v_names v_values, aI g h_played 6 v_played] H := hP
    have hD : va_D A [oX4 h h_played (v_blocks - (1 : Int32)) v_names v_values, aI g h_played 6 v_played] := hD
    refine lv_aload_n hx hb dX4_takeBack_26 rfl (lv_at hl 0 rfl) ?_
    refine lv_dup hx hb dX4_takeBack_27 rfl ?_
    refine gf_X4_19 X rfl hP 0 rfl rfl dX4_takeBack_28 ?_
    refine lv_iload_n hx hb dX4_takeBack_31 rfl (lv_at hl 1 rfl) ?_
    refine lv_isub hx hb dX4_takeBack_32 ?_
    refine pf_X4_19 X rfl hP hD hS 0 rfl (Nat.le_of_ble_eq_true rfl) dX4_takeBack_33 (fun H locs hP hD hS => ?_)
    have hP : va_P g.1 vwCl [oX4 h h_played (v_blocks - (1 : Int32)) (v_names - a1) v_values, aI g h_played 6 v_played] H := hP
    have hD : va_D A [oX4 h h_played (v_blocks - (1 : Int32)) (v_names - a1) v_values, aI g h_played 6 v_played] := hD
    refine lv_aload_n hx hb dX4_takeBack_36 rfl (lv_at hl 0 rfl) ?_
    refine lv_dup hx hb dX4_takeBack_37 rfl ?_
    refine gf_X4_22 X rfl hP 0 rfl rfl dX4_takeBack_38 ?_
    refine lv_iload_n hx hb dX4_takeBack_41 rfl (lv_at hl 1 rfl) ?_
    refine lv_ishr hx hb dX4_takeBack_42 ?_
    refine pf_X4_22 X rfl hP hD hS 0 rfl (Nat.le_of_ble_eq_true rfl) dX4_takeBack_43 (fun H locs hP hD hS => ?_)
    have hP : va_P g.1 vwCl [oX4 h h_played (v_blocks - (1 : Int32)) (v_names - a1) (v_values >>> (a1 &&& 31)), aI g h_played 6 v_played] H := hP
    have hD : va_D A [oX4 h h_played (v_blocks - (1 : Int32)) (v_names - a1) (v_values >>> (a1 &&& 31)), aI g h_played 6 v_played] := hD
    refine lv_aload_n hx hb dX4_takeBack_46 rfl (lv_at hl 0 rfl) ?_
    refine gf_X4_9 X rfl hP 0 rfl rfl dX4_takeBack_47 ?_
    refine lv_aload_n hx hb dX4_takeBack_50 rfl (lv_at hl 0 rfl) ?_
    refine gf_X4_15 X rfl hP 0 rfl rfl dX4_takeBack_51 ?_
    obtain ⟨hi_4, hf⟩ := ifs hf
    refine va_iald (D := g.1) hx hb hG.1 hP 1 1 rfl rfl (ix_in hi_4) dX4_takeBack_54 ?_
    cases hf
    exact ret_i X hAe hP hD hS rfl dX4_takeBack_55
  · have hf := ift hf c_3
    refine lv_iconst (v := (-1)) hx hb dX4_takeBack_14 (by decide) ?_
    cases hf
    exact ret_i X hAe hP hD hS rfl dX4_takeBack_15
def f_X4_valueOf (v_names : Int32) (v_values : Int32) (a1 : Int32) : Option (Int32) :=
  (f_X11_within a1 v_names).bind fun r_1 =>
  if b2i r_1 = 0 then
  some (-1)
  else
  some ((v_values >>> (((v_names - (1 : Int32)) - a1) &&& 31)) &&& (1 : Int32))
set_option maxHeartbeats 4000000 in
set_option maxRecDepth 100000 in
theorem c_X4_valueOf (l : Launch) (g : GT) (h : Nat) (h_played : Nat) (v_blocks : Int32) (v_names : Int32) (v_values : Int32) (a1 : Int32) (r_ : Int32) (hf : f_X4_valueOf v_names v_values a1 = some r_) : Con l g yX4_valueOf cX4_valueOf 2 (some .int) ({ frames := 1, cells := 0, slots := 0, locals := 21 }) [.ref h, .int a1] [oX4 h h_played v_blocks v_names v_values] (some (.int r_)) [oX4 h h_played v_blocks v_names v_values] := by
  refine Con.of (by decide) (Nat.le_of_ble_eq_true rfl) ?_
  intro p e s m below meth c A ls hAe X hP hD hS hl
  obtain ⟨hx, hb, hml, hr, hown, hts, hlk, hnm, hA, hG, hZ⟩ := id X
  have hown : s.vm.findClass RX4 = some m.cls := hown
  have hl : lv_has ls 2 [(0, .ref h), (1, .int a1)] := hl
  unfold f_X4_valueOf at hf
  refine lv_iload_n hx hb dX4_valueOf_0 rfl (lv_at hl 1 rfl) ?_
  refine lv_aload_n hx hb dX4_valueOf_1 rfl (lv_at hl 0 rfl) ?_
  refine gf_X4_19 X rfl hP 0 rfl rfl dX4_valueOf_2 ?_
  obtain ⟨r_1, hf_2, hf⟩ := obind hf
  refine gcSN (rest := []) (wn := [oX4 h h_played v_blocks v_names v_values]) X hP hD hS hl (c_X11_within l g a1 v_names r_1 hf_2) [] rfl rfl rfl [.inl 0] rfl rfl cd_X11_within rfl st_X11_within ml_X4_25 rfl rfl ⟨(Nat.le_of_ble_eq_true rfl), (Nat.le_of_ble_eq_true rfl)⟩ rfl (Nat.le_of_ble_eq_true rfl) dX4_valueOf_5 ⟨(Nat.le_of_ble_eq_true rfl), (Nat.le_of_ble_eq_true rfl)⟩ (fun H locs hP hD hS => ?_)
  refine lv_if_eq (tgt := 29) hx hb dX4_valueOf_8 (by decide) (fun c_3 => ?_) (fun c_3 => ?_)
  · have hf := ift hf c_3
    refine lv_iconst (v := (-1)) hx hb dX4_valueOf_29 (by decide) ?_
    cases hf
    exact ret_i X hAe hP hD hS rfl dX4_valueOf_30
  · have hf := iff_ hf c_3
    refine lv_aload_n hx hb dX4_valueOf_11 rfl (lv_at hl 0 rfl) ?_
    refine gf_X4_22 X rfl hP 0 rfl rfl dX4_valueOf_12 ?_
    refine lv_aload_n hx hb dX4_valueOf_15 rfl (lv_at hl 0 rfl) ?_
    refine gf_X4_19 X rfl hP 0 rfl rfl dX4_valueOf_16 ?_
    refine lv_iconst (v := 1) hx hb dX4_valueOf_19 (by decide) ?_
    refine lv_isub hx hb dX4_valueOf_20 ?_
    refine lv_iload_n hx hb dX4_valueOf_21 rfl (lv_at hl 1 rfl) ?_
    refine lv_isub hx hb dX4_valueOf_22 ?_
    refine lv_ishr hx hb dX4_valueOf_23 ?_
    refine lv_iconst (v := 1) hx hb dX4_valueOf_24 (by decide) ?_
    refine lv_iand hx hb dX4_valueOf_25 ?_
    refine lv_goto (tgt := 30) hx hb dX4_valueOf_26 (by decide) ?_
    cases hf
    exact ret_i X hAe hP hD hS rfl dX4_valueOf_30
def f_X4_valuesWith (v_names : Int32) (v_values : Int32) (a1 : Int32) (a2 : Int32) : Option (Int32) :=
  some ((v_values &&& (((1 : Int32) <<< (((v_names - (1 : Int32)) - a1) &&& 31)) ^^^ (-1 : Int32))) ||| (a2 <<< (((v_names - (1 : Int32)) - a1) &&& 31)))
set_option maxHeartbeats 4000000 in
set_option maxRecDepth 100000 in
theorem c_X4_valuesWith (l : Launch) (g : GT) (h : Nat) (h_played : Nat) (v_blocks : Int32) (v_names : Int32) (v_values : Int32) (a1 : Int32) (a2 : Int32) (r_ : Int32) (hf : f_X4_valuesWith v_names v_values a1 a2 = some r_) : Con l g yX4_valuesWith cX4_valuesWith 4 (some .int) ({ frames := 0, cells := 0, slots := 0, locals := 0 }) [.ref h, .int a1, .int a2] [oX4 h h_played v_blocks v_names v_values] (some (.int r_)) [oX4 h h_played v_blocks v_names v_values] := by
  refine Con.of (by decide) (Nat.le_of_ble_eq_true rfl) ?_
  intro p e s m below meth c A ls hAe X hP hD hS hl
  obtain ⟨hx, hb, hml, hr, hown, hts, hlk, hnm, hA, hG, hZ⟩ := id X
  have hown : s.vm.findClass RX4 = some m.cls := hown
  have hl : lv_has ls 4 [(0, .ref h), (1, .int a1), (2, .int a2)] := hl
  unfold f_X4_valuesWith at hf
  refine lv_aload_n hx hb dX4_valuesWith_0 rfl (lv_at hl 0 rfl) ?_
  refine gf_X4_19 X rfl hP 0 rfl rfl dX4_valuesWith_1 ?_
  refine lv_iconst (v := 1) hx hb dX4_valuesWith_4 (by decide) ?_
  refine lv_isub hx hb dX4_valuesWith_5 ?_
  refine lv_iload_n hx hb dX4_valuesWith_6 rfl (lv_at hl 1 rfl) ?_
  refine lv_isub hx hb dX4_valuesWith_7 ?_
  refine lv_istore_n (lv' := [(3, .int ((v_names - (1 : Int32)) - a1)), (0, .ref h), (1, .int a1), (2, .int a2)]) hx hb dX4_valuesWith_8 rfl hl (by decide) rfl (fun ls hl => ?_)
  refine lv_aload_n hx hb dX4_valuesWith_9 rfl (lv_at hl 1 rfl) ?_
  refine gf_X4_22 X rfl hP 0 rfl rfl dX4_valuesWith_10 ?_
  refine lv_iconst (v := 1) hx hb dX4_valuesWith_13 (by decide) ?_
  refine lv_iload_n hx hb dX4_valuesWith_14 rfl (lv_at hl 0 rfl) ?_
  refine lv_ishl hx hb dX4_valuesWith_15 ?_
  refine lv_iconst (v := (-1)) hx hb dX4_valuesWith_16 (by decide) ?_
  refine lv_ixor hx hb dX4_valuesWith_17 ?_
  refine lv_iand hx hb dX4_valuesWith_18 ?_
  refine lv_iload_n hx hb dX4_valuesWith_19 rfl (lv_at hl 3 rfl) ?_
  refine lv_iload_n hx hb dX4_valuesWith_20 rfl (lv_at hl 0 rfl) ?_
  refine lv_ishl hx hb dX4_valuesWith_21 ?_
  refine lv_ior hx hb dX4_valuesWith_22 ?_
  cases hf
  exact ret_i X hAe hP hD hS rfl dX4_valuesWith_23
def f_X5_add (v_size : Int32) (v_bytes : Nat → Int32) (a1 : Int32) : Option (Int32 × (Nat → Int32)) :=
  (f_X11_within v_size 320).bind fun r_1 =>
  if b2i r_1 = 0 then
  some (v_size, v_bytes)
  else
  (if ix v_size 320 then
  some (v_size + (1 : Int32), upd v_bytes v_size.toNatClampNeg a1)
  else none)
set_option maxHeartbeats 4000000 in
set_option maxRecDepth 100000 in
theorem c_X5_add (l : Launch) (g : GT) (h : Nat) (h_bytes : Nat) (v_size : Int32) (v_bytes : Nat → Int32) (a1 : Int32) (u_size : Int32) (u_bytes : Nat → Int32) (hf : f_X5_add v_size v_bytes a1 = some (u_size, u_bytes)) : Con l g yX5_add cX5_add 2 none ({ frames := 1, cells := 0, slots := 0, locals := 21 }) [.ref h, .int a1] [oX5 h h_bytes v_size, aI g h_bytes 320 v_bytes] none [oX5 h h_bytes u_size, aI g h_bytes 320 u_bytes] := by
  refine Con.of (by decide) (Nat.le_of_ble_eq_true rfl) ?_
  intro p e s m below meth c A ls hAe X hP hD hS hl
  obtain ⟨hx, hb, hml, hr, hown, hts, hlk, hnm, hA, hG, hZ⟩ := id X
  have hown : s.vm.findClass RX5 = some m.cls := hown
  have hl : lv_has ls 2 [(0, .ref h), (1, .int a1)] := hl
  unfold f_X5_add at hf
  refine lv_aload_n hx hb dX5_add_0 rfl (lv_at hl 0 rfl) ?_
  refine gf_X5_25 X rfl hP 0 rfl rfl dX5_add_1 ?_
  refine lv_sipush (v := 320) hx hb dX5_add_4 (by decide) ?_
  obtain ⟨r_1, hf_2, hf⟩ := obind hf
  refine gcSN (rest := []) (wn := [oX5 h h_bytes v_size, aI g h_bytes 320 v_bytes]) X hP hD hS hl (c_X11_within l g v_size 320 r_1 hf_2) [] rfl rfl rfl [.inl 0, .inl 1] rfl rfl cd_X11_within rfl st_X11_within ml_X5_29 rfl rfl ⟨(Nat.le_of_ble_eq_true rfl), (Nat.le_of_ble_eq_true rfl)⟩ rfl (Nat.le_of_ble_eq_true rfl) dX5_add_7 ⟨(Nat.le_of_ble_eq_true rfl), (Nat.le_of_ble_eq_true rfl)⟩ (fun H locs hP hD hS => ?_)
  refine lv_if_eq (tgt := 33) hx hb dX5_add_10 (by decide) (fun c_3 => ?_) (fun c_3 => ?_)
  · have hf := ift hf c_3
    cases hf
    exact ret_v X hAe hP hD hS rfl dX5_add_33
  · have hf := iff_ hf c_3
    refine lv_aload_n hx hb dX5_add_13 rfl (lv_at hl 0 rfl) ?_
    refine gf_X5_11 X rfl hP 0 rfl rfl dX5_add_14 ?_
    refine lv_aload_n hx hb dX5_add_17 rfl (lv_at hl 0 rfl) ?_
    refine gf_X5_25 X rfl hP 0 rfl rfl dX5_add_18 ?_
    refine lv_iload_n hx hb dX5_add_21 rfl (lv_at hl 1 rfl) ?_
    obtain ⟨hi_4, hf⟩ := ifs hf
    refine va_iast (D := g.1) hx hb hG.1 hP hD hS 1 1 rfl rfl (ix_in hi_4) dX5_add_22 (fun H locs hP hD hS => ?_)
    have hP : va_P g.1 vwCl [oX5 h h_bytes v_size, aI g h_bytes 320 (upd v_bytes v_size.toNatClampNeg a1)] H := hP
    have hD : va_D A [oX5 h h_bytes v_size, aI g h_bytes 320 (upd v_bytes v_size.toNatClampNeg a1)] := hD
    refine lv_aload_n hx hb dX5_add_23 rfl (lv_at hl 0 rfl) ?_
    refine lv_dup hx hb dX5_add_24 rfl ?_
    refine gf_X5_25 X rfl hP 0 rfl rfl dX5_add_25 ?_
    refine lv_iconst (v := 1) hx hb dX5_add_28 (by decide) ?_
    refine lv_iadd hx hb dX5_add_29 ?_
    refine pf_X5_25 X rfl hP hD hS 0 rfl (Nat.le_of_ble_eq_true rfl) dX5_add_30 (fun H locs hP hD hS => ?_)
    have hP : va_P g.1 vwCl [oX5 h h_bytes (v_size + (1 : Int32)), aI g h_bytes 320 (upd v_bytes v_size.toNatClampNeg a1)] H := hP
    have hD : va_D A [oX5 h h_bytes (v_size + (1 : Int32)), aI g h_bytes 320 (upd v_bytes v_size.toNatClampNeg a1)] := hD
    cases hf
    exact ret_v X hAe hP hD hS rfl dX5_add_33
def lp_X5_addTimes_2 (y1_2 : Int32) (y2_2 : Int32) : Nat → Int32 → Int32 → (Nat → Int32) → (Int32 → Int32 → (Nat → Int32) → Option (Int32 × (Nat → Int32))) → Option (Int32 × (Nat → Int32))
  | 0, _, _, _, _ => none
  | n_2 + 1, x3_2, v_size_2, v_bytes_2, K_2 =>
    if y2_2 ≤ x3_2 then
    K_2 x3_2 v_size_2 v_bytes_2
    else
    ((f_X5_add v_size_2 v_bytes_2 y1_2).bind fun (v_size_2, v_bytes_3) =>
    lp_X5_addTimes_2 y1_2 y2_2 n_2 (x3_2 + 1) v_size_2 v_bytes_3 K_2)
def f_X5_addTimes (v_size : Int32) (v_bytes : Nat → Int32) (a1 : Int32) (a2 : Int32) : Option (Int32 × (Nat → Int32)) :=
  lp_X5_addTimes_2 a1 a2 5000 0 v_size v_bytes (fun x3_2_5 v_size_2_6 v_bytes_2_7 => 
  some (v_size_2_6, v_bytes_2_7))
set_option maxHeartbeats 4000000 in
set_option maxRecDepth 100000 in
theorem c_X5_addTimes (l : Launch) (g : GT) (h : Nat) (h_bytes : Nat) (v_size : Int32) (v_bytes : Nat → Int32) (a1 : Int32) (a2 : Int32) (u_size : Int32) (u_bytes : Nat → Int32) (hf : f_X5_addTimes v_size v_bytes a1 a2 = some (u_size, u_bytes)) : Con l g yX5_addTimes cX5_addTimes 4 none ({ frames := 2, cells := 0, slots := 0, locals := 42 }) [.ref h, .int a1, .int a2] [oX5 h h_bytes v_size, aI g h_bytes 320 v_bytes] none [oX5 h h_bytes u_size, aI g h_bytes 320 u_bytes] := by
  refine Con.of (by decide) (Nat.le_of_ble_eq_true rfl) ?_
  intro p e s m below meth c A ls hAe X hP hD hS hl
  obtain ⟨hx, hb, hml, hr, hown, hts, hlk, hnm, hA, hG, hZ⟩ := id X
  have hown : s.vm.findClass RX5 = some m.cls := hown
  have hl : lv_has ls 4 [(0, .ref h), (1, .int a1), (2, .int a2)] := hl
  unfold f_X5_addTimes at hf
  refine lv_iconst (v := 0) hx hb dX5_addTimes_0 (by decide) ?_
  refine lv_istore_n (lv' := [(3, .int 0), (0, .ref h), (1, .int a1), (2, .int a2)]) hx hb dX5_addTimes_1 rfl hl (by decide) rfl (fun ls hl => ?_)
  have L_2 : ∀ (n : Nat) (x3_2 : Int32) (v_size_2 : Int32) (v_bytes_2 : Nat → Int32) (H : Heap) (locs : List Loc) (ls : Array Slot) (K_2 : Int32 → Int32 → (Nat → Int32) → Option (Int32 × (Nat → Int32))), va_P g.1 vwCl [oX5 h h_bytes v_size_2, aI g h_bytes 320 v_bytes_2] H → va_D A [oX5 h h_bytes v_size_2, aI g h_bytes 320 v_bytes_2] → va_S A s.heap H locs → lv_has ls 4 [(0, .ref h), (1, .int a1), (2, .int a2), (3, .int x3_2)] → (∀ (z_x3_2 : Int32) (z_v_size_2 : Int32) (z_v_bytes_2 : Nat → Int32) (H : Heap) (locs : List Loc) (ls : Array Slot), va_P g.1 vwCl [oX5 h h_bytes z_v_size_2, aI g h_bytes 320 z_v_bytes_2] H → va_D A [oX5 h h_bytes z_v_size_2, aI g h_bytes 320 z_v_bytes_2] → va_S A s.heap H locs → lv_has ls 4 [(0, .ref h), (1, .int a1), (2, .int a2), (3, .int z_x3_2)] → K_2 z_x3_2 z_v_size_2 z_v_bytes_2 = some (u_size, u_bytes) → W p l e ({ frames := 2, cells := 0, slots := 0, locals := 42 }) s m [.ref h, .int a1, .int a2].toArray below meth c H locs 0 0 (MQ below (fun _ => QW g [oX5 h h_bytes v_size, aI g h_bytes 320 v_bytes] s.heap.size none [oX5 h h_bytes u_size, aI g h_bytes 320 u_bytes]) [.ref h, .int a1, .int a2].toArray s 0 0 (va_A [oX5 h h_bytes v_size, aI g h_bytes 320 v_bytes] s.heap.size)) (F0 m 18 ls [])) → lp_X5_addTimes_2 a1 a2 n x3_2 v_size_2 v_bytes_2 K_2 = some (u_size, u_bytes) → W p l e ({ frames := 2, cells := 0, slots := 0, locals := 42 }) s m [.ref h, .int a1, .int a2].toArray below meth c H locs 0 0 (MQ below (fun _ => QW g [oX5 h h_bytes v_size, aI g h_bytes 320 v_bytes] s.heap.size none [oX5 h h_bytes u_size, aI g h_bytes 320 u_bytes]) [.ref h, .int a1, .int a2].toArray s 0 0 (va_A [oX5 h h_bytes v_size, aI g h_bytes 320 v_bytes] s.heap.size)) (F0 m 2 ls []) := by
    intro n
    induction n with
    | zero =>
      intro x3_2 v_size_2 v_bytes_2 H locs ls K_2 hP hD hS hl hk hf
      have hf : (none : Option (Int32 × (Nat → Int32))) = some _ := hf
      cases hf
    | succ n_2 ih_2 =>
      intro x3_2 v_size_2 v_bytes_2 H locs ls K_2 hP hD hS hl hk_2 hf
      refine lv_iload_n hx hb dX5_addTimes_2 rfl (lv_at hl 3 rfl) ?_
      refine lv_iload_n hx hb dX5_addTimes_3 rfl (lv_at hl 2 rfl) ?_
      refine lv_icmp_ge (tgt := 18) hx hb dX5_addTimes_4 (by decide) (fun c_8 => ?_) (fun c_8 => ?_)
      · have hf := ift hf c_8
        exact hk_2 x3_2 v_size_2 v_bytes_2 H locs ls hP hD hS (lv_sub hl [0, 1, 2, 3] rfl) hf
      · have hf := iff_ hf c_8
        refine lv_aload_n hx hb dX5_addTimes_7 rfl (lv_at hl 0 rfl) ?_
        refine lv_iload_n hx hb dX5_addTimes_8 rfl (lv_at hl 1 rfl) ?_
        obtain ⟨⟨v_size_9, v_bytes_10⟩, hf_11, hf⟩ := obind hf
        refine gcV (rest := []) (wn := [oX5 h h_bytes v_size_9, aI g h_bytes 320 v_bytes_10]) X hP hD hS hl (c_X5_add l g h h_bytes v_size_2 v_bytes_2 a1 v_size_9 v_bytes_10 hf_11) [0, 1] rfl rfl rfl [.inr 0, .inr 1] rfl rfl cd_X5_add rfl im_X5_add se_X5_add ml_X5_15 0 rfl rfl rfl rfl rfl ⟨(Nat.le_of_ble_eq_true rfl), (Nat.le_of_ble_eq_true rfl)⟩ rfl (Nat.le_of_ble_eq_true rfl) dX5_addTimes_9 ⟨(Nat.le_of_ble_eq_true rfl), (Nat.le_of_ble_eq_true rfl)⟩ (fun H locs hP hD hS => ?_)
        refine lv_iinc (v := x3_2 + 1) (lv' := [(3, .int (x3_2 + 1)), (0, .ref h), (1, .int a1), (2, .int a2)]) hx hb dX5_addTimes_12 hl (k := 3) rfl rfl (by decide) rfl (fun ls hl => ?_)
        refine lv_goto (tgt := 2) hx hb dX5_addTimes_15 (by decide) ?_
        exact ih_2 (x3_2 + 1) v_size_9 v_bytes_10 H locs ls K_2 hP hD hS (lv_sub hl [1, 2, 3, 0] rfl) hk_2 hf
  refine L_2 _ _ _ _ _ _ ls _ hP hD hS (lv_sub hl [1, 2, 3, 0] rfl) (fun x3_2_5 v_size_2_6 v_bytes_2_7 H locs ls hP hD hS hl hf => ?_) hf
  cases hf
  exact ret_v X hAe hP hD hS rfl dX5_addTimes_18
def f_X5_addSymbol (v_size : Int32) (v_p2_names : Int32) (v_p2_nameCodes : Nat → Int32) (v_bytes : Nat → Int32) (a1 : Int32) : Option (Int32 × (Nat → Int32)) :=
  if 256 ≤ a1 then
  ((f_X0_codeOf v_p2_names v_p2_nameCodes (a1 - (256 : Int32))).bind fun r_2 =>
  (f_X5_add v_size v_bytes (r_2 &&& (255 : Int32))).bind fun (v_size_4, v_bytes_5) =>
  if r_2 ≤ 255 then
  some (v_size_4, v_bytes_5)
  else
  ((f_X5_add v_size_4 v_bytes_5 (((48 : Int32) + (r_2 >>> ((8 : Int32) &&& 31))) - (1 : Int32))).bind fun (v_size_8, v_bytes_9) =>
  some (v_size_8, v_bytes_9)))
  else
  ((f_X5_add v_size v_bytes a1).bind fun (v_size_11, v_bytes_12) =>
  some (v_size_11, v_bytes_12))
set_option maxHeartbeats 4000000 in
set_option maxRecDepth 100000 in
theorem c_X5_addSymbol (l : Launch) (g : GT) (h : Nat) (h_bytes : Nat) (v_size : Int32) (h_p2 : Nat) (h_p2_owners : Nat) (h_p2_sizes : Nat) (h_p2_nameCodes : Nat) (h_p2_nameBlocks : Nat) (v_p2_words : Int32) (v_p2_count : Int32) (v_p2_names : Int32) (v_p2_nameCodes : Nat → Int32) (v_bytes : Nat → Int32) (a1 : Int32) (u_size : Int32) (u_bytes : Nat → Int32) (hf : f_X5_addSymbol v_size v_p2_names v_p2_nameCodes v_bytes a1 = some (u_size, u_bytes)) : Con l g yX5_addSymbol cX5_addSymbol 4 none ({ frames := 2, cells := 0, slots := 0, locals := 42 }) [.ref h, .int a1, .ref h_p2] [oX5 h h_bytes v_size, oX0 h_p2 h_p2_owners h_p2_sizes h_p2_nameCodes h_p2_nameBlocks v_p2_words v_p2_count v_p2_names, aI g h_p2_nameCodes 10 v_p2_nameCodes, aI g h_bytes 320 v_bytes] none [oX5 h h_bytes u_size, oX0 h_p2 h_p2_owners h_p2_sizes h_p2_nameCodes h_p2_nameBlocks v_p2_words v_p2_count v_p2_names, aI g h_p2_nameCodes 10 v_p2_nameCodes, aI g h_bytes 320 u_bytes] := by
  refine Con.of (by decide) (Nat.le_of_ble_eq_true rfl) ?_
  intro p e s m below meth c A ls hAe X hP hD hS hl
  obtain ⟨hx, hb, hml, hr, hown, hts, hlk, hnm, hA, hG, hZ⟩ := id X
  have hown : s.vm.findClass RX5 = some m.cls := hown
  have hl : lv_has ls 4 [(0, .ref h), (1, .int a1), (2, .ref h_p2)] := hl
  unfold f_X5_addSymbol at hf
  refine lv_iload_n hx hb dX5_addSymbol_0 rfl (lv_at hl 1 rfl) ?_
  refine lv_sipush (v := 256) hx hb dX5_addSymbol_1 (by decide) ?_
  refine lv_icmp_ge (tgt := 13) hx hb dX5_addSymbol_4 (by decide) (fun c_1 => ?_) (fun c_1 => ?_)
  · have hf := ift hf c_1
    refine lv_aload_n hx hb dX5_addSymbol_13 rfl (lv_at hl 2 rfl) ?_
    refine lv_iload_n hx hb dX5_addSymbol_14 rfl (lv_at hl 1 rfl) ?_
    refine lv_sipush (v := 256) hx hb dX5_addSymbol_15 (by decide) ?_
    refine lv_isub hx hb dX5_addSymbol_18 ?_
    obtain ⟨r_2, hf_3, hf⟩ := obind hf
    refine gcV (rest := []) (wn := [oX5 h h_bytes v_size, oX0 h_p2 h_p2_owners h_p2_sizes h_p2_nameCodes h_p2_nameBlocks v_p2_words v_p2_count v_p2_names, aI g h_p2_nameCodes 10 v_p2_nameCodes, aI g h_bytes 320 v_bytes]) X hP hD hS hl (c_X0_codeOf l g h_p2 h_p2_owners h_p2_sizes h_p2_nameCodes h_p2_nameBlocks v_p2_words v_p2_count v_p2_names v_p2_nameCodes (a1 - (256 : Int32)) r_2 hf_3) [1, 2] rfl rfl rfl [.inl 0, .inr 0, .inr 1, .inl 3] rfl rfl cd_X0_codeOf rfl im_X0_codeOf se_X0_codeOf ml_X5_19 1 rfl rfl rfl rfl rfl ⟨(Nat.le_of_ble_eq_true rfl), (Nat.le_of_ble_eq_true rfl)⟩ rfl (Nat.le_of_ble_eq_true rfl) dX5_addSymbol_19 ⟨(Nat.le_of_ble_eq_true rfl), (Nat.le_of_ble_eq_true rfl)⟩ (fun H locs hP hD hS => ?_)
    refine lv_istore_n (lv' := [(3, .int r_2), (0, .ref h), (1, .int a1), (2, .ref h_p2)]) hx hb dX5_addSymbol_22 rfl hl (by decide) rfl (fun ls hl => ?_)
    refine lv_aload_n hx hb dX5_addSymbol_23 rfl (lv_at hl 1 rfl) ?_
    refine lv_iload_n hx hb dX5_addSymbol_24 rfl (lv_at hl 0 rfl) ?_
    refine lv_sipush (v := 255) hx hb dX5_addSymbol_25 (by decide) ?_
    refine lv_iand hx hb dX5_addSymbol_28 ?_
    obtain ⟨⟨v_size_4, v_bytes_5⟩, hf_6, hf⟩ := obind hf
    refine gcV (rest := []) (wn := [oX5 h h_bytes v_size_4, oX0 h_p2 h_p2_owners h_p2_sizes h_p2_nameCodes h_p2_nameBlocks v_p2_words v_p2_count v_p2_names, aI g h_p2_nameCodes 10 v_p2_nameCodes, aI g h_bytes 320 v_bytes_5]) X hP hD hS hl (c_X5_add l g h h_bytes v_size v_bytes (r_2 &&& (255 : Int32)) v_size_4 v_bytes_5 hf_6) [0, 3] rfl rfl rfl [.inr 0, .inl 1, .inl 2, .inr 1] rfl rfl cd_X5_add rfl im_X5_add se_X5_add ml_X5_15 0 rfl rfl rfl rfl rfl ⟨(Nat.le_of_ble_eq_true rfl), (Nat.le_of_ble_eq_true rfl)⟩ rfl (Nat.le_of_ble_eq_true rfl) dX5_addSymbol_29 ⟨(Nat.le_of_ble_eq_true rfl), (Nat.le_of_ble_eq_true rfl)⟩ (fun H locs hP hD hS => ?_)
    refine lv_iload_n hx hb dX5_addSymbol_32 rfl (lv_at hl 0 rfl) ?_
    refine lv_sipush (v := 255) hx hb dX5_addSymbol_33 (by decide) ?_
    refine lv_icmp_le (tgt := 52) hx hb dX5_addSymbol_36 (by decide) (fun c_7 => ?_) (fun c_7 => ?_)
    · have hf := ift hf c_7
      cases hf
      exact ret_v X hAe hP hD hS rfl dX5_addSymbol_52
    · have hf := iff_ hf c_7
      refine lv_aload_n hx hb dX5_addSymbol_39 rfl (lv_at hl 1 rfl) ?_
      refine lv_bipush (v := 48) hx hb dX5_addSymbol_40 (by decide) ?_
      refine lv_iload_n hx hb dX5_addSymbol_42 rfl (lv_at hl 0 rfl) ?_
      refine lv_bipush (v := 8) hx hb dX5_addSymbol_43 (by decide) ?_
      refine lv_ishr hx hb dX5_addSymbol_45 ?_
      refine lv_iadd hx hb dX5_addSymbol_46 ?_
      refine lv_iconst (v := 1) hx hb dX5_addSymbol_47 (by decide) ?_
      refine lv_isub hx hb dX5_addSymbol_48 ?_
      obtain ⟨⟨v_size_8, v_bytes_9⟩, hf_10, hf⟩ := obind hf
      refine gcV (rest := []) (wn := [oX5 h h_bytes v_size_8, oX0 h_p2 h_p2_owners h_p2_sizes h_p2_nameCodes h_p2_nameBlocks v_p2_words v_p2_count v_p2_names, aI g h_p2_nameCodes 10 v_p2_nameCodes, aI g h_bytes 320 v_bytes_9]) X hP hD hS hl (c_X5_add l g h h_bytes v_size_4 v_bytes_5 (((48 : Int32) + (r_2 >>> ((8 : Int32) &&& 31))) - (1 : Int32)) v_size_8 v_bytes_9 hf_10) [0, 3] rfl rfl rfl [.inr 0, .inl 1, .inl 2, .inr 1] rfl rfl cd_X5_add rfl im_X5_add se_X5_add ml_X5_15 0 rfl rfl rfl rfl rfl ⟨(Nat.le_of_ble_eq_true rfl), (Nat.le_of_ble_eq_true rfl)⟩ rfl (Nat.le_of_ble_eq_true rfl) dX5_addSymbol_49 ⟨(Nat.le_of_ble_eq_true rfl), (Nat.le_of_ble_eq_true rfl)⟩ (fun H locs hP hD hS => ?_)
      cases hf
      exact ret_v X hAe hP hD hS rfl dX5_addSymbol_52
  · have hf := iff_ hf c_1
    refine lv_aload_n hx hb dX5_addSymbol_7 rfl (lv_at hl 0 rfl) ?_
    refine lv_iload_n hx hb dX5_addSymbol_8 rfl (lv_at hl 1 rfl) ?_
    obtain ⟨⟨v_size_11, v_bytes_12⟩, hf_13, hf⟩ := obind hf
    refine gcV (rest := []) (wn := [oX5 h h_bytes v_size_11, oX0 h_p2 h_p2_owners h_p2_sizes h_p2_nameCodes h_p2_nameBlocks v_p2_words v_p2_count v_p2_names, aI g h_p2_nameCodes 10 v_p2_nameCodes, aI g h_bytes 320 v_bytes_12]) X hP hD hS hl (c_X5_add l g h h_bytes v_size v_bytes a1 v_size_11 v_bytes_12 hf_13) [0, 3] rfl rfl rfl [.inr 0, .inl 1, .inl 2, .inr 1] rfl rfl cd_X5_add rfl im_X5_add se_X5_add ml_X5_15 0 rfl rfl rfl rfl rfl ⟨(Nat.le_of_ble_eq_true rfl), (Nat.le_of_ble_eq_true rfl)⟩ rfl (Nat.le_of_ble_eq_true rfl) dX5_addSymbol_9 ⟨(Nat.le_of_ble_eq_true rfl), (Nat.le_of_ble_eq_true rfl)⟩ (fun H locs hP hD hS => ?_)
    cases hf
    exact ret_v X hAe hP hD hS rfl dX5_addSymbol_12
def f_X5_byteAt (v_size : Int32) (v_bytes : Nat → Int32) (a1 : Int32) : Option (Int32) :=
  (f_X11_within a1 v_size).bind fun r_1 =>
  if b2i r_1 = 0 then
  some (-1)
  else
  (if 320 ≤ a1 then
  some (-1)
  else
  (if ix a1 320 then
  some (v_bytes a1.toNatClampNeg)
  else none))
set_option maxHeartbeats 4000000 in
set_option maxRecDepth 100000 in
theorem c_X5_byteAt (l : Launch) (g : GT) (h : Nat) (h_bytes : Nat) (v_size : Int32) (v_bytes : Nat → Int32) (a1 : Int32) (r_ : Int32) (hf : f_X5_byteAt v_size v_bytes a1 = some r_) : Con l g yX5_byteAt cX5_byteAt 2 (some .int) ({ frames := 1, cells := 0, slots := 0, locals := 21 }) [.ref h, .int a1] [oX5 h h_bytes v_size, aI g h_bytes 320 v_bytes] (some (.int r_)) [oX5 h h_bytes v_size, aI g h_bytes 320 v_bytes] := by
  refine Con.of (by decide) (Nat.le_of_ble_eq_true rfl) ?_
  intro p e s m below meth c A ls hAe X hP hD hS hl
  obtain ⟨hx, hb, hml, hr, hown, hts, hlk, hnm, hA, hG, hZ⟩ := id X
  have hown : s.vm.findClass RX5 = some m.cls := hown
  have hl : lv_has ls 2 [(0, .ref h), (1, .int a1)] := hl
  unfold f_X5_byteAt at hf
  refine lv_iload_n hx hb dX5_byteAt_0 rfl (lv_at hl 1 rfl) ?_
  refine lv_aload_n hx hb dX5_byteAt_1 rfl (lv_at hl 0 rfl) ?_
  refine gf_X5_25 X rfl hP 0 rfl rfl dX5_byteAt_2 ?_
  obtain ⟨r_1, hf_2, hf⟩ := obind hf
  refine gcSN (rest := []) (wn := [oX5 h h_bytes v_size, aI g h_bytes 320 v_bytes]) X hP hD hS hl (c_X11_within l g a1 v_size r_1 hf_2) [] rfl rfl rfl [.inl 0, .inl 1] rfl rfl cd_X11_within rfl st_X11_within ml_X5_29 rfl rfl ⟨(Nat.le_of_ble_eq_true rfl), (Nat.le_of_ble_eq_true rfl)⟩ rfl (Nat.le_of_ble_eq_true rfl) dX5_byteAt_5 ⟨(Nat.le_of_ble_eq_true rfl), (Nat.le_of_ble_eq_true rfl)⟩ (fun H locs hP hD hS => ?_)
  refine lv_if_eq (tgt := 27) hx hb dX5_byteAt_8 (by decide) (fun c_3 => ?_) (fun c_3 => ?_)
  · have hf := ift hf c_3
    refine lv_iconst (v := (-1)) hx hb dX5_byteAt_27 (by decide) ?_
    cases hf
    exact ret_i X hAe hP hD hS rfl dX5_byteAt_28
  · have hf := iff_ hf c_3
    refine lv_iload_n hx hb dX5_byteAt_11 rfl (lv_at hl 1 rfl) ?_
    refine lv_sipush (v := 320) hx hb dX5_byteAt_12 (by decide) ?_
    refine lv_icmp_ge (tgt := 27) hx hb dX5_byteAt_15 (by decide) (fun c_4 => ?_) (fun c_4 => ?_)
    · have hf := ift hf c_4
      refine lv_iconst (v := (-1)) hx hb dX5_byteAt_27 (by decide) ?_
      cases hf
      exact ret_i X hAe hP hD hS rfl dX5_byteAt_28
    · have hf := iff_ hf c_4
      refine lv_aload_n hx hb dX5_byteAt_18 rfl (lv_at hl 0 rfl) ?_
      refine gf_X5_11 X rfl hP 0 rfl rfl dX5_byteAt_19 ?_
      refine lv_iload_n hx hb dX5_byteAt_22 rfl (lv_at hl 1 rfl) ?_
      obtain ⟨hi_5, hf⟩ := ifs hf
      refine va_iald (D := g.1) hx hb hG.1 hP 1 1 rfl rfl (ix_in hi_5) dX5_byteAt_23 ?_
      refine lv_goto (tgt := 28) hx hb dX5_byteAt_24 (by decide) ?_
      cases hf
      exact ret_i X hAe hP hD hS rfl dX5_byteAt_28
