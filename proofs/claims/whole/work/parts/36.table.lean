def f_X9_valuesOfName (a1 : Int32) (a2 : Int32) : Option (Int64) :=
  if a1 < 6 then
  (if a1 < 0 then
  some 0
  else
  (if ix a1 6 then
  some (pattL.getD a1.toNatClampNeg 0)
  else none))
  else
  (if (a2 >>> ((a1 - (6 : Int32)) &&& 31)) &&& (1 : Int32) = 1 then
  some (-1)
  else
  some 0)
set_option maxHeartbeats 4000000 in
set_option maxRecDepth 100000 in
theorem c_X9_valuesOfName (l : Launch) (g : GT) (a1 : Int32) (a2 : Int32) (r_ : Int64) (hf : f_X9_valuesOfName a1 a2 = some r_) : Con l g yX9_valuesOfName cX9_valuesOfName 2 (some .long) ({ frames := 0, cells := 0, slots := 0, locals := 0 }) [.int a1, .int a2] [] (some (.long r_)) [] := by
  refine Con.of (by decide) (Nat.le_of_ble_eq_true rfl) ?_
  intro p e s m below meth c A ls hAe X hP hD hS hl
  obtain ⟨hx, hb, hml, hr, hown, hts, hlk, hnm, hA, hG, hZ⟩ := id X
  have hown : s.vm.findClass RX9 = some m.cls := hown
  have hl : lv_has ls 2 [(0, .int a1), (1, .int a2)] := hl
  unfold f_X9_valuesOfName at hf
  refine lv_iload_n hx hb dX9_valuesOfName_0 rfl (lv_at hl 0 rfl) ?_
  refine lv_bipush (v := 6) hx hb dX9_valuesOfName_1 (by decide) ?_
  refine lv_icmp_lt (tgt := 26) hx hb dX9_valuesOfName_3 (by decide) (fun c_1 => ?_) (fun c_1 => ?_)
  · have hf := ift hf c_1
    refine lv_iload_n hx hb dX9_valuesOfName_26 rfl (lv_at hl 0 rfl) ?_
    refine lv_if_lt (tgt := 38) hx hb dX9_valuesOfName_27 (by decide) (fun c_2 => ?_) (fun c_2 => ?_)
    · have hf := ift hf c_2
      refine lv_lconst (v := 0) hx hb dX9_valuesOfName_38 (by decide) ?_
      cases hf
      exact ret_l X hAe hP hD hS rfl dX9_valuesOfName_39
    · have hf := iff_ hf c_2
      refine va_gets hx hb hZ.1 hS hown (hts _ fl_X9_60) (fun _ h9 => h9) dX9_valuesOfName_30 ?_
      refine lv_iload_n hx hb dX9_valuesOfName_33 rfl (lv_at hl 0 rfl) ?_
      obtain ⟨hi_3, hf⟩ := ifs hf
      refine va_tl hx hb hZ.2.1 hS (ix_in hi_3) (v := .long (pattL.getD a1.toNatClampNeg 0)) rfl dX9_valuesOfName_34 ?_
      refine lv_goto (tgt := 39) hx hb dX9_valuesOfName_35 (by decide) ?_
      cases hf
      exact ret_l X hAe hP hD hS rfl dX9_valuesOfName_39
  · have hf := iff_ hf c_1
    refine lv_iload_n hx hb dX9_valuesOfName_6 rfl (lv_at hl 1 rfl) ?_
    refine lv_iload_n hx hb dX9_valuesOfName_7 rfl (lv_at hl 0 rfl) ?_
    refine lv_bipush (v := 6) hx hb dX9_valuesOfName_8 (by decide) ?_
    refine lv_isub hx hb dX9_valuesOfName_10 ?_
    refine lv_ishr hx hb dX9_valuesOfName_11 ?_
    refine lv_iconst (v := 1) hx hb dX9_valuesOfName_12 (by decide) ?_
    refine lv_iand hx hb dX9_valuesOfName_13 ?_
    refine lv_iconst (v := 1) hx hb dX9_valuesOfName_14 (by decide) ?_
    refine lv_icmp_ne (tgt := 24) hx hb dX9_valuesOfName_15 (by decide) (fun c_4 => ?_) (fun c_4 => ?_)
    · have hf := iff_ hf c_4
      refine lv_lconst (v := 0) hx hb dX9_valuesOfName_24 (by decide) ?_
      cases hf
      exact ret_l X hAe hP hD hS rfl dX9_valuesOfName_25
    · have hf := ift hf c_4
      refine lv_ldc2 hx hb hown (hts _ kl_X9_50) dX9_valuesOfName_18 ?_
      refine lv_goto (tgt := 25) hx hb dX9_valuesOfName_21 (by decide) ?_
      cases hf
      exact ret_l X hAe hP hD hS rfl dX9_valuesOfName_25
def f_X9_push (v_depth : Int32) (v_stack : Nat → Int64) (a1 : Int64) : Option (Int32 × (Nat → Int64)) :=
  (f_X11_within v_depth 160).bind fun r_1 =>
  if b2i r_1 = 0 then
  some (v_depth, v_stack)
  else
  (if ix v_depth 160 then
  some (v_depth + (1 : Int32), vp_updL v_stack v_depth.toNatClampNeg a1)
  else none)
set_option maxHeartbeats 4000000 in
set_option maxRecDepth 100000 in
theorem c_X9_push (l : Launch) (g : GT) (h : Nat) (h_words : Nat) (h_stack : Nat) (v_depth : Int32) (v_stack : Nat → Int64) (a1 : Int64) (u_depth : Int32) (u_stack : Nat → Int64) (hf : f_X9_push v_depth v_stack a1 = some (u_depth, u_stack)) : Con l g yX9_push cX9_push 3 none ({ frames := 1, cells := 0, slots := 0, locals := 21 }) [.ref h, .long a1] [oX9 h h_words h_stack v_depth, aJ g h_stack 160 v_stack] none [oX9 h h_words h_stack u_depth, aJ g h_stack 160 u_stack] := by
  refine Con.of (by decide) (Nat.le_of_ble_eq_true rfl) ?_
  intro p e s m below meth c A ls hAe X hP hD hS hl
  obtain ⟨hx, hb, hml, hr, hown, hts, hlk, hnm, hA, hG, hZ⟩ := id X
  have hown : s.vm.findClass RX9 = some m.cls := hown
  have hl : lv_has ls 3 [(0, .ref h), (1, .long a1)] := hl
  unfold f_X9_push at hf
  refine lv_aload_n hx hb dX9_push_0 rfl (lv_at hl 0 rfl) ?_
  refine gf_X9_30 X rfl hP 0 rfl rfl dX9_push_1 ?_
  refine lv_sipush (v := 160) hx hb dX9_push_4 (by decide) ?_
  obtain ⟨r_1, hf_2, hf⟩ := obind hf
  refine gcSN (rest := []) (wn := [oX9 h h_words h_stack v_depth, aJ g h_stack 160 v_stack]) X hP hD hS hl (c_X11_within l g v_depth 160 r_1 hf_2) [] rfl rfl rfl [.inl 0, .inl 1] rfl rfl cd_X11_within rfl st_X11_within ml_X9_26 rfl rfl ⟨(Nat.le_of_ble_eq_true rfl), (Nat.le_of_ble_eq_true rfl)⟩ rfl (Nat.le_of_ble_eq_true rfl) dX9_push_7 ⟨(Nat.le_of_ble_eq_true rfl), (Nat.le_of_ble_eq_true rfl)⟩ (fun H locs hP hD hS => ?_)
  refine lv_if_eq (tgt := 33) hx hb dX9_push_10 (by decide) (fun c_3 => ?_) (fun c_3 => ?_)
  · have hf := ift hf c_3
    cases hf
    exact ret_v X hAe hP hD hS rfl dX9_push_33
  · have hf := iff_ hf c_3
    refine lv_aload_n hx hb dX9_push_13 rfl (lv_at hl 0 rfl) ?_
    refine gf_X9_15 X rfl hP 0 rfl rfl dX9_push_14 ?_
    refine lv_aload_n hx hb dX9_push_17 rfl (lv_at hl 0 rfl) ?_
    refine gf_X9_30 X rfl hP 0 rfl rfl dX9_push_18 ?_
    refine lv_lload_n hx hb dX9_push_21 rfl (lv_at hl 1 rfl) ?_
    obtain ⟨hi_4, hf⟩ := ifs hf
    refine va_last (D := g.1) hx hb hG.1 hP hD hS 1 2 rfl rfl (ix_in hi_4) dX9_push_22 (fun H locs hP hD hS => ?_)
    have hP : va_P g.1 vwCl [oX9 h h_words h_stack v_depth, aJ g h_stack 160 (vp_updL v_stack v_depth.toNatClampNeg a1)] H := hP
    have hD : va_D A [oX9 h h_words h_stack v_depth, aJ g h_stack 160 (vp_updL v_stack v_depth.toNatClampNeg a1)] := hD
    refine lv_aload_n hx hb dX9_push_23 rfl (lv_at hl 0 rfl) ?_
    refine lv_dup hx hb dX9_push_24 rfl ?_
    refine gf_X9_30 X rfl hP 0 rfl rfl dX9_push_25 ?_
    refine lv_iconst (v := 1) hx hb dX9_push_28 (by decide) ?_
    refine lv_iadd hx hb dX9_push_29 ?_
    refine pf_X9_30 X rfl hP hD hS 0 rfl (Nat.le_of_ble_eq_true rfl) dX9_push_30 (fun H locs hP hD hS => ?_)
    have hP : va_P g.1 vwCl [oX9 h h_words h_stack (v_depth + (1 : Int32)), aJ g h_stack 160 (vp_updL v_stack v_depth.toNatClampNeg a1)] H := hP
    have hD : va_D A [oX9 h h_words h_stack (v_depth + (1 : Int32)), aJ g h_stack 160 (vp_updL v_stack v_depth.toNatClampNeg a1)] := hD
    cases hf
    exact ret_v X hAe hP hD hS rfl dX9_push_33
def f_X9_pop (v_depth : Int32) (v_stack : Nat → Int64) : Option (Int64 × Int32) :=
  (f_X11_within (v_depth - (1 : Int32)) 160).bind fun r_1 =>
  if b2i r_1 = 0 then
  some (0, v_depth)
  else
  (if ix (v_depth - (1 : Int32)) 160 then
  some (v_stack (v_depth - (1 : Int32)).toNatClampNeg, v_depth - (1 : Int32))
  else none)
set_option maxHeartbeats 4000000 in
set_option maxRecDepth 100000 in
theorem c_X9_pop (l : Launch) (g : GT) (h : Nat) (h_words : Nat) (h_stack : Nat) (v_depth : Int32) (v_stack : Nat → Int64) (r_ : Int64) (u_depth : Int32) (hf : f_X9_pop v_depth v_stack = some (r_, u_depth)) : Con l g yX9_pop cX9_pop 1 (some .long) ({ frames := 1, cells := 0, slots := 0, locals := 21 }) [.ref h] [oX9 h h_words h_stack v_depth, aJ g h_stack 160 v_stack] (some (.long r_)) [oX9 h h_words h_stack u_depth, aJ g h_stack 160 v_stack] := by
  refine Con.of (by decide) (Nat.le_of_ble_eq_true rfl) ?_
  intro p e s m below meth c A ls hAe X hP hD hS hl
  obtain ⟨hx, hb, hml, hr, hown, hts, hlk, hnm, hA, hG, hZ⟩ := id X
  have hown : s.vm.findClass RX9 = some m.cls := hown
  have hl : lv_has ls 1 [(0, .ref h)] := hl
  unfold f_X9_pop at hf
  refine lv_aload_n hx hb dX9_pop_0 rfl (lv_at hl 0 rfl) ?_
  refine gf_X9_30 X rfl hP 0 rfl rfl dX9_pop_1 ?_
  refine lv_iconst (v := 1) hx hb dX9_pop_4 (by decide) ?_
  refine lv_isub hx hb dX9_pop_5 ?_
  refine lv_sipush (v := 160) hx hb dX9_pop_6 (by decide) ?_
  obtain ⟨r_1, hf_2, hf⟩ := obind hf
  refine gcSN (rest := []) (wn := [oX9 h h_words h_stack v_depth, aJ g h_stack 160 v_stack]) X hP hD hS hl (c_X11_within l g (v_depth - (1 : Int32)) 160 r_1 hf_2) [] rfl rfl rfl [.inl 0, .inl 1] rfl rfl cd_X11_within rfl st_X11_within ml_X9_26 rfl rfl ⟨(Nat.le_of_ble_eq_true rfl), (Nat.le_of_ble_eq_true rfl)⟩ rfl (Nat.le_of_ble_eq_true rfl) dX9_pop_9 ⟨(Nat.le_of_ble_eq_true rfl), (Nat.le_of_ble_eq_true rfl)⟩ (fun H locs hP hD hS => ?_)
  refine lv_if_ne (tgt := 17) hx hb dX9_pop_12 (by decide) (fun c_3 => ?_) (fun c_3 => ?_)
  · have hf := iff_ hf c_3
    refine lv_aload_n hx hb dX9_pop_17 rfl (lv_at hl 0 rfl) ?_
    refine lv_dup hx hb dX9_pop_18 rfl ?_
    refine gf_X9_30 X rfl hP 0 rfl rfl dX9_pop_19 ?_
    refine lv_iconst (v := 1) hx hb dX9_pop_22 (by decide) ?_
    refine lv_isub hx hb dX9_pop_23 ?_
    refine pf_X9_30 X rfl hP hD hS 0 rfl (Nat.le_of_ble_eq_true rfl) dX9_pop_24 (fun H locs hP hD hS => ?_)
    have hP : va_P g.1 vwCl [oX9 h h_words h_stack (v_depth - (1 : Int32)), aJ g h_stack 160 v_stack] H := hP
    have hD : va_D A [oX9 h h_words h_stack (v_depth - (1 : Int32)), aJ g h_stack 160 v_stack] := hD
    refine lv_aload_n hx hb dX9_pop_27 rfl (lv_at hl 0 rfl) ?_
    refine gf_X9_15 X rfl hP 0 rfl rfl dX9_pop_28 ?_
    refine lv_aload_n hx hb dX9_pop_31 rfl (lv_at hl 0 rfl) ?_
    refine gf_X9_30 X rfl hP 0 rfl rfl dX9_pop_32 ?_
    obtain ⟨hi_4, hf⟩ := ifs hf
    refine va_lald (D := g.1) hx hb hG.1 hP 1 2 rfl rfl (ix_in hi_4) dX9_pop_35 ?_
    cases hf
    exact ret_l X hAe hP hD hS rfl dX9_pop_36
  · have hf := ift hf c_3
    refine lv_lconst (v := 0) hx hb dX9_pop_15 (by decide) ?_
    cases hf
    exact ret_l X hAe hP hD hS rfl dX9_pop_16
def f_X9_combine (a1 : Int32) (a2 : Int64) (a3 : Int64) : Option (Int64) :=
  if a1 = 38 then
  some (a2 &&& a3)
  else
  (if a1 = 62 then
  some ((a2 ^^^ (-1 : Int64)) ||| a3)
  else
  (if a1 = 94 then
  some (a2 ^^^ a3)
  else
  (if a1 = 124 then
  some (a2 ||| a3)
  else
  some ((a2 ^^^ a3) ^^^ (-1 : Int64)))))
set_option maxHeartbeats 4000000 in
set_option maxRecDepth 100000 in
theorem c_X9_combine (l : Launch) (g : GT) (a1 : Int32) (a2 : Int64) (a3 : Int64) (r_ : Int64) (hf : f_X9_combine a1 a2 a3 = some r_) : Con l g yX9_combine cX9_combine 5 (some .long) ({ frames := 0, cells := 0, slots := 0, locals := 0 }) [.int a1, .long a2, .long a3] [] (some (.long r_)) [] := by
  refine Con.of (by decide) (Nat.le_of_ble_eq_true rfl) ?_
  intro p e s m below meth c A ls hAe X hP hD hS hl
  obtain ⟨hx, hb, hml, hr, hown, hts, hlk, hnm, hA, hG, hZ⟩ := id X
  have hown : s.vm.findClass RX9 = some m.cls := hown
  have hl : lv_has ls 5 [(0, .int a1), (1, .long a2), (3, .long a3)] := hl
  unfold f_X9_combine at hf
  refine lv_iload_n hx hb dX9_combine_0 rfl (lv_at hl 0 rfl) ?_
  by_cases e_1 : a1 = 38
  · have hf := ift hf e_1
    refine lv_lookup hx hb dX9_combine_1 rfl (off := 43) (by rw [e_1] <;> rfl) (by decide) ?_ (tgt := 44)
    refine lv_lload_n hx hb dX9_combine_44 rfl (lv_at hl 1 rfl) ?_
    refine lv_lload_n hx hb dX9_combine_45 rfl (lv_at hl 2 rfl) ?_
    refine lv_land hx hb dX9_combine_46 ?_
    cases hf
    exact ret_l X hAe hP hD hS rfl dX9_combine_47
  · have hf := iff_ hf e_1
    by_cases e_2 : a1 = 62
    · have hf := ift hf e_2
      refine lv_lookup hx hb dX9_combine_1 rfl (off := 55) (by rw [e_2] <;> rfl) (by decide) ?_ (tgt := 56)
      refine lv_lload_n hx hb dX9_combine_56 rfl (lv_at hl 1 rfl) ?_
      refine lv_ldc2 hx hb hown (hts _ kl_X9_50) dX9_combine_57 ?_
      refine lv_lxor hx hb dX9_combine_60 ?_
      refine lv_lload_n hx hb dX9_combine_61 rfl (lv_at hl 2 rfl) ?_
      refine lv_lor hx hb dX9_combine_62 ?_
      cases hf
      exact ret_l X hAe hP hD hS rfl dX9_combine_63
    · have hf := iff_ hf e_2
      by_cases e_3 : a1 = 94
      · have hf := ift hf e_3
        refine lv_lookup hx hb dX9_combine_1 rfl (off := 51) (by rw [e_3] <;> rfl) (by decide) ?_ (tgt := 52)
        refine lv_lload_n hx hb dX9_combine_52 rfl (lv_at hl 1 rfl) ?_
        refine lv_lload_n hx hb dX9_combine_53 rfl (lv_at hl 2 rfl) ?_
        refine lv_lxor hx hb dX9_combine_54 ?_
        cases hf
        exact ret_l X hAe hP hD hS rfl dX9_combine_55
      · have hf := iff_ hf e_3
        by_cases e_4 : a1 = 124
        · have hf := ift hf e_4
          refine lv_lookup hx hb dX9_combine_1 rfl (off := 47) (by rw [e_4] <;> rfl) (by decide) ?_ (tgt := 48)
          refine lv_lload_n hx hb dX9_combine_48 rfl (lv_at hl 1 rfl) ?_
          refine lv_lload_n hx hb dX9_combine_49 rfl (lv_at hl 2 rfl) ?_
          refine lv_lor hx hb dX9_combine_50 ?_
          cases hf
          exact ret_l X hAe hP hD hS rfl dX9_combine_51
        · have hf := iff_ hf e_4
          refine lv_lookup hx hb dX9_combine_1 rfl (off := 63) ((lv_osw (a := 38) (o := 43) (r := [(62, 55), (94, 51), (124, 47)]) e_1 rfl).trans ((lv_osw (a := 62) (o := 55) (r := [(94, 51), (124, 47)]) e_2 rfl).trans ((lv_osw (a := 94) (o := 51) (r := [(124, 47)]) e_3 rfl).trans ((lv_osw (a := 124) (o := 47) (r := []) e_4 rfl).trans rfl)))) (by decide) ?_ (tgt := 64)
          refine lv_lload_n hx hb dX9_combine_64 rfl (lv_at hl 1 rfl) ?_
          refine lv_lload_n hx hb dX9_combine_65 rfl (lv_at hl 2 rfl) ?_
          refine lv_lxor hx hb dX9_combine_66 ?_
          refine lv_ldc2 hx hb hown (hts _ kl_X9_50) dX9_combine_67 ?_
          refine lv_lxor hx hb dX9_combine_70 ?_
          cases hf
          exact ret_l X hAe hP hD hS rfl dX9_combine_71
def lp_X9_reckon_8 (y2_8 : Int32) (y3_8 : Int32) (v_p1_stepCount_8f : Int32) (v_p1_steps_8f : Nat → Int32) : Nat → Int32 → Int32 → (Nat → Int64) → (Int32 → Int32 → (Nat → Int64) → Option (Int64 × Int32 × (Nat → Int64))) → Option (Int64 × Int32 × (Nat → Int64))
  | 0, _, _, _, _ => none
  | n_8 + 1, x4_8, v_depth_8, v_stack_8, K_8 =>
    if v_p1_stepCount_8f ≤ x4_8 then
    K_8 x4_8 v_depth_8 v_stack_8
    else
    ((f_X2_stepAt v_p1_steps_8f x4_8).bind fun r_2 =>
    if r_2 < 256 then
    (jn (κ := Option (Int64 × Int32 × (Nat → Int64))) (if r_2 = 49 then
    ((f_X9_push v_depth_8 v_stack_8 (-1)).bind fun (v_depth_9, v_stack_10) =>
    lp_X9_reckon_8 y2_8 y3_8 v_p1_stepCount_8f v_p1_steps_8f n_8 (x4_8 + 1) v_depth_9 v_stack_10 K_8)
    else
    ((f_X9_push v_depth_8 v_stack_8 0).bind fun (v_depth_6, v_stack_7) =>
    lp_X9_reckon_8 y2_8 y3_8 v_p1_stepCount_8f v_p1_steps_8f n_8 (x4_8 + 1) v_depth_6 v_stack_7 K_8)) fun j_68 =>
    if r_2 = 48 then
    j_68
    else
    (if r_2 = 49 then
    j_68
    else
    (if r_2 = 33 then
    ((f_X9_pop v_depth_8 v_stack_8).bind fun (r_26, v_depth_27) =>
    (f_X9_push v_depth_27 v_stack_8 (r_26 ^^^ (-1 : Int64))).bind fun (v_depth_29, v_stack_30) =>
    lp_X9_reckon_8 y2_8 y3_8 v_p1_stepCount_8f v_p1_steps_8f n_8 (x4_8 + 1) v_depth_29 v_stack_30 K_8)
    else
    ((f_X9_pop v_depth_8 v_stack_8).bind fun (r_15, v_depth_16) =>
    (f_X9_pop v_depth_16 v_stack_8).bind fun (r_18, v_depth_19) =>
    (f_X9_combine r_2 r_18 r_15).bind fun r_21 =>
    (f_X9_push v_depth_19 v_stack_8 r_21).bind fun (v_depth_23, v_stack_24) =>
    lp_X9_reckon_8 y2_8 y3_8 v_p1_stepCount_8f v_p1_steps_8f n_8 (x4_8 + 1) v_depth_23 v_stack_24 K_8))))
    else
    ((f_X9_valuesOfName ((y2_8 - (1 : Int32)) - (r_2 - (256 : Int32))) y3_8).bind fun r_32 =>
    (f_X9_push v_depth_8 v_stack_8 r_32).bind fun (v_depth_34, v_stack_35) =>
    lp_X9_reckon_8 y2_8 y3_8 v_p1_stepCount_8f v_p1_steps_8f n_8 (x4_8 + 1) v_depth_34 v_stack_35 K_8))
def f_X9_reckon (v_depth : Int32) (v_p1_stepCount : Int32) (v_p1_steps : Nat → Int32) (v_stack : Nat → Int64) (a2 : Int32) (a3 : Int32) : Option (Int64 × Int32 × (Nat → Int64)) :=
  lp_X9_reckon_8 a2 a3 v_p1_stepCount v_p1_steps 5000 0 0 v_stack (fun x4_8_37 v_depth_8_38 v_stack_8_39 => 
  (f_X9_pop v_depth_8_38 v_stack_8_39).bind fun (r_76, v_depth_77) =>
  some (r_76, v_depth_77, v_stack_8_39))
set_option maxHeartbeats 4000000 in
set_option maxRecDepth 100000 in
theorem c_X9_reckon (l : Launch) (g : GT) (h : Nat) (h_words : Nat) (h_stack : Nat) (v_depth : Int32) (h_p1 : Nat) (h_p1_symbols : Nat) (h_p1_opens : Nat) (h_p1_closes : Nat) (h_p1_steps : Nat) (v_p1_length : Int32) (v_p1_stepCount : Int32) (v_p1_steps : Nat → Int32) (v_stack : Nat → Int64) (a2 : Int32) (a3 : Int32) (r_ : Int64) (u_depth : Int32) (u_stack : Nat → Int64) (hf : f_X9_reckon v_depth v_p1_stepCount v_p1_steps v_stack a2 a3 = some (r_, u_depth, u_stack)) : Con l g yX9_reckon cX9_reckon 8 (some .long) ({ frames := 2, cells := 0, slots := 0, locals := 43 }) [.ref h, .ref h_p1, .int a2, .int a3] [oX9 h h_words h_stack v_depth, oX2 h_p1 h_p1_symbols h_p1_opens h_p1_closes h_p1_steps v_p1_length v_p1_stepCount, aI g h_p1_steps 160 v_p1_steps, aJ g h_stack 160 v_stack] (some (.long r_)) [oX9 h h_words h_stack u_depth, oX2 h_p1 h_p1_symbols h_p1_opens h_p1_closes h_p1_steps v_p1_length v_p1_stepCount, aI g h_p1_steps 160 v_p1_steps, aJ g h_stack 160 u_stack] := by
  refine Con.of (by decide) (Nat.le_of_ble_eq_true rfl) ?_
  intro p e s m below meth c A ls hAe X hP hD hS hl
  obtain ⟨hx, hb, hml, hr, hown, hts, hlk, hnm, hA, hG, hZ⟩ := id X
  have hown : s.vm.findClass RX9 = some m.cls := hown
  have hl : lv_has ls 8 [(0, .ref h), (1, .ref h_p1), (2, .int a2), (3, .int a3)] := hl
  unfold f_X9_reckon at hf
  refine lv_aload_n hx hb dX9_reckon_0 rfl (lv_at hl 0 rfl) ?_
  refine lv_iconst (v := 0) hx hb dX9_reckon_1 (by decide) ?_
  refine pf_X9_30 X rfl hP hD hS 0 rfl (Nat.le_of_ble_eq_true rfl) dX9_reckon_2 (fun H locs hP hD hS => ?_)
  have hP : va_P g.1 vwCl [oX9 h h_words h_stack 0, oX2 h_p1 h_p1_symbols h_p1_opens h_p1_closes h_p1_steps v_p1_length v_p1_stepCount, aI g h_p1_steps 160 v_p1_steps, aJ g h_stack 160 v_stack] H := hP
  have hD : va_D A [oX9 h h_words h_stack 0, oX2 h_p1 h_p1_symbols h_p1_opens h_p1_closes h_p1_steps v_p1_length v_p1_stepCount, aI g h_p1_steps 160 v_p1_steps, aJ g h_stack 160 v_stack] := hD
  refine lv_iconst (v := 0) hx hb dX9_reckon_5 (by decide) ?_
  refine lv_istore (lv' := [(4, .int 0), (0, .ref h), (1, .ref h_p1), (2, .int a2), (3, .int a3)]) hx hb dX9_reckon_6 hl (by decide) rfl (fun ls hl => ?_)
  have L_8 : ∀ (n : Nat) (x4_8 : Int32) (v_depth_8 : Int32) (v_stack_8 : Nat → Int64) (H : Heap) (locs : List Loc) (ls : Array Slot) (K_8 : Int32 → Int32 → (Nat → Int64) → Option (Int64 × Int32 × (Nat → Int64))), va_P g.1 vwCl [oX9 h h_words h_stack v_depth_8, oX2 h_p1 h_p1_symbols h_p1_opens h_p1_closes h_p1_steps v_p1_length v_p1_stepCount, aI g h_p1_steps 160 v_p1_steps, aJ g h_stack 160 v_stack_8] H → va_D A [oX9 h h_words h_stack v_depth_8, oX2 h_p1 h_p1_symbols h_p1_opens h_p1_closes h_p1_steps v_p1_length v_p1_stepCount, aI g h_p1_steps 160 v_p1_steps, aJ g h_stack 160 v_stack_8] → va_S A s.heap H locs → lv_has ls 8 [(0, .ref h), (1, .ref h_p1), (2, .int a2), (3, .int a3), (4, .int x4_8)] → (∀ (z_x4_8 : Int32) (z_v_depth_8 : Int32) (z_v_stack_8 : Nat → Int64) (H : Heap) (locs : List Loc) (ls : Array Slot), va_P g.1 vwCl [oX9 h h_words h_stack z_v_depth_8, oX2 h_p1 h_p1_symbols h_p1_opens h_p1_closes h_p1_steps v_p1_length v_p1_stepCount, aI g h_p1_steps 160 v_p1_steps, aJ g h_stack 160 z_v_stack_8] H → va_D A [oX9 h h_words h_stack z_v_depth_8, oX2 h_p1 h_p1_symbols h_p1_opens h_p1_closes h_p1_steps v_p1_length v_p1_stepCount, aI g h_p1_steps 160 v_p1_steps, aJ g h_stack 160 z_v_stack_8] → va_S A s.heap H locs → lv_has ls 8 [(0, .ref h), (1, .ref h_p1), (2, .int a2), (3, .int a3), (4, .int z_x4_8)] → K_8 z_x4_8 z_v_depth_8 z_v_stack_8 = some (r_, u_depth, u_stack) → W p l e ({ frames := 2, cells := 0, slots := 0, locals := 43 }) s m [.ref h, .ref h_p1, .int a2, .int a3].toArray below meth c H locs 0 0 (MQ below (fun _ => QW g [oX9 h h_words h_stack v_depth, oX2 h_p1 h_p1_symbols h_p1_opens h_p1_closes h_p1_steps v_p1_length v_p1_stepCount, aI g h_p1_steps 160 v_p1_steps, aJ g h_stack 160 v_stack] s.heap.size (some (.long r_)) [oX9 h h_words h_stack u_depth, oX2 h_p1 h_p1_symbols h_p1_opens h_p1_closes h_p1_steps v_p1_length v_p1_stepCount, aI g h_p1_steps 160 v_p1_steps, aJ g h_stack 160 u_stack]) [.ref h, .ref h_p1, .int a2, .int a3].toArray s 0 0 (va_A [oX9 h h_words h_stack v_depth, oX2 h_p1 h_p1_symbols h_p1_opens h_p1_closes h_p1_steps v_p1_length v_p1_stepCount, aI g h_p1_steps 160 v_p1_steps, aJ g h_stack 160 v_stack] s.heap.size)) (F0 m 138 ls [])) → lp_X9_reckon_8 a2 a3 v_p1_stepCount v_p1_steps n x4_8 v_depth_8 v_stack_8 K_8 = some (r_, u_depth, u_stack) → W p l e ({ frames := 2, cells := 0, slots := 0, locals := 43 }) s m [.ref h, .ref h_p1, .int a2, .int a3].toArray below meth c H locs 0 0 (MQ below (fun _ => QW g [oX9 h h_words h_stack v_depth, oX2 h_p1 h_p1_symbols h_p1_opens h_p1_closes h_p1_steps v_p1_length v_p1_stepCount, aI g h_p1_steps 160 v_p1_steps, aJ g h_stack 160 v_stack] s.heap.size (some (.long r_)) [oX9 h h_words h_stack u_depth, oX2 h_p1 h_p1_symbols h_p1_opens h_p1_closes h_p1_steps v_p1_length v_p1_stepCount, aI g h_p1_steps 160 v_p1_steps, aJ g h_stack 160 u_stack]) [.ref h, .ref h_p1, .int a2, .int a3].toArray s 0 0 (va_A [oX9 h h_words h_stack v_depth, oX2 h_p1 h_p1_symbols h_p1_opens h_p1_closes h_p1_steps v_p1_length v_p1_stepCount, aI g h_p1_steps 160 v_p1_steps, aJ g h_stack 160 v_stack] s.heap.size)) (F0 m 8 ls []) := by
    intro n
    induction n with
    | zero =>
      intro x4_8 v_depth_8 v_stack_8 H locs ls K_8 hP hD hS hl hk hf
      have hf : (none : Option (Int64 × Int32 × (Nat → Int64))) = some _ := hf
      cases hf
    | succ n_8 ih_8 =>
      intro x4_8 v_depth_8 v_stack_8 H locs ls K_8 hP hD hS hl hk_8 hf
      refine lv_iload hx hb dX9_reckon_8 (lv_at hl 4 rfl) ?_
      refine lv_aload_n hx hb dX9_reckon_10 rfl (lv_at hl 1 rfl) ?_
      refine gf_X9_34 X rfl hP 1 rfl rfl dX9_reckon_11 ?_
      refine lv_icmp_ge (tgt := 138) hx hb dX9_reckon_14 (by decide) (fun c_40 => ?_) (fun c_40 => ?_)
      · have hf := ift hf c_40
        exact hk_8 x4_8 v_depth_8 v_stack_8 H locs ls hP hD hS (lv_sub hl [0, 1, 2, 3, 4] rfl) hf
      · have hf := iff_ hf c_40
        refine lv_aload_n hx hb dX9_reckon_17 rfl (lv_at hl 1 rfl) ?_
        refine lv_iload hx hb dX9_reckon_18 (lv_at hl 4 rfl) ?_
        obtain ⟨r_41, hf_42, hf⟩ := obind hf
        refine gcV (rest := []) (wn := [oX9 h h_words h_stack v_depth_8, oX2 h_p1 h_p1_symbols h_p1_opens h_p1_closes h_p1_steps v_p1_length v_p1_stepCount, aI g h_p1_steps 160 v_p1_steps, aJ g h_stack 160 v_stack_8]) X hP hD hS hl (c_X2_stepAt l g h_p1 h_p1_symbols h_p1_opens h_p1_closes h_p1_steps v_p1_length v_p1_stepCount v_p1_steps x4_8 r_41 hf_42) [1, 2] rfl rfl rfl [.inl 0, .inr 0, .inr 1, .inl 3] rfl rfl cd_X2_stepAt rfl im_X2_stepAt se_X2_stepAt ml_X9_39 1 rfl rfl rfl rfl rfl ⟨(Nat.le_of_ble_eq_true rfl), (Nat.le_of_ble_eq_true rfl)⟩ rfl (Nat.le_of_ble_eq_true rfl) dX9_reckon_20 ⟨(Nat.le_of_ble_eq_true rfl), (Nat.le_of_ble_eq_true rfl)⟩ (fun H locs hP hD hS => ?_)
        refine lv_istore (lv' := [(5, .int r_41), (0, .ref h), (1, .ref h_p1), (2, .int a2), (3, .int a3), (4, .int x4_8)]) hx hb dX9_reckon_23 hl (by decide) rfl (fun ls hl => ?_)
        refine lv_iload hx hb dX9_reckon_25 (lv_at hl 0 rfl) ?_
        refine lv_sipush (v := 256) hx hb dX9_reckon_27 (by decide) ?_
        refine lv_icmp_lt (tgt := 54) hx hb dX9_reckon_30 (by decide) (fun c_43 => ?_) (fun c_43 => ?_)
        · have hf := ift hf c_43
          refine lv_iload hx hb dX9_reckon_54 (lv_at hl 0 rfl) ?_
          refine lv_bipush (v := 48) hx hb dX9_reckon_56 (by decide) ?_
          refine jn_elim hf (fun j_68 hj_68 hf => ?_)
          have J_68 : ∀  (H : Heap) (locs : List Loc) (ls : Array Slot), va_P g.1 vwCl [oX9 h h_words h_stack v_depth_8, oX2 h_p1 h_p1_symbols h_p1_opens h_p1_closes h_p1_steps v_p1_length v_p1_stepCount, aI g h_p1_steps 160 v_p1_steps, aJ g h_stack 160 v_stack_8] H → va_D A [oX9 h h_words h_stack v_depth_8, oX2 h_p1 h_p1_symbols h_p1_opens h_p1_closes h_p1_steps v_p1_length v_p1_stepCount, aI g h_p1_steps 160 v_p1_steps, aJ g h_stack 160 v_stack_8] → va_S A s.heap H locs → lv_has ls 8 [(0, .ref h), (1, .ref h_p1), (2, .int a2), (3, .int a3), (4, .int x4_8), (5, .int r_41)] → j_68  = some (r_, u_depth, u_stack) → W p l e ({ frames := 2, cells := 0, slots := 0, locals := 43 }) s m [.ref h, .ref h_p1, .int a2, .int a3].toArray below meth c H locs 0 0 (MQ below (fun _ => QW g [oX9 h h_words h_stack v_depth, oX2 h_p1 h_p1_symbols h_p1_opens h_p1_closes h_p1_steps v_p1_length v_p1_stepCount, aI g h_p1_steps 160 v_p1_steps, aJ g h_stack 160 v_stack] s.heap.size (some (.long r_)) [oX9 h h_words h_stack u_depth, oX2 h_p1 h_p1_symbols h_p1_opens h_p1_closes h_p1_steps v_p1_length v_p1_stepCount, aI g h_p1_steps 160 v_p1_steps, aJ g h_stack 160 u_stack]) [.ref h, .ref h_p1, .int a2, .int a3].toArray s 0 0 (va_A [oX9 h h_words h_stack v_depth, oX2 h_p1 h_p1_symbols h_p1_opens h_p1_closes h_p1_steps v_p1_length v_p1_stepCount, aI g h_p1_steps 160 v_p1_steps, aJ g h_stack 160 v_stack] s.heap.size)) (F0 m 68 ls []) := by
            intro  H locs ls hP hD hS hl hf
            rw [hj_68] at hf
            refine lv_aload_n hx hb dX9_reckon_68 rfl (lv_at hl 0 rfl) ?_
            refine lv_iload hx hb dX9_reckon_69 (lv_at hl 5 rfl) ?_
            refine lv_bipush (v := 49) hx hb dX9_reckon_71 (by decide) ?_
            refine lv_icmp_ne (tgt := 82) hx hb dX9_reckon_73 (by decide) (fun c_44 => ?_) (fun c_44 => ?_)
            · have hf := iff_ hf c_44
              refine lv_lconst (v := 0) hx hb dX9_reckon_82 (by decide) ?_
              obtain ⟨⟨v_depth_45, v_stack_46⟩, hf_47, hf⟩ := obind hf
              refine gcV (rest := []) (wn := [oX9 h h_words h_stack v_depth_45, oX2 h_p1 h_p1_symbols h_p1_opens h_p1_closes h_p1_steps v_p1_length v_p1_stepCount, aI g h_p1_steps 160 v_p1_steps, aJ g h_stack 160 v_stack_46]) X hP hD hS hl (c_X9_push l g h h_words h_stack v_depth_8 v_stack_8 0 v_depth_45 v_stack_46 hf_47) [0, 3] rfl rfl rfl [.inr 0, .inl 1, .inl 2, .inr 1] rfl rfl cd_X9_push rfl im_X9_push se_X9_push ml_X9_46 0 rfl rfl rfl rfl rfl ⟨(Nat.le_of_ble_eq_true rfl), (Nat.le_of_ble_eq_true rfl)⟩ rfl (Nat.le_of_ble_eq_true rfl) dX9_reckon_83 ⟨(Nat.le_of_ble_eq_true rfl), (Nat.le_of_ble_eq_true rfl)⟩ (fun H locs hP hD hS => ?_)
              refine lv_goto (tgt := 132) hx hb dX9_reckon_86 (by decide) ?_
              refine lv_iinc (v := x4_8 + 1) (lv' := [(4, .int (x4_8 + 1)), (0, .ref h), (1, .ref h_p1), (2, .int a2), (3, .int a3), (5, .int r_41)]) hx hb dX9_reckon_132 hl (k := 4) rfl rfl (by decide) rfl (fun ls hl => ?_)
              refine lv_goto (tgt := 8) hx hb dX9_reckon_135 (by decide) ?_
              exact ih_8 (x4_8 + 1) v_depth_45 v_stack_46 H locs ls K_8 hP hD hS (lv_sub hl [1, 2, 3, 4, 0] rfl) hk_8 hf
            · have hf := ift hf c_44
              refine lv_ldc2 hx hb hown (hts _ kl_X9_50) dX9_reckon_76 ?_
              refine lv_goto (tgt := 83) hx hb dX9_reckon_79 (by decide) ?_
              obtain ⟨⟨v_depth_48, v_stack_49⟩, hf_50, hf⟩ := obind hf
              refine gcV (rest := []) (wn := [oX9 h h_words h_stack v_depth_48, oX2 h_p1 h_p1_symbols h_p1_opens h_p1_closes h_p1_steps v_p1_length v_p1_stepCount, aI g h_p1_steps 160 v_p1_steps, aJ g h_stack 160 v_stack_49]) X hP hD hS hl (c_X9_push l g h h_words h_stack v_depth_8 v_stack_8 (-1) v_depth_48 v_stack_49 hf_50) [0, 3] rfl rfl rfl [.inr 0, .inl 1, .inl 2, .inr 1] rfl rfl cd_X9_push rfl im_X9_push se_X9_push ml_X9_46 0 rfl rfl rfl rfl rfl ⟨(Nat.le_of_ble_eq_true rfl), (Nat.le_of_ble_eq_true rfl)⟩ rfl (Nat.le_of_ble_eq_true rfl) dX9_reckon_83 ⟨(Nat.le_of_ble_eq_true rfl), (Nat.le_of_ble_eq_true rfl)⟩ (fun H locs hP hD hS => ?_)
              refine lv_goto (tgt := 132) hx hb dX9_reckon_86 (by decide) ?_
              refine lv_iinc (v := x4_8 + 1) (lv' := [(4, .int (x4_8 + 1)), (0, .ref h), (1, .ref h_p1), (2, .int a2), (3, .int a3), (5, .int r_41)]) hx hb dX9_reckon_132 hl (k := 4) rfl rfl (by decide) rfl (fun ls hl => ?_)
              refine lv_goto (tgt := 8) hx hb dX9_reckon_135 (by decide) ?_
              exact ih_8 (x4_8 + 1) v_depth_48 v_stack_49 H locs ls K_8 hP hD hS (lv_sub hl [1, 2, 3, 4, 0] rfl) hk_8 hf
          refine lv_icmp_eq (tgt := 68) hx hb dX9_reckon_58 (by decide) (fun c_51 => ?_) (fun c_51 => ?_)
          · have hf := ift hf c_51
            exact J_68  _ _ ls hP hD hS (lv_sub hl [1, 2, 3, 4, 5, 0] rfl) hf
          · have hf := iff_ hf c_51
            refine lv_iload hx hb dX9_reckon_61 (lv_at hl 0 rfl) ?_
            refine lv_bipush (v := 49) hx hb dX9_reckon_63 (by decide) ?_
            refine lv_icmp_ne (tgt := 89) hx hb dX9_reckon_65 (by decide) (fun c_52 => ?_) (fun c_52 => ?_)
            · have hf := iff_ hf c_52
              refine lv_iload hx hb dX9_reckon_89 (lv_at hl 0 rfl) ?_
              refine lv_bipush (v := 33) hx hb dX9_reckon_91 (by decide) ?_
              refine lv_icmp_ne (tgt := 111) hx hb dX9_reckon_93 (by decide) (fun c_53 => ?_) (fun c_53 => ?_)
              · have hf := iff_ hf c_53
                refine lv_aload_n hx hb dX9_reckon_111 rfl (lv_at hl 1 rfl) ?_
                obtain ⟨⟨r_54, v_depth_55⟩, hf_56, hf⟩ := obind hf
                refine gcV (rest := []) (wn := [oX9 h h_words h_stack v_depth_55, oX2 h_p1 h_p1_symbols h_p1_opens h_p1_closes h_p1_steps v_p1_length v_p1_stepCount, aI g h_p1_steps 160 v_p1_steps, aJ g h_stack 160 v_stack_8]) X hP hD hS hl (c_X9_pop l g h h_words h_stack v_depth_8 v_stack_8 r_54 v_depth_55 hf_56) [0, 3] rfl rfl rfl [.inr 0, .inl 1, .inl 2, .inr 1] rfl rfl cd_X9_pop rfl im_X9_pop se_X9_pop ml_X9_52 0 rfl rfl rfl rfl rfl ⟨(Nat.le_of_ble_eq_true rfl), (Nat.le_of_ble_eq_true rfl)⟩ rfl (Nat.le_of_ble_eq_true rfl) dX9_reckon_112 ⟨(Nat.le_of_ble_eq_true rfl), (Nat.le_of_ble_eq_true rfl)⟩ (fun H locs hP hD hS => ?_)
                refine lv_lstore (lv' := [(6, .long r_54), (5, .int r_41), (0, .ref h), (1, .ref h_p1), (2, .int a2), (3, .int a3), (4, .int x4_8)]) hx hb dX9_reckon_115 hl (by decide) rfl (fun ls hl => ?_)
                refine lv_aload_n hx hb dX9_reckon_117 rfl (lv_at hl 2 rfl) ?_
                refine lv_iload hx hb dX9_reckon_118 (lv_at hl 1 rfl) ?_
                refine lv_aload_n hx hb dX9_reckon_120 rfl (lv_at hl 2 rfl) ?_
                obtain ⟨⟨r_57, v_depth_58⟩, hf_59, hf⟩ := obind hf
                refine gcV (rest := [.int r_41, .ref h]) (wn := [oX9 h h_words h_stack v_depth_58, oX2 h_p1 h_p1_symbols h_p1_opens h_p1_closes h_p1_steps v_p1_length v_p1_stepCount, aI g h_p1_steps 160 v_p1_steps, aJ g h_stack 160 v_stack_8]) X hP hD hS hl (c_X9_pop l g h h_words h_stack v_depth_55 v_stack_8 r_57 v_depth_58 hf_59) [0, 3] rfl rfl rfl [.inr 0, .inl 1, .inl 2, .inr 1] rfl rfl cd_X9_pop rfl im_X9_pop se_X9_pop ml_X9_52 0 rfl rfl rfl rfl rfl ⟨(Nat.le_of_ble_eq_true rfl), (Nat.le_of_ble_eq_true rfl)⟩ rfl (Nat.le_of_ble_eq_true rfl) dX9_reckon_121 ⟨(Nat.le_of_ble_eq_true rfl), (Nat.le_of_ble_eq_true rfl)⟩ (fun H locs hP hD hS => ?_)
                refine lv_lload hx hb dX9_reckon_124 (lv_at hl 0 rfl) ?_
                obtain ⟨r_60, hf_61, hf⟩ := obind hf
                refine gcS (rest := [.ref h]) (wn := [oX9 h h_words h_stack v_depth_58, oX2 h_p1 h_p1_symbols h_p1_opens h_p1_closes h_p1_steps v_p1_length v_p1_stepCount, aI g h_p1_steps 160 v_p1_steps, aJ g h_stack 160 v_stack_8]) X hP hD hS hl (c_X9_combine l g r_41 r_57 r_54 r_60 hf_61) [] rfl rfl rfl [.inl 0, .inl 1, .inl 2, .inl 3] rfl rfl cd_X9_combine rfl st_X9_combine ml_X9_56 rfl rfl ⟨(Nat.le_of_ble_eq_true rfl), (Nat.le_of_ble_eq_true rfl)⟩ rfl (Nat.le_of_ble_eq_true rfl) dX9_reckon_126 ⟨(Nat.le_of_ble_eq_true rfl), (Nat.le_of_ble_eq_true rfl)⟩ (fun H locs hP hD hS => ?_)
                obtain ⟨⟨v_depth_62, v_stack_63⟩, hf_64, hf⟩ := obind hf
                refine gcV (rest := []) (wn := [oX9 h h_words h_stack v_depth_62, oX2 h_p1 h_p1_symbols h_p1_opens h_p1_closes h_p1_steps v_p1_length v_p1_stepCount, aI g h_p1_steps 160 v_p1_steps, aJ g h_stack 160 v_stack_63]) X hP hD hS hl (c_X9_push l g h h_words h_stack v_depth_58 v_stack_8 r_60 v_depth_62 v_stack_63 hf_64) [0, 3] rfl rfl rfl [.inr 0, .inl 1, .inl 2, .inr 1] rfl rfl cd_X9_push rfl im_X9_push se_X9_push ml_X9_46 0 rfl rfl rfl rfl rfl ⟨(Nat.le_of_ble_eq_true rfl), (Nat.le_of_ble_eq_true rfl)⟩ rfl (Nat.le_of_ble_eq_true rfl) dX9_reckon_129 ⟨(Nat.le_of_ble_eq_true rfl), (Nat.le_of_ble_eq_true rfl)⟩ (fun H locs hP hD hS => ?_)
                refine lv_iinc (v := x4_8 + 1) (lv' := [(4, .int (x4_8 + 1)), (6, .long r_54), (5, .int r_41), (0, .ref h), (1, .ref h_p1), (2, .int a2), (3, .int a3)]) hx hb dX9_reckon_132 hl (k := 6) rfl rfl (by decide) rfl (fun ls hl => ?_)
                refine lv_goto (tgt := 8) hx hb dX9_reckon_135 (by decide) ?_
                exact ih_8 (x4_8 + 1) v_depth_62 v_stack_63 H locs ls K_8 hP hD hS (lv_sub hl [3, 4, 5, 6, 0] rfl) hk_8 hf
              · have hf := ift hf c_53
                refine lv_aload_n hx hb dX9_reckon_96 rfl (lv_at hl 1 rfl) ?_
                refine lv_aload_n hx hb dX9_reckon_97 rfl (lv_at hl 1 rfl) ?_
                obtain ⟨⟨r_65, v_depth_66⟩, hf_67, hf⟩ := obind hf
                refine gcV (rest := [.ref h]) (wn := [oX9 h h_words h_stack v_depth_66, oX2 h_p1 h_p1_symbols h_p1_opens h_p1_closes h_p1_steps v_p1_length v_p1_stepCount, aI g h_p1_steps 160 v_p1_steps, aJ g h_stack 160 v_stack_8]) X hP hD hS hl (c_X9_pop l g h h_words h_stack v_depth_8 v_stack_8 r_65 v_depth_66 hf_67) [0, 3] rfl rfl rfl [.inr 0, .inl 1, .inl 2, .inr 1] rfl rfl cd_X9_pop rfl im_X9_pop se_X9_pop ml_X9_52 0 rfl rfl rfl rfl rfl ⟨(Nat.le_of_ble_eq_true rfl), (Nat.le_of_ble_eq_true rfl)⟩ rfl (Nat.le_of_ble_eq_true rfl) dX9_reckon_98 ⟨(Nat.le_of_ble_eq_true rfl), (Nat.le_of_ble_eq_true rfl)⟩ (fun H locs hP hD hS => ?_)
                refine lv_ldc2 hx hb hown (hts _ kl_X9_50) dX9_reckon_101 ?_
                refine lv_lxor hx hb dX9_reckon_104 ?_
                obtain ⟨⟨v_depth_68, v_stack_69⟩, hf_70, hf⟩ := obind hf
                refine gcV (rest := []) (wn := [oX9 h h_words h_stack v_depth_68, oX2 h_p1 h_p1_symbols h_p1_opens h_p1_closes h_p1_steps v_p1_length v_p1_stepCount, aI g h_p1_steps 160 v_p1_steps, aJ g h_stack 160 v_stack_69]) X hP hD hS hl (c_X9_push l g h h_words h_stack v_depth_66 v_stack_8 (r_65 ^^^ (-1 : Int64)) v_depth_68 v_stack_69 hf_70) [0, 3] rfl rfl rfl [.inr 0, .inl 1, .inl 2, .inr 1] rfl rfl cd_X9_push rfl im_X9_push se_X9_push ml_X9_46 0 rfl rfl rfl rfl rfl ⟨(Nat.le_of_ble_eq_true rfl), (Nat.le_of_ble_eq_true rfl)⟩ rfl (Nat.le_of_ble_eq_true rfl) dX9_reckon_105 ⟨(Nat.le_of_ble_eq_true rfl), (Nat.le_of_ble_eq_true rfl)⟩ (fun H locs hP hD hS => ?_)
                refine lv_goto (tgt := 132) hx hb dX9_reckon_108 (by decide) ?_
                refine lv_iinc (v := x4_8 + 1) (lv' := [(4, .int (x4_8 + 1)), (5, .int r_41), (0, .ref h), (1, .ref h_p1), (2, .int a2), (3, .int a3)]) hx hb dX9_reckon_132 hl (k := 5) rfl rfl (by decide) rfl (fun ls hl => ?_)
                refine lv_goto (tgt := 8) hx hb dX9_reckon_135 (by decide) ?_
                exact ih_8 (x4_8 + 1) v_depth_68 v_stack_69 H locs ls K_8 hP hD hS (lv_sub hl [2, 3, 4, 5, 0] rfl) hk_8 hf
            · have hf := ift hf c_52
              exact J_68  _ _ ls hP hD hS (lv_sub hl [1, 2, 3, 4, 5, 0] rfl) hf
        · have hf := iff_ hf c_43
          refine lv_aload_n hx hb dX9_reckon_33 rfl (lv_at hl 1 rfl) ?_
          refine lv_iload_n hx hb dX9_reckon_34 rfl (lv_at hl 3 rfl) ?_
          refine lv_iconst (v := 1) hx hb dX9_reckon_35 (by decide) ?_
          refine lv_isub hx hb dX9_reckon_36 ?_
          refine lv_iload hx hb dX9_reckon_37 (lv_at hl 0 rfl) ?_
          refine lv_sipush (v := 256) hx hb dX9_reckon_39 (by decide) ?_
          refine lv_isub hx hb dX9_reckon_42 ?_
          refine lv_isub hx hb dX9_reckon_43 ?_
          refine lv_iload_n hx hb dX9_reckon_44 rfl (lv_at hl 4 rfl) ?_
          obtain ⟨r_71, hf_72, hf⟩ := obind hf
          refine gcS (rest := [.ref h]) (wn := [oX9 h h_words h_stack v_depth_8, oX2 h_p1 h_p1_symbols h_p1_opens h_p1_closes h_p1_steps v_p1_length v_p1_stepCount, aI g h_p1_steps 160 v_p1_steps, aJ g h_stack 160 v_stack_8]) X hP hD hS hl (c_X9_valuesOfName l g ((a2 - (1 : Int32)) - (r_41 - (256 : Int32))) a3 r_71 hf_72) [] rfl rfl rfl [.inl 0, .inl 1, .inl 2, .inl 3] rfl rfl cd_X9_valuesOfName rfl st_X9_valuesOfName ml_X9_42 rfl rfl ⟨(Nat.le_of_ble_eq_true rfl), (Nat.le_of_ble_eq_true rfl)⟩ rfl (Nat.le_of_ble_eq_true rfl) dX9_reckon_45 ⟨(Nat.le_of_ble_eq_true rfl), (Nat.le_of_ble_eq_true rfl)⟩ (fun H locs hP hD hS => ?_)
          obtain ⟨⟨v_depth_73, v_stack_74⟩, hf_75, hf⟩ := obind hf
          refine gcV (rest := []) (wn := [oX9 h h_words h_stack v_depth_73, oX2 h_p1 h_p1_symbols h_p1_opens h_p1_closes h_p1_steps v_p1_length v_p1_stepCount, aI g h_p1_steps 160 v_p1_steps, aJ g h_stack 160 v_stack_74]) X hP hD hS hl (c_X9_push l g h h_words h_stack v_depth_8 v_stack_8 r_71 v_depth_73 v_stack_74 hf_75) [0, 3] rfl rfl rfl [.inr 0, .inl 1, .inl 2, .inr 1] rfl rfl cd_X9_push rfl im_X9_push se_X9_push ml_X9_46 0 rfl rfl rfl rfl rfl ⟨(Nat.le_of_ble_eq_true rfl), (Nat.le_of_ble_eq_true rfl)⟩ rfl (Nat.le_of_ble_eq_true rfl) dX9_reckon_48 ⟨(Nat.le_of_ble_eq_true rfl), (Nat.le_of_ble_eq_true rfl)⟩ (fun H locs hP hD hS => ?_)
          refine lv_goto (tgt := 132) hx hb dX9_reckon_51 (by decide) ?_
          refine lv_iinc (v := x4_8 + 1) (lv' := [(4, .int (x4_8 + 1)), (5, .int r_41), (0, .ref h), (1, .ref h_p1), (2, .int a2), (3, .int a3)]) hx hb dX9_reckon_132 hl (k := 5) rfl rfl (by decide) rfl (fun ls hl => ?_)
          refine lv_goto (tgt := 8) hx hb dX9_reckon_135 (by decide) ?_
          exact ih_8 (x4_8 + 1) v_depth_73 v_stack_74 H locs ls K_8 hP hD hS (lv_sub hl [2, 3, 4, 5, 0] rfl) hk_8 hf
  refine L_8 _ _ _ _ _ _ ls _ hP hD hS (lv_sub hl [1, 2, 3, 4, 0] rfl) (fun x4_8_37 v_depth_8_38 v_stack_8_39 H locs ls hP hD hS hl hf => ?_) hf
  refine lv_aload_n hx hb dX9_reckon_138 rfl (lv_at hl 0 rfl) ?_
  obtain ⟨⟨r_76, v_depth_77⟩, hf_78, hf⟩ := obind hf
  refine gcV (rest := []) (wn := [oX9 h h_words h_stack v_depth_77, oX2 h_p1 h_p1_symbols h_p1_opens h_p1_closes h_p1_steps v_p1_length v_p1_stepCount, aI g h_p1_steps 160 v_p1_steps, aJ g h_stack 160 v_stack_8_39]) X hP hD hS hl (c_X9_pop l g h h_words h_stack v_depth_8_38 v_stack_8_39 r_76 v_depth_77 hf_78) [0, 3] rfl rfl rfl [.inr 0, .inl 1, .inl 2, .inr 1] rfl rfl cd_X9_pop rfl im_X9_pop se_X9_pop ml_X9_52 0 rfl rfl rfl rfl rfl ⟨(Nat.le_of_ble_eq_true rfl), (Nat.le_of_ble_eq_true rfl)⟩ rfl (Nat.le_of_ble_eq_true rfl) dX9_reckon_139 ⟨(Nat.le_of_ble_eq_true rfl), (Nat.le_of_ble_eq_true rfl)⟩ (fun H locs hP hD hS => ?_)
  cases hf
  exact ret_l X hAe hP hD hS rfl dX9_reckon_142
def lp_X9_fill_8 (y2_8 : Int32) (y3_8 : Int32) (v_p1_stepCount_8f : Int32) (v_p1_steps_8f : Nat → Int32) : Nat → Int32 → Int32 → (Nat → Int64) → (Nat → Int64) → (Int32 → Int32 → (Nat → Int64) → (Nat → Int64) → Option (Int32 × (Nat → Int64) × (Nat → Int64))) → Option (Int32 × (Nat → Int64) × (Nat → Int64))
  | 0, _, _, _, _, _ => none
  | n_8 + 1, x4_8, v_depth_8, v_stack_8, v_words_8, K_8 =>
    if y3_8 ≤ x4_8 then
    K_8 x4_8 v_depth_8 v_stack_8 v_words_8
    else
    (if 16 ≤ x4_8 then
    K_8 x4_8 v_depth_8 v_stack_8 v_words_8
    else
    ((f_X9_reckon v_depth_8 v_p1_stepCount_8f v_p1_steps_8f v_stack_8 y2_8 x4_8).bind fun (r_5, v_depth_6, v_stack_7) =>
    if ix x4_8 16 then
    lp_X9_fill_8 y2_8 y3_8 v_p1_stepCount_8f v_p1_steps_8f n_8 (x4_8 + 1) v_depth_6 v_stack_7 (vp_updL v_words_8 x4_8.toNatClampNeg r_5) K_8
    else none))
def f_X9_fill (v_depth : Int32) (v_p1_stepCount : Int32) (v_p1_steps : Nat → Int32) (v_stack : Nat → Int64) (v_words : Nat → Int64) (a2 : Int32) : Option (Int32 × (Nat → Int64) × (Nat → Int64)) :=
  (f_X11_tableWords a2).bind fun r_1 =>
  lp_X9_fill_8 a2 r_1 v_p1_stepCount v_p1_steps 5000 0 v_depth v_stack v_words (fun x4_8_10 v_depth_8_11 v_stack_8_12 v_words_8_13 => 
  some (v_depth_8_11, v_stack_8_12, v_words_8_13))
set_option maxHeartbeats 4000000 in
set_option maxRecDepth 100000 in
theorem c_X9_fill (l : Launch) (g : GT) (h : Nat) (h_words : Nat) (h_stack : Nat) (v_depth : Int32) (h_p1 : Nat) (h_p1_symbols : Nat) (h_p1_opens : Nat) (h_p1_closes : Nat) (h_p1_steps : Nat) (v_p1_length : Int32) (v_p1_stepCount : Int32) (v_p1_steps : Nat → Int32) (v_stack : Nat → Int64) (v_words : Nat → Int64) (a2 : Int32) (u_depth : Int32) (u_stack : Nat → Int64) (u_words : Nat → Int64) (hf : f_X9_fill v_depth v_p1_stepCount v_p1_steps v_stack v_words a2 = some (u_depth, u_stack, u_words)) : Con l g yX9_fill cX9_fill 5 none ({ frames := 3, cells := 0, slots := 0, locals := 70 }) [.ref h, .ref h_p1, .int a2] [oX9 h h_words h_stack v_depth, oX2 h_p1 h_p1_symbols h_p1_opens h_p1_closes h_p1_steps v_p1_length v_p1_stepCount, aI g h_p1_steps 160 v_p1_steps, aJ g h_stack 160 v_stack, aJ g h_words 16 v_words] none [oX9 h h_words h_stack u_depth, oX2 h_p1 h_p1_symbols h_p1_opens h_p1_closes h_p1_steps v_p1_length v_p1_stepCount, aI g h_p1_steps 160 v_p1_steps, aJ g h_stack 160 u_stack, aJ g h_words 16 u_words] := by
  refine Con.of (by decide) (Nat.le_of_ble_eq_true rfl) ?_
  intro p e s m below meth c A ls hAe X hP hD hS hl
  obtain ⟨hx, hb, hml, hr, hown, hts, hlk, hnm, hA, hG, hZ⟩ := id X
  have hown : s.vm.findClass RX9 = some m.cls := hown
  have hl : lv_has ls 5 [(0, .ref h), (1, .ref h_p1), (2, .int a2)] := hl
  unfold f_X9_fill at hf
  refine lv_iload_n hx hb dX9_fill_0 rfl (lv_at hl 2 rfl) ?_
  obtain ⟨r_1, hf_2, hf⟩ := obind hf
  refine gcSN (rest := []) (wn := [oX9 h h_words h_stack v_depth, oX2 h_p1 h_p1_symbols h_p1_opens h_p1_closes h_p1_steps v_p1_length v_p1_stepCount, aI g h_p1_steps 160 v_p1_steps, aJ g h_stack 160 v_stack, aJ g h_words 16 v_words]) X hP hD hS hl (c_X11_tableWords l g a2 r_1 hf_2) [] rfl rfl rfl [.inl 0, .inl 1, .inl 2, .inl 3, .inl 4] rfl rfl cd_X11_tableWords rfl st_X11_tableWords ml_X9_18 rfl rfl ⟨(Nat.le_of_ble_eq_true rfl), (Nat.le_of_ble_eq_true rfl)⟩ rfl (Nat.le_of_ble_eq_true rfl) dX9_fill_1 ⟨(Nat.le_of_ble_eq_true rfl), (Nat.le_of_ble_eq_true rfl)⟩ (fun H locs hP hD hS => ?_)
  refine lv_istore_n (lv' := [(3, .int r_1), (0, .ref h), (1, .ref h_p1), (2, .int a2)]) hx hb dX9_fill_4 rfl hl (by decide) rfl (fun ls hl => ?_)
  refine lv_iconst (v := 0) hx hb dX9_fill_5 (by decide) ?_
  refine lv_istore (lv' := [(4, .int 0), (3, .int r_1), (0, .ref h), (1, .ref h_p1), (2, .int a2)]) hx hb dX9_fill_6 hl (by decide) rfl (fun ls hl => ?_)
  have L_8 : ∀ (n : Nat) (x4_8 : Int32) (v_depth_8 : Int32) (v_stack_8 : Nat → Int64) (v_words_8 : Nat → Int64) (H : Heap) (locs : List Loc) (ls : Array Slot) (K_8 : Int32 → Int32 → (Nat → Int64) → (Nat → Int64) → Option (Int32 × (Nat → Int64) × (Nat → Int64))), va_P g.1 vwCl [oX9 h h_words h_stack v_depth_8, oX2 h_p1 h_p1_symbols h_p1_opens h_p1_closes h_p1_steps v_p1_length v_p1_stepCount, aI g h_p1_steps 160 v_p1_steps, aJ g h_stack 160 v_stack_8, aJ g h_words 16 v_words_8] H → va_D A [oX9 h h_words h_stack v_depth_8, oX2 h_p1 h_p1_symbols h_p1_opens h_p1_closes h_p1_steps v_p1_length v_p1_stepCount, aI g h_p1_steps 160 v_p1_steps, aJ g h_stack 160 v_stack_8, aJ g h_words 16 v_words_8] → va_S A s.heap H locs → lv_has ls 5 [(0, .ref h), (1, .ref h_p1), (2, .int a2), (3, .int r_1), (4, .int x4_8)] → (∀ (z_x4_8 : Int32) (z_v_depth_8 : Int32) (z_v_stack_8 : Nat → Int64) (z_v_words_8 : Nat → Int64) (H : Heap) (locs : List Loc) (ls : Array Slot), va_P g.1 vwCl [oX9 h h_words h_stack z_v_depth_8, oX2 h_p1 h_p1_symbols h_p1_opens h_p1_closes h_p1_steps v_p1_length v_p1_stepCount, aI g h_p1_steps 160 v_p1_steps, aJ g h_stack 160 z_v_stack_8, aJ g h_words 16 z_v_words_8] H → va_D A [oX9 h h_words h_stack z_v_depth_8, oX2 h_p1 h_p1_symbols h_p1_opens h_p1_closes h_p1_steps v_p1_length v_p1_stepCount, aI g h_p1_steps 160 v_p1_steps, aJ g h_stack 160 z_v_stack_8, aJ g h_words 16 z_v_words_8] → va_S A s.heap H locs → lv_has ls 5 [(0, .ref h), (1, .ref h_p1), (2, .int a2), (3, .int r_1), (4, .int z_x4_8)] → K_8 z_x4_8 z_v_depth_8 z_v_stack_8 z_v_words_8 = some (u_depth, u_stack, u_words) → W p l e ({ frames := 3, cells := 0, slots := 0, locals := 70 }) s m [.ref h, .ref h_p1, .int a2].toArray below meth c H locs 0 0 (MQ below (fun _ => QW g [oX9 h h_words h_stack v_depth, oX2 h_p1 h_p1_symbols h_p1_opens h_p1_closes h_p1_steps v_p1_length v_p1_stepCount, aI g h_p1_steps 160 v_p1_steps, aJ g h_stack 160 v_stack, aJ g h_words 16 v_words] s.heap.size none [oX9 h h_words h_stack u_depth, oX2 h_p1 h_p1_symbols h_p1_opens h_p1_closes h_p1_steps v_p1_length v_p1_stepCount, aI g h_p1_steps 160 v_p1_steps, aJ g h_stack 160 u_stack, aJ g h_words 16 u_words]) [.ref h, .ref h_p1, .int a2].toArray s 0 0 (va_A [oX9 h h_words h_stack v_depth, oX2 h_p1 h_p1_symbols h_p1_opens h_p1_closes h_p1_steps v_p1_length v_p1_stepCount, aI g h_p1_steps 160 v_p1_steps, aJ g h_stack 160 v_stack, aJ g h_words 16 v_words] s.heap.size)) (F0 m 42 ls [])) → lp_X9_fill_8 a2 r_1 v_p1_stepCount v_p1_steps n x4_8 v_depth_8 v_stack_8 v_words_8 K_8 = some (u_depth, u_stack, u_words) → W p l e ({ frames := 3, cells := 0, slots := 0, locals := 70 }) s m [.ref h, .ref h_p1, .int a2].toArray below meth c H locs 0 0 (MQ below (fun _ => QW g [oX9 h h_words h_stack v_depth, oX2 h_p1 h_p1_symbols h_p1_opens h_p1_closes h_p1_steps v_p1_length v_p1_stepCount, aI g h_p1_steps 160 v_p1_steps, aJ g h_stack 160 v_stack, aJ g h_words 16 v_words] s.heap.size none [oX9 h h_words h_stack u_depth, oX2 h_p1 h_p1_symbols h_p1_opens h_p1_closes h_p1_steps v_p1_length v_p1_stepCount, aI g h_p1_steps 160 v_p1_steps, aJ g h_stack 160 u_stack, aJ g h_words 16 u_words]) [.ref h, .ref h_p1, .int a2].toArray s 0 0 (va_A [oX9 h h_words h_stack v_depth, oX2 h_p1 h_p1_symbols h_p1_opens h_p1_closes h_p1_steps v_p1_length v_p1_stepCount, aI g h_p1_steps 160 v_p1_steps, aJ g h_stack 160 v_stack, aJ g h_words 16 v_words] s.heap.size)) (F0 m 8 ls []) := by
    intro n
    induction n with
    | zero =>
      intro x4_8 v_depth_8 v_stack_8 v_words_8 H locs ls K_8 hP hD hS hl hk hf
      have hf : (none : Option (Int32 × (Nat → Int64) × (Nat → Int64))) = some _ := hf
      cases hf
    | succ n_8 ih_8 =>
      intro x4_8 v_depth_8 v_stack_8 v_words_8 H locs ls K_8 hP hD hS hl hk_8 hf
      refine lv_iload hx hb dX9_fill_8 (lv_at hl 4 rfl) ?_
      refine lv_iload_n hx hb dX9_fill_10 rfl (lv_at hl 3 rfl) ?_
      refine lv_icmp_ge (tgt := 42) hx hb dX9_fill_11 (by decide) (fun c_14 => ?_) (fun c_14 => ?_)
      · have hf := ift hf c_14
        exact hk_8 x4_8 v_depth_8 v_stack_8 v_words_8 H locs ls hP hD hS (lv_sub hl [0, 1, 2, 3, 4] rfl) hf
      · have hf := iff_ hf c_14
        refine lv_iload hx hb dX9_fill_14 (lv_at hl 4 rfl) ?_
        refine lv_bipush (v := 16) hx hb dX9_fill_16 (by decide) ?_
        refine lv_icmp_ge (tgt := 42) hx hb dX9_fill_18 (by decide) (fun c_15 => ?_) (fun c_15 => ?_)
        · have hf := ift hf c_15
          exact hk_8 x4_8 v_depth_8 v_stack_8 v_words_8 H locs ls hP hD hS (lv_sub hl [0, 1, 2, 3, 4] rfl) hf
        · have hf := iff_ hf c_15
          refine lv_aload_n hx hb dX9_fill_21 rfl (lv_at hl 0 rfl) ?_
          refine gf_X9_9 X rfl hP 0 rfl rfl dX9_fill_22 ?_
          refine lv_iload hx hb dX9_fill_25 (lv_at hl 4 rfl) ?_
          refine lv_aload_n hx hb dX9_fill_27 rfl (lv_at hl 0 rfl) ?_
          refine lv_aload_n hx hb dX9_fill_28 rfl (lv_at hl 1 rfl) ?_
          refine lv_iload_n hx hb dX9_fill_29 rfl (lv_at hl 2 rfl) ?_
          refine lv_iload hx hb dX9_fill_30 (lv_at hl 4 rfl) ?_
          obtain ⟨⟨r_16, v_depth_17, v_stack_18⟩, hf_19, hf⟩ := obind hf
          refine gcV (rest := [.int x4_8, .ref h_words]) (wn := [oX9 h h_words h_stack v_depth_17, oX2 h_p1 h_p1_symbols h_p1_opens h_p1_closes h_p1_steps v_p1_length v_p1_stepCount, aI g h_p1_steps 160 v_p1_steps, aJ g h_stack 160 v_stack_18, aJ g h_words 16 v_words_8]) X hP hD hS hl (c_X9_reckon l g h h_words h_stack v_depth_8 h_p1 h_p1_symbols h_p1_opens h_p1_closes h_p1_steps v_p1_length v_p1_stepCount v_p1_steps v_stack_8 a2 x4_8 r_16 v_depth_17 v_stack_18 hf_19) [0, 1, 2, 3] rfl rfl rfl [.inr 0, .inr 1, .inr 2, .inr 3, .inl 4] rfl rfl cd_X9_reckon rfl im_X9_reckon se_X9_reckon ml_X9_22 0 rfl rfl rfl rfl rfl ⟨(Nat.le_of_ble_eq_true rfl), (Nat.le_of_ble_eq_true rfl)⟩ rfl (Nat.le_of_ble_eq_true rfl) dX9_fill_32 ⟨(Nat.le_of_ble_eq_true rfl), (Nat.le_of_ble_eq_true rfl)⟩ (fun H locs hP hD hS => ?_)
          obtain ⟨hi_20, hf⟩ := ifs hf
          refine va_last (D := g.1) hx hb hG.1 hP hD hS 4 2 rfl rfl (ix_in hi_20) dX9_fill_35 (fun H locs hP hD hS => ?_)
          have hP : va_P g.1 vwCl [oX9 h h_words h_stack v_depth_17, oX2 h_p1 h_p1_symbols h_p1_opens h_p1_closes h_p1_steps v_p1_length v_p1_stepCount, aI g h_p1_steps 160 v_p1_steps, aJ g h_stack 160 v_stack_18, aJ g h_words 16 (vp_updL v_words_8 x4_8.toNatClampNeg r_16)] H := hP
          have hD : va_D A [oX9 h h_words h_stack v_depth_17, oX2 h_p1 h_p1_symbols h_p1_opens h_p1_closes h_p1_steps v_p1_length v_p1_stepCount, aI g h_p1_steps 160 v_p1_steps, aJ g h_stack 160 v_stack_18, aJ g h_words 16 (vp_updL v_words_8 x4_8.toNatClampNeg r_16)] := hD
          refine lv_iinc (v := x4_8 + 1) (lv' := [(4, .int (x4_8 + 1)), (0, .ref h), (1, .ref h_p1), (2, .int a2), (3, .int r_1)]) hx hb dX9_fill_36 hl (k := 4) rfl rfl (by decide) rfl (fun ls hl => ?_)
          refine lv_goto (tgt := 8) hx hb dX9_fill_39 (by decide) ?_
          exact ih_8 (x4_8 + 1) v_depth_17 v_stack_18 (vp_updL v_words_8 x4_8.toNatClampNeg r_16) H locs ls K_8 hP hD hS (lv_sub hl [1, 2, 3, 4, 0] rfl) hk_8 hf
  refine L_8 _ _ _ _ _ _ _ ls _ hP hD hS (lv_sub hl [2, 3, 4, 1, 0] rfl) (fun x4_8_10 v_depth_8_11 v_stack_8_12 v_words_8_13 H locs ls hP hD hS hl hf => ?_) hf
  cases hf
  exact ret_v X hAe hP hD hS rfl dX9_fill_42
def f_X9_wordAt (v_words : Nat → Int64) (a1 : Int32) : Option (Int64) :=
  (f_X11_within a1 16).bind fun r_1 =>
  if b2i r_1 = 0 then
  some 0
  else
  (if ix a1 16 then
  some (v_words a1.toNatClampNeg)
  else none)
set_option maxHeartbeats 4000000 in
set_option maxRecDepth 100000 in
theorem c_X9_wordAt (l : Launch) (g : GT) (h : Nat) (h_words : Nat) (h_stack : Nat) (v_depth : Int32) (v_words : Nat → Int64) (a1 : Int32) (r_ : Int64) (hf : f_X9_wordAt v_words a1 = some r_) : Con l g yX9_wordAt cX9_wordAt 2 (some .long) ({ frames := 1, cells := 0, slots := 0, locals := 21 }) [.ref h, .int a1] [oX9 h h_words h_stack v_depth, aJ g h_words 16 v_words] (some (.long r_)) [oX9 h h_words h_stack v_depth, aJ g h_words 16 v_words] := by
  refine Con.of (by decide) (Nat.le_of_ble_eq_true rfl) ?_
  intro p e s m below meth c A ls hAe X hP hD hS hl
  obtain ⟨hx, hb, hml, hr, hown, hts, hlk, hnm, hA, hG, hZ⟩ := id X
  have hown : s.vm.findClass RX9 = some m.cls := hown
  have hl : lv_has ls 2 [(0, .ref h), (1, .int a1)] := hl
  unfold f_X9_wordAt at hf
  refine lv_iload_n hx hb dX9_wordAt_0 rfl (lv_at hl 1 rfl) ?_
  refine lv_bipush (v := 16) hx hb dX9_wordAt_1 (by decide) ?_
  obtain ⟨r_1, hf_2, hf⟩ := obind hf
  refine gcSN (rest := []) (wn := [oX9 h h_words h_stack v_depth, aJ g h_words 16 v_words]) X hP hD hS hl (c_X11_within l g a1 16 r_1 hf_2) [] rfl rfl rfl [.inl 0, .inl 1] rfl rfl cd_X11_within rfl st_X11_within ml_X9_26 rfl rfl ⟨(Nat.le_of_ble_eq_true rfl), (Nat.le_of_ble_eq_true rfl)⟩ rfl (Nat.le_of_ble_eq_true rfl) dX9_wordAt_3 ⟨(Nat.le_of_ble_eq_true rfl), (Nat.le_of_ble_eq_true rfl)⟩ (fun H locs hP hD hS => ?_)
  refine lv_if_eq (tgt := 18) hx hb dX9_wordAt_6 (by decide) (fun c_3 => ?_) (fun c_3 => ?_)
  · have hf := ift hf c_3
    refine lv_lconst (v := 0) hx hb dX9_wordAt_18 (by decide) ?_
    cases hf
    exact ret_l X hAe hP hD hS rfl dX9_wordAt_19
  · have hf := iff_ hf c_3
    refine lv_aload_n hx hb dX9_wordAt_9 rfl (lv_at hl 0 rfl) ?_
    refine gf_X9_9 X rfl hP 0 rfl rfl dX9_wordAt_10 ?_
    refine lv_iload_n hx hb dX9_wordAt_13 rfl (lv_at hl 1 rfl) ?_
    obtain ⟨hi_4, hf⟩ := ifs hf
    refine va_lald (D := g.1) hx hb hG.1 hP 1 2 rfl rfl (ix_in hi_4) dX9_wordAt_14 ?_
    refine lv_goto (tgt := 19) hx hb dX9_wordAt_15 (by decide) ?_
    cases hf
    exact ret_l X hAe hP hD hS rfl dX9_wordAt_19
