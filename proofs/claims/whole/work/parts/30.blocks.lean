def f_X0_clear (v_words : Int32) (v_count : Int32) (v_names : Int32) : Option (Int32 × Int32 × Int32) :=
  some (0, 0, 0)
set_option maxHeartbeats 4000000 in
set_option maxRecDepth 100000 in
theorem c_X0_clear (l : Launch) (g : GT) (h : Nat) (h_owners : Nat) (h_sizes : Nat) (h_nameCodes : Nat) (h_nameBlocks : Nat) (v_words : Int32) (v_count : Int32) (v_names : Int32) (u_words : Int32) (u_count : Int32) (u_names : Int32) (hf : f_X0_clear v_words v_count v_names = some (u_words, u_count, u_names)) : Con l g yX0_clear cX0_clear 1 none ({ frames := 0, cells := 0, slots := 0, locals := 0 }) [.ref h] [oX0 h h_owners h_sizes h_nameCodes h_nameBlocks v_words v_count v_names] none [oX0 h h_owners h_sizes h_nameCodes h_nameBlocks u_words u_count u_names] := by
  refine Con.of (by decide) (Nat.le_of_ble_eq_true rfl) ?_
  intro p e s m below meth c A ls hAe X hP hD hS hl
  obtain ⟨hx, hb, hml, hr, hown, hts, hlk, hnm, hA, hG, hZ⟩ := id X
  have hown : s.vm.findClass RX0 = some m.cls := hown
  have hl : lv_has ls 1 [(0, .ref h)] := hl
  unfold f_X0_clear at hf
  refine lv_aload_n hx hb dX0_clear_0 rfl (lv_at hl 0 rfl) ?_
  refine lv_iconst (v := 0) hx hb dX0_clear_1 (by decide) ?_
  refine pf_X0_24 X rfl hP hD hS 0 rfl (Nat.le_of_ble_eq_true rfl) dX0_clear_2 (fun H locs hP hD hS => ?_)
  have hP : va_P g.1 vwCl [oX0 h h_owners h_sizes h_nameCodes h_nameBlocks 0 v_count v_names] H := hP
  have hD : va_D A [oX0 h h_owners h_sizes h_nameCodes h_nameBlocks 0 v_count v_names] := hD
  refine lv_aload_n hx hb dX0_clear_5 rfl (lv_at hl 0 rfl) ?_
  refine lv_iconst (v := 0) hx hb dX0_clear_6 (by decide) ?_
  refine pf_X0_28 X rfl hP hD hS 0 rfl (Nat.le_of_ble_eq_true rfl) dX0_clear_7 (fun H locs hP hD hS => ?_)
  have hP : va_P g.1 vwCl [oX0 h h_owners h_sizes h_nameCodes h_nameBlocks 0 0 v_names] H := hP
  have hD : va_D A [oX0 h h_owners h_sizes h_nameCodes h_nameBlocks 0 0 v_names] := hD
  refine lv_aload_n hx hb dX0_clear_10 rfl (lv_at hl 0 rfl) ?_
  refine lv_iconst (v := 0) hx hb dX0_clear_11 (by decide) ?_
  refine pf_X0_31 X rfl hP hD hS 0 rfl (Nat.le_of_ble_eq_true rfl) dX0_clear_12 (fun H locs hP hD hS => ?_)
  have hP : va_P g.1 vwCl [oX0 h h_owners h_sizes h_nameCodes h_nameBlocks 0 0 0] H := hP
  have hD : va_D A [oX0 h h_owners h_sizes h_nameCodes h_nameBlocks 0 0 0] := hD
  cases hf
  exact ret_v X hAe hP hD hS rfl dX0_clear_15
def f_X11_within (a1 : Int32) (a2 : Int32) : Option (Bool) :=
  if a1 < 0 then
  some false
  else
  (if a2 ≤ a1 then
  some false
  else
  some true)
set_option maxHeartbeats 4000000 in
set_option maxRecDepth 100000 in
theorem c_X11_within (l : Launch) (g : GT) (a1 : Int32) (a2 : Int32) (r_ : Bool) (hf : f_X11_within a1 a2 = some r_) : Con l g yX11_within cX11_within 2 (some .boolean) ({ frames := 0, cells := 0, slots := 0, locals := 0 }) [.int a1, .int a2] [] (some (.int (b2i r_))) [] := by
  refine Con.of (by decide) (Nat.le_of_ble_eq_true rfl) ?_
  intro p e s m below meth c A ls hAe X hP hD hS hl
  obtain ⟨hx, hb, hml, hr, hown, hts, hlk, hnm, hA, hG, hZ⟩ := id X
  have hown : s.vm.findClass RX11 = some m.cls := hown
  have hl : lv_has ls 2 [(0, .int a1), (1, .int a2)] := hl
  unfold f_X11_within at hf
  refine lv_iload_n hx hb dX11_within_0 rfl (lv_at hl 0 rfl) ?_
  refine lv_if_lt (tgt := 13) hx hb dX11_within_1 (by decide) (fun c_1 => ?_) (fun c_1 => ?_)
  · have hf := ift hf c_1
    refine lv_iconst (v := 0) hx hb dX11_within_13 (by decide) ?_
    cases hf
    exact ret_z (v := false) X hAe hP hD hS rfl dX11_within_14
  · have hf := iff_ hf c_1
    refine lv_iload_n hx hb dX11_within_4 rfl (lv_at hl 0 rfl) ?_
    refine lv_iload_n hx hb dX11_within_5 rfl (lv_at hl 1 rfl) ?_
    refine lv_icmp_ge (tgt := 13) hx hb dX11_within_6 (by decide) (fun c_2 => ?_) (fun c_2 => ?_)
    · have hf := ift hf c_2
      refine lv_iconst (v := 0) hx hb dX11_within_13 (by decide) ?_
      cases hf
      exact ret_z (v := false) X hAe hP hD hS rfl dX11_within_14
    · have hf := iff_ hf c_2
      refine lv_iconst (v := 1) hx hb dX11_within_9 (by decide) ?_
      refine lv_goto (tgt := 14) hx hb dX11_within_10 (by decide) ?_
      cases hf
      exact ret_z (v := true) X hAe hP hD hS rfl dX11_within_14
def f_X0_ownerOf (v_count : Int32) (v_owners : Nat → Int32) (a1 : Int32) : Option (Int32) :=
  (f_X11_within a1 v_count).bind fun r_1 =>
  if b2i r_1 = 0 then
  some (-1)
  else
  (if 6 ≤ a1 then
  some (-1)
  else
  (if ix a1 6 then
  some (v_owners a1.toNatClampNeg)
  else none))
set_option maxHeartbeats 4000000 in
set_option maxRecDepth 100000 in
theorem c_X0_ownerOf (l : Launch) (g : GT) (h : Nat) (h_owners : Nat) (h_sizes : Nat) (h_nameCodes : Nat) (h_nameBlocks : Nat) (v_words : Int32) (v_count : Int32) (v_names : Int32) (v_owners : Nat → Int32) (a1 : Int32) (r_ : Int32) (hf : f_X0_ownerOf v_count v_owners a1 = some r_) : Con l g yX0_ownerOf cX0_ownerOf 2 (some .int) ({ frames := 1, cells := 0, slots := 0, locals := 21 }) [.ref h, .int a1] [oX0 h h_owners h_sizes h_nameCodes h_nameBlocks v_words v_count v_names, aI g h_owners 6 v_owners] (some (.int r_)) [oX0 h h_owners h_sizes h_nameCodes h_nameBlocks v_words v_count v_names, aI g h_owners 6 v_owners] := by
  refine Con.of (by decide) (Nat.le_of_ble_eq_true rfl) ?_
  intro p e s m below meth c A ls hAe X hP hD hS hl
  obtain ⟨hx, hb, hml, hr, hown, hts, hlk, hnm, hA, hG, hZ⟩ := id X
  have hown : s.vm.findClass RX0 = some m.cls := hown
  have hl : lv_has ls 2 [(0, .ref h), (1, .int a1)] := hl
  unfold f_X0_ownerOf at hf
  refine lv_iload_n hx hb dX0_ownerOf_0 rfl (lv_at hl 1 rfl) ?_
  refine lv_aload_n hx hb dX0_ownerOf_1 rfl (lv_at hl 0 rfl) ?_
  refine gf_X0_28 X rfl hP 0 rfl rfl dX0_ownerOf_2 ?_
  obtain ⟨r_1, hf_2, hf⟩ := obind hf
  refine gcSN (rest := []) (wn := [oX0 h h_owners h_sizes h_nameCodes h_nameBlocks v_words v_count v_names, aI g h_owners 6 v_owners]) X hP hD hS hl (c_X11_within l g a1 v_count r_1 hf_2) [] rfl rfl rfl [.inl 0, .inl 1] rfl rfl cd_X11_within rfl st_X11_within ml_X0_38 rfl rfl ⟨(Nat.le_of_ble_eq_true rfl), (Nat.le_of_ble_eq_true rfl)⟩ rfl (Nat.le_of_ble_eq_true rfl) dX0_ownerOf_5 ⟨(Nat.le_of_ble_eq_true rfl), (Nat.le_of_ble_eq_true rfl)⟩ (fun H locs hP hD hS => ?_)
  refine lv_if_eq (tgt := 26) hx hb dX0_ownerOf_8 (by decide) (fun c_3 => ?_) (fun c_3 => ?_)
  · have hf := ift hf c_3
    refine lv_iconst (v := (-1)) hx hb dX0_ownerOf_26 (by decide) ?_
    cases hf
    exact ret_i X hAe hP hD hS rfl dX0_ownerOf_27
  · have hf := iff_ hf c_3
    refine lv_iload_n hx hb dX0_ownerOf_11 rfl (lv_at hl 1 rfl) ?_
    refine lv_bipush (v := 6) hx hb dX0_ownerOf_12 (by decide) ?_
    refine lv_icmp_ge (tgt := 26) hx hb dX0_ownerOf_14 (by decide) (fun c_4 => ?_) (fun c_4 => ?_)
    · have hf := ift hf c_4
      refine lv_iconst (v := (-1)) hx hb dX0_ownerOf_26 (by decide) ?_
      cases hf
      exact ret_i X hAe hP hD hS rfl dX0_ownerOf_27
    · have hf := iff_ hf c_4
      refine lv_aload_n hx hb dX0_ownerOf_17 rfl (lv_at hl 0 rfl) ?_
      refine gf_X0_9 X rfl hP 0 rfl rfl dX0_ownerOf_18 ?_
      refine lv_iload_n hx hb dX0_ownerOf_21 rfl (lv_at hl 1 rfl) ?_
      obtain ⟨hi_5, hf⟩ := ifs hf
      refine va_iald (D := g.1) hx hb hG.1 hP 1 1 rfl rfl (ix_in hi_5) dX0_ownerOf_22 ?_
      refine lv_goto (tgt := 27) hx hb dX0_ownerOf_23 (by decide) ?_
      cases hf
      exact ret_i X hAe hP hD hS rfl dX0_ownerOf_27
def f_X0_addWord (v_words : Int32) (v_count : Int32) (v_owners : Nat → Int32) (v_sizes : Nat → Int32) (a1 : Int32) : Option (Int32 × Int32 × Int32 × (Nat → Int32) × (Nat → Int32)) :=
  if v_words < 6 then
  ((f_X0_ownerOf v_count v_owners (v_count - (1 : Int32))).bind fun r_2 =>
  if r_2 = a1 then
  some (0, v_words + (1 : Int32), v_count, v_owners, v_sizes)
  else
  ((f_X11_within v_count 6).bind fun r_5 =>
  if b2i r_5 = 0 then
  some (0, v_words + (1 : Int32), v_count, v_owners, v_sizes)
  else
  (if ix v_count 6 then
  if ix v_count 6 then
  some (0, v_words + (1 : Int32), v_count + (1 : Int32), upd v_owners v_count.toNatClampNeg a1, upd v_sizes v_count.toNatClampNeg 0)
  else none
  else none)))
  else
  some (4, v_words, v_count, v_owners, v_sizes)
set_option maxHeartbeats 4000000 in
set_option maxRecDepth 100000 in
theorem c_X0_addWord (l : Launch) (g : GT) (h : Nat) (h_owners : Nat) (h_sizes : Nat) (h_nameCodes : Nat) (h_nameBlocks : Nat) (v_words : Int32) (v_count : Int32) (v_names : Int32) (v_owners : Nat → Int32) (v_sizes : Nat → Int32) (a1 : Int32) (r_ : Int32) (u_words : Int32) (u_count : Int32) (u_owners : Nat → Int32) (u_sizes : Nat → Int32) (hf : f_X0_addWord v_words v_count v_owners v_sizes a1 = some (r_, u_words, u_count, u_owners, u_sizes)) : Con l g yX0_addWord cX0_addWord 2 (some .int) ({ frames := 2, cells := 0, slots := 0, locals := 42 }) [.ref h, .int a1] [oX0 h h_owners h_sizes h_nameCodes h_nameBlocks v_words v_count v_names, aI g h_owners 6 v_owners, aI g h_sizes 6 v_sizes] (some (.int r_)) [oX0 h h_owners h_sizes h_nameCodes h_nameBlocks u_words u_count v_names, aI g h_owners 6 u_owners, aI g h_sizes 6 u_sizes] := by
  refine Con.of (by decide) (Nat.le_of_ble_eq_true rfl) ?_
  intro p e s m below meth c A ls hAe X hP hD hS hl
  obtain ⟨hx, hb, hml, hr, hown, hts, hlk, hnm, hA, hG, hZ⟩ := id X
  have hown : s.vm.findClass RX0 = some m.cls := hown
  have hl : lv_has ls 2 [(0, .ref h), (1, .int a1)] := hl
  unfold f_X0_addWord at hf
  refine lv_aload_n hx hb dX0_addWord_0 rfl (lv_at hl 0 rfl) ?_
  refine gf_X0_24 X rfl hP 0 rfl rfl dX0_addWord_1 ?_
  refine lv_bipush (v := 6) hx hb dX0_addWord_4 (by decide) ?_
  refine lv_icmp_lt (tgt := 11) hx hb dX0_addWord_6 (by decide) (fun c_1 => ?_) (fun c_1 => ?_)
  · have hf := ift hf c_1
    refine lv_aload_n hx hb dX0_addWord_11 rfl (lv_at hl 0 rfl) ?_
    refine lv_dup hx hb dX0_addWord_12 rfl ?_
    refine gf_X0_24 X rfl hP 0 rfl rfl dX0_addWord_13 ?_
    refine lv_iconst (v := 1) hx hb dX0_addWord_16 (by decide) ?_
    refine lv_iadd hx hb dX0_addWord_17 ?_
    refine pf_X0_24 X rfl hP hD hS 0 rfl (Nat.le_of_ble_eq_true rfl) dX0_addWord_18 (fun H locs hP hD hS => ?_)
    have hP : va_P g.1 vwCl [oX0 h h_owners h_sizes h_nameCodes h_nameBlocks (v_words + (1 : Int32)) v_count v_names, aI g h_owners 6 v_owners, aI g h_sizes 6 v_sizes] H := hP
    have hD : va_D A [oX0 h h_owners h_sizes h_nameCodes h_nameBlocks (v_words + (1 : Int32)) v_count v_names, aI g h_owners 6 v_owners, aI g h_sizes 6 v_sizes] := hD
    refine lv_aload_n hx hb dX0_addWord_21 rfl (lv_at hl 0 rfl) ?_
    refine lv_aload_n hx hb dX0_addWord_22 rfl (lv_at hl 0 rfl) ?_
    refine gf_X0_28 X rfl hP 0 rfl rfl dX0_addWord_23 ?_
    refine lv_iconst (v := 1) hx hb dX0_addWord_26 (by decide) ?_
    refine lv_isub hx hb dX0_addWord_27 ?_
    obtain ⟨r_2, hf_3, hf⟩ := obind hf
    refine gcV (rest := []) (wn := [oX0 h h_owners h_sizes h_nameCodes h_nameBlocks (v_words + (1 : Int32)) v_count v_names, aI g h_owners 6 v_owners, aI g h_sizes 6 v_sizes]) X hP hD hS hl (c_X0_ownerOf l g h h_owners h_sizes h_nameCodes h_nameBlocks (v_words + (1 : Int32)) v_count v_names v_owners (v_count - (1 : Int32)) r_2 hf_3) [0, 1] rfl rfl rfl [.inr 0, .inr 1, .inl 2] rfl rfl cd_X0_ownerOf rfl im_X0_ownerOf se_X0_ownerOf ml_X0_34 0 rfl rfl rfl rfl rfl ⟨(Nat.le_of_ble_eq_true rfl), (Nat.le_of_ble_eq_true rfl)⟩ rfl (Nat.le_of_ble_eq_true rfl) dX0_addWord_28 ⟨(Nat.le_of_ble_eq_true rfl), (Nat.le_of_ble_eq_true rfl)⟩ (fun H locs hP hD hS => ?_)
    refine lv_iload_n hx hb dX0_addWord_31 rfl (lv_at hl 1 rfl) ?_
    refine lv_icmp_eq (tgt := 77) hx hb dX0_addWord_32 (by decide) (fun c_4 => ?_) (fun c_4 => ?_)
    · have hf := ift hf c_4
      refine lv_iconst (v := 0) hx hb dX0_addWord_77 (by decide) ?_
      cases hf
      exact ret_i X hAe hP hD hS rfl dX0_addWord_78
    · have hf := iff_ hf c_4
      refine lv_aload_n hx hb dX0_addWord_35 rfl (lv_at hl 0 rfl) ?_
      refine gf_X0_28 X rfl hP 0 rfl rfl dX0_addWord_36 ?_
      refine lv_bipush (v := 6) hx hb dX0_addWord_39 (by decide) ?_
      obtain ⟨r_5, hf_6, hf⟩ := obind hf
      refine gcSN (rest := []) (wn := [oX0 h h_owners h_sizes h_nameCodes h_nameBlocks (v_words + (1 : Int32)) v_count v_names, aI g h_owners 6 v_owners, aI g h_sizes 6 v_sizes]) X hP hD hS hl (c_X11_within l g v_count 6 r_5 hf_6) [] rfl rfl rfl [.inl 0, .inl 1, .inl 2] rfl rfl cd_X11_within rfl st_X11_within ml_X0_38 rfl rfl ⟨(Nat.le_of_ble_eq_true rfl), (Nat.le_of_ble_eq_true rfl)⟩ rfl (Nat.le_of_ble_eq_true rfl) dX0_addWord_41 ⟨(Nat.le_of_ble_eq_true rfl), (Nat.le_of_ble_eq_true rfl)⟩ (fun H locs hP hD hS => ?_)
      refine lv_if_eq (tgt := 77) hx hb dX0_addWord_44 (by decide) (fun c_7 => ?_) (fun c_7 => ?_)
      · have hf := ift hf c_7
        refine lv_iconst (v := 0) hx hb dX0_addWord_77 (by decide) ?_
        cases hf
        exact ret_i X hAe hP hD hS rfl dX0_addWord_78
      · have hf := iff_ hf c_7
        refine lv_aload_n hx hb dX0_addWord_47 rfl (lv_at hl 0 rfl) ?_
        refine gf_X0_9 X rfl hP 0 rfl rfl dX0_addWord_48 ?_
        refine lv_aload_n hx hb dX0_addWord_51 rfl (lv_at hl 0 rfl) ?_
        refine gf_X0_28 X rfl hP 0 rfl rfl dX0_addWord_52 ?_
        refine lv_iload_n hx hb dX0_addWord_55 rfl (lv_at hl 1 rfl) ?_
        obtain ⟨hi_8, hf⟩ := ifs hf
        refine va_iast (D := g.1) hx hb hG.1 hP hD hS 1 1 rfl rfl (ix_in hi_8) dX0_addWord_56 (fun H locs hP hD hS => ?_)
        have hP : va_P g.1 vwCl [oX0 h h_owners h_sizes h_nameCodes h_nameBlocks (v_words + (1 : Int32)) v_count v_names, aI g h_owners 6 (upd v_owners v_count.toNatClampNeg a1), aI g h_sizes 6 v_sizes] H := hP
        have hD : va_D A [oX0 h h_owners h_sizes h_nameCodes h_nameBlocks (v_words + (1 : Int32)) v_count v_names, aI g h_owners 6 (upd v_owners v_count.toNatClampNeg a1), aI g h_sizes 6 v_sizes] := hD
        refine lv_aload_n hx hb dX0_addWord_57 rfl (lv_at hl 0 rfl) ?_
        refine gf_X0_15 X rfl hP 0 rfl rfl dX0_addWord_58 ?_
        refine lv_aload_n hx hb dX0_addWord_61 rfl (lv_at hl 0 rfl) ?_
        refine gf_X0_28 X rfl hP 0 rfl rfl dX0_addWord_62 ?_
        refine lv_iconst (v := 0) hx hb dX0_addWord_65 (by decide) ?_
        obtain ⟨hi_9, hf⟩ := ifs hf
        refine va_iast (D := g.1) hx hb hG.1 hP hD hS 2 1 rfl rfl (ix_in hi_9) dX0_addWord_66 (fun H locs hP hD hS => ?_)
        have hP : va_P g.1 vwCl [oX0 h h_owners h_sizes h_nameCodes h_nameBlocks (v_words + (1 : Int32)) v_count v_names, aI g h_owners 6 (upd v_owners v_count.toNatClampNeg a1), aI g h_sizes 6 (upd v_sizes v_count.toNatClampNeg 0)] H := hP
        have hD : va_D A [oX0 h h_owners h_sizes h_nameCodes h_nameBlocks (v_words + (1 : Int32)) v_count v_names, aI g h_owners 6 (upd v_owners v_count.toNatClampNeg a1), aI g h_sizes 6 (upd v_sizes v_count.toNatClampNeg 0)] := hD
        refine lv_aload_n hx hb dX0_addWord_67 rfl (lv_at hl 0 rfl) ?_
        refine lv_dup hx hb dX0_addWord_68 rfl ?_
        refine gf_X0_28 X rfl hP 0 rfl rfl dX0_addWord_69 ?_
        refine lv_iconst (v := 1) hx hb dX0_addWord_72 (by decide) ?_
        refine lv_iadd hx hb dX0_addWord_73 ?_
        refine pf_X0_28 X rfl hP hD hS 0 rfl (Nat.le_of_ble_eq_true rfl) dX0_addWord_74 (fun H locs hP hD hS => ?_)
        have hP : va_P g.1 vwCl [oX0 h h_owners h_sizes h_nameCodes h_nameBlocks (v_words + (1 : Int32)) (v_count + (1 : Int32)) v_names, aI g h_owners 6 (upd v_owners v_count.toNatClampNeg a1), aI g h_sizes 6 (upd v_sizes v_count.toNatClampNeg 0)] H := hP
        have hD : va_D A [oX0 h h_owners h_sizes h_nameCodes h_nameBlocks (v_words + (1 : Int32)) (v_count + (1 : Int32)) v_names, aI g h_owners 6 (upd v_owners v_count.toNatClampNeg a1), aI g h_sizes 6 (upd v_sizes v_count.toNatClampNeg 0)] := hD
        refine lv_iconst (v := 0) hx hb dX0_addWord_77 (by decide) ?_
        cases hf
        exact ret_i X hAe hP hD hS rfl dX0_addWord_78
  · have hf := iff_ hf c_1
    refine lv_iconst (v := 4) hx hb dX0_addWord_9 (by decide) ?_
    cases hf
    exact ret_i X hAe hP hD hS rfl dX0_addWord_10
def f_X0_codeOf (v_names : Int32) (v_nameCodes : Nat → Int32) (a1 : Int32) : Option (Int32) :=
  (f_X11_within a1 v_names).bind fun r_1 =>
  if b2i r_1 = 0 then
  some (-1)
  else
  (if 10 ≤ a1 then
  some (-1)
  else
  (if ix a1 10 then
  some (v_nameCodes a1.toNatClampNeg)
  else none))
set_option maxHeartbeats 4000000 in
set_option maxRecDepth 100000 in
theorem c_X0_codeOf (l : Launch) (g : GT) (h : Nat) (h_owners : Nat) (h_sizes : Nat) (h_nameCodes : Nat) (h_nameBlocks : Nat) (v_words : Int32) (v_count : Int32) (v_names : Int32) (v_nameCodes : Nat → Int32) (a1 : Int32) (r_ : Int32) (hf : f_X0_codeOf v_names v_nameCodes a1 = some r_) : Con l g yX0_codeOf cX0_codeOf 2 (some .int) ({ frames := 1, cells := 0, slots := 0, locals := 21 }) [.ref h, .int a1] [oX0 h h_owners h_sizes h_nameCodes h_nameBlocks v_words v_count v_names, aI g h_nameCodes 10 v_nameCodes] (some (.int r_)) [oX0 h h_owners h_sizes h_nameCodes h_nameBlocks v_words v_count v_names, aI g h_nameCodes 10 v_nameCodes] := by
  refine Con.of (by decide) (Nat.le_of_ble_eq_true rfl) ?_
  intro p e s m below meth c A ls hAe X hP hD hS hl
  obtain ⟨hx, hb, hml, hr, hown, hts, hlk, hnm, hA, hG, hZ⟩ := id X
  have hown : s.vm.findClass RX0 = some m.cls := hown
  have hl : lv_has ls 2 [(0, .ref h), (1, .int a1)] := hl
  unfold f_X0_codeOf at hf
  refine lv_iload_n hx hb dX0_codeOf_0 rfl (lv_at hl 1 rfl) ?_
  refine lv_aload_n hx hb dX0_codeOf_1 rfl (lv_at hl 0 rfl) ?_
  refine gf_X0_31 X rfl hP 0 rfl rfl dX0_codeOf_2 ?_
  obtain ⟨r_1, hf_2, hf⟩ := obind hf
  refine gcSN (rest := []) (wn := [oX0 h h_owners h_sizes h_nameCodes h_nameBlocks v_words v_count v_names, aI g h_nameCodes 10 v_nameCodes]) X hP hD hS hl (c_X11_within l g a1 v_names r_1 hf_2) [] rfl rfl rfl [.inl 0, .inl 1] rfl rfl cd_X11_within rfl st_X11_within ml_X0_38 rfl rfl ⟨(Nat.le_of_ble_eq_true rfl), (Nat.le_of_ble_eq_true rfl)⟩ rfl (Nat.le_of_ble_eq_true rfl) dX0_codeOf_5 ⟨(Nat.le_of_ble_eq_true rfl), (Nat.le_of_ble_eq_true rfl)⟩ (fun H locs hP hD hS => ?_)
  refine lv_if_eq (tgt := 26) hx hb dX0_codeOf_8 (by decide) (fun c_3 => ?_) (fun c_3 => ?_)
  · have hf := ift hf c_3
    refine lv_iconst (v := (-1)) hx hb dX0_codeOf_26 (by decide) ?_
    cases hf
    exact ret_i X hAe hP hD hS rfl dX0_codeOf_27
  · have hf := iff_ hf c_3
    refine lv_iload_n hx hb dX0_codeOf_11 rfl (lv_at hl 1 rfl) ?_
    refine lv_bipush (v := 10) hx hb dX0_codeOf_12 (by decide) ?_
    refine lv_icmp_ge (tgt := 26) hx hb dX0_codeOf_14 (by decide) (fun c_4 => ?_) (fun c_4 => ?_)
    · have hf := ift hf c_4
      refine lv_iconst (v := (-1)) hx hb dX0_codeOf_26 (by decide) ?_
      cases hf
      exact ret_i X hAe hP hD hS rfl dX0_codeOf_27
    · have hf := iff_ hf c_4
      refine lv_aload_n hx hb dX0_codeOf_17 rfl (lv_at hl 0 rfl) ?_
      refine gf_X0_18 X rfl hP 0 rfl rfl dX0_codeOf_18 ?_
      refine lv_iload_n hx hb dX0_codeOf_21 rfl (lv_at hl 1 rfl) ?_
      obtain ⟨hi_5, hf⟩ := ifs hf
      refine va_iald (D := g.1) hx hb hG.1 hP 1 1 rfl rfl (ix_in hi_5) dX0_codeOf_22 ?_
      refine lv_goto (tgt := 27) hx hb dX0_codeOf_23 (by decide) ?_
      cases hf
      exact ret_i X hAe hP hD hS rfl dX0_codeOf_27
def lp_X0_find_2 (y1_2 : Int32) (v_names_2f : Int32) (v_nameCodes_2f : Nat → Int32) : Nat → Int32 → (Int32 → Option (Int32)) → Option (Int32)
  | 0, _, _ => none
  | n_2 + 1, x2_2, K_2 =>
    if v_names_2f ≤ x2_2 then
    K_2 x2_2
    else
    ((f_X0_codeOf v_names_2f v_nameCodes_2f x2_2).bind fun r_2 =>
    if r_2 = y1_2 then
    some x2_2
    else
    lp_X0_find_2 y1_2 v_names_2f v_nameCodes_2f n_2 (x2_2 + 1) K_2)
def f_X0_find (v_names : Int32) (v_nameCodes : Nat → Int32) (a1 : Int32) : Option (Int32) :=
  lp_X0_find_2 a1 v_names v_nameCodes 5000 0 (fun x2_2_5 => 
  some (-1))
set_option maxHeartbeats 4000000 in
set_option maxRecDepth 100000 in
theorem c_X0_find (l : Launch) (g : GT) (h : Nat) (h_owners : Nat) (h_sizes : Nat) (h_nameCodes : Nat) (h_nameBlocks : Nat) (v_words : Int32) (v_count : Int32) (v_names : Int32) (v_nameCodes : Nat → Int32) (a1 : Int32) (r_ : Int32) (hf : f_X0_find v_names v_nameCodes a1 = some r_) : Con l g yX0_find cX0_find 3 (some .int) ({ frames := 2, cells := 0, slots := 0, locals := 42 }) [.ref h, .int a1] [oX0 h h_owners h_sizes h_nameCodes h_nameBlocks v_words v_count v_names, aI g h_nameCodes 10 v_nameCodes] (some (.int r_)) [oX0 h h_owners h_sizes h_nameCodes h_nameBlocks v_words v_count v_names, aI g h_nameCodes 10 v_nameCodes] := by
  refine Con.of (by decide) (Nat.le_of_ble_eq_true rfl) ?_
  intro p e s m below meth c A ls hAe X hP hD hS hl
  obtain ⟨hx, hb, hml, hr, hown, hts, hlk, hnm, hA, hG, hZ⟩ := id X
  have hown : s.vm.findClass RX0 = some m.cls := hown
  have hl : lv_has ls 3 [(0, .ref h), (1, .int a1)] := hl
  unfold f_X0_find at hf
  refine lv_iconst (v := 0) hx hb dX0_find_0 (by decide) ?_
  refine lv_istore_n (lv' := [(2, .int 0), (0, .ref h), (1, .int a1)]) hx hb dX0_find_1 rfl hl (by decide) rfl (fun ls hl => ?_)
  have L_2 : ∀ (n : Nat) (x2_2 : Int32) (H : Heap) (locs : List Loc) (ls : Array Slot) (K_2 : Int32 → Option (Int32)), va_P g.1 vwCl [oX0 h h_owners h_sizes h_nameCodes h_nameBlocks v_words v_count v_names, aI g h_nameCodes 10 v_nameCodes] H → va_D A [oX0 h h_owners h_sizes h_nameCodes h_nameBlocks v_words v_count v_names, aI g h_nameCodes 10 v_nameCodes] → va_S A s.heap H locs → lv_has ls 3 [(0, .ref h), (1, .int a1), (2, .int x2_2)] → (∀ (z_x2_2 : Int32) (H : Heap) (locs : List Loc) (ls : Array Slot), va_P g.1 vwCl [oX0 h h_owners h_sizes h_nameCodes h_nameBlocks v_words v_count v_names, aI g h_nameCodes 10 v_nameCodes] H → va_D A [oX0 h h_owners h_sizes h_nameCodes h_nameBlocks v_words v_count v_names, aI g h_nameCodes 10 v_nameCodes] → va_S A s.heap H locs → lv_has ls 3 [(0, .ref h), (1, .int a1), (2, .int z_x2_2)] → K_2 z_x2_2 = some r_ → W p l e ({ frames := 2, cells := 0, slots := 0, locals := 42 }) s m [.ref h, .int a1].toArray below meth c H locs 0 0 (MQ below (fun _ => QW g [oX0 h h_owners h_sizes h_nameCodes h_nameBlocks v_words v_count v_names, aI g h_nameCodes 10 v_nameCodes] s.heap.size (some (.int r_)) [oX0 h h_owners h_sizes h_nameCodes h_nameBlocks v_words v_count v_names, aI g h_nameCodes 10 v_nameCodes]) [.ref h, .int a1].toArray s 0 0 (va_A [oX0 h h_owners h_sizes h_nameCodes h_nameBlocks v_words v_count v_names, aI g h_nameCodes 10 v_nameCodes] s.heap.size)) (F0 m 27 ls [])) → lp_X0_find_2 a1 v_names v_nameCodes n x2_2 K_2 = some r_ → W p l e ({ frames := 2, cells := 0, slots := 0, locals := 42 }) s m [.ref h, .int a1].toArray below meth c H locs 0 0 (MQ below (fun _ => QW g [oX0 h h_owners h_sizes h_nameCodes h_nameBlocks v_words v_count v_names, aI g h_nameCodes 10 v_nameCodes] s.heap.size (some (.int r_)) [oX0 h h_owners h_sizes h_nameCodes h_nameBlocks v_words v_count v_names, aI g h_nameCodes 10 v_nameCodes]) [.ref h, .int a1].toArray s 0 0 (va_A [oX0 h h_owners h_sizes h_nameCodes h_nameBlocks v_words v_count v_names, aI g h_nameCodes 10 v_nameCodes] s.heap.size)) (F0 m 2 ls []) := by
    intro n
    induction n with
    | zero =>
      intro x2_2 H locs ls K_2 hP hD hS hl hk hf
      have hf : (none : Option (Int32)) = some _ := hf
      cases hf
    | succ n_2 ih_2 =>
      intro x2_2 H locs ls K_2 hP hD hS hl hk_2 hf
      refine lv_iload_n hx hb dX0_find_2 rfl (lv_at hl 2 rfl) ?_
      refine lv_aload_n hx hb dX0_find_3 rfl (lv_at hl 0 rfl) ?_
      refine gf_X0_31 X rfl hP 0 rfl rfl dX0_find_4 ?_
      refine lv_icmp_ge (tgt := 27) hx hb dX0_find_7 (by decide) (fun c_6 => ?_) (fun c_6 => ?_)
      · have hf := ift hf c_6
        exact hk_2 x2_2 H locs ls hP hD hS (lv_sub hl [0, 1, 2] rfl) hf
      · have hf := iff_ hf c_6
        refine lv_aload_n hx hb dX0_find_10 rfl (lv_at hl 0 rfl) ?_
        refine lv_iload_n hx hb dX0_find_11 rfl (lv_at hl 2 rfl) ?_
        obtain ⟨r_7, hf_8, hf⟩ := obind hf
        refine gcV (rest := []) (wn := [oX0 h h_owners h_sizes h_nameCodes h_nameBlocks v_words v_count v_names, aI g h_nameCodes 10 v_nameCodes]) X hP hD hS hl (c_X0_codeOf l g h h_owners h_sizes h_nameCodes h_nameBlocks v_words v_count v_names v_nameCodes x2_2 r_7 hf_8) [0, 1] rfl rfl rfl [.inr 0, .inr 1] rfl rfl cd_X0_codeOf rfl im_X0_codeOf se_X0_codeOf ml_X0_45 0 rfl rfl rfl rfl rfl ⟨(Nat.le_of_ble_eq_true rfl), (Nat.le_of_ble_eq_true rfl)⟩ rfl (Nat.le_of_ble_eq_true rfl) dX0_find_12 ⟨(Nat.le_of_ble_eq_true rfl), (Nat.le_of_ble_eq_true rfl)⟩ (fun H locs hP hD hS => ?_)
        refine lv_iload_n hx hb dX0_find_15 rfl (lv_at hl 1 rfl) ?_
        refine lv_icmp_ne (tgt := 21) hx hb dX0_find_16 (by decide) (fun c_9 => ?_) (fun c_9 => ?_)
        · have hf := iff_ hf c_9
          refine lv_iinc (v := x2_2 + 1) (lv' := [(2, .int (x2_2 + 1)), (0, .ref h), (1, .int a1)]) hx hb dX0_find_21 hl (k := 2) rfl rfl (by decide) rfl (fun ls hl => ?_)
          refine lv_goto (tgt := 2) hx hb dX0_find_24 (by decide) ?_
          exact ih_2 (x2_2 + 1) H locs ls K_2 hP hD hS (lv_sub hl [1, 2, 0] rfl) hk_2 hf
        · have hf := ift hf c_9
          refine lv_iload_n hx hb dX0_find_19 rfl (lv_at hl 2 rfl) ?_
          cases hf
          exact ret_i X hAe hP hD hS rfl dX0_find_20
  refine L_2 _ _ _ _ ls _ hP hD hS (lv_sub hl [1, 2, 0] rfl) (fun x2_2_5 H locs ls hP hD hS hl hf => ?_) hf
  refine lv_iconst (v := (-1)) hx hb dX0_find_27 (by decide) ?_
  cases hf
  exact ret_i X hAe hP hD hS rfl dX0_find_28
def f_X0_addName (v_count : Int32) (v_names : Int32) (v_nameCodes : Nat → Int32) (v_nameBlocks : Nat → Int32) (v_sizes : Nat → Int32) (a1 : Int32) : Option (Int32 × Int32 × (Nat → Int32) × (Nat → Int32) × (Nat → Int32)) :=
  (f_X0_find v_names v_nameCodes a1).bind fun r_1 =>
  if r_1 = (-1) then
  ((f_X11_within v_names 10).bind fun r_4 =>
  if b2i r_4 = 0 then
  some (4, v_names, v_nameCodes, v_nameBlocks, v_sizes)
  else
  ((f_X11_within (v_count - (1 : Int32)) 6).bind fun r_7 =>
  if b2i r_7 = 0 then
  some (4, v_names, v_nameCodes, v_nameBlocks, v_sizes)
  else
  (if ix v_names 10 then
  if ix v_names 10 then
  if ix (v_count - (1 : Int32)) 6 then
  if ix (v_count - (1 : Int32)) 6 then
  some (0, v_names + (1 : Int32), upd v_nameCodes v_names.toNatClampNeg a1, upd v_nameBlocks v_names.toNatClampNeg (v_count - (1 : Int32)), upd v_sizes (v_count - (1 : Int32)).toNatClampNeg ((v_sizes (v_count - (1 : Int32)).toNatClampNeg) + (1 : Int32)))
  else none
  else none
  else none
  else none)))
  else
  some (3, v_names, v_nameCodes, v_nameBlocks, v_sizes)
set_option maxHeartbeats 4000000 in
set_option maxRecDepth 100000 in
theorem c_X0_addName (l : Launch) (g : GT) (h : Nat) (h_owners : Nat) (h_sizes : Nat) (h_nameCodes : Nat) (h_nameBlocks : Nat) (v_words : Int32) (v_count : Int32) (v_names : Int32) (v_nameCodes : Nat → Int32) (v_nameBlocks : Nat → Int32) (v_sizes : Nat → Int32) (a1 : Int32) (r_ : Int32) (u_names : Int32) (u_nameCodes : Nat → Int32) (u_nameBlocks : Nat → Int32) (u_sizes : Nat → Int32) (hf : f_X0_addName v_count v_names v_nameCodes v_nameBlocks v_sizes a1 = some (r_, u_names, u_nameCodes, u_nameBlocks, u_sizes)) : Con l g yX0_addName cX0_addName 3 (some .int) ({ frames := 3, cells := 0, slots := 0, locals := 64 }) [.ref h, .int a1] [oX0 h h_owners h_sizes h_nameCodes h_nameBlocks v_words v_count v_names, aI g h_nameCodes 10 v_nameCodes, aI g h_nameBlocks 10 v_nameBlocks, aI g h_sizes 6 v_sizes] (some (.int r_)) [oX0 h h_owners h_sizes h_nameCodes h_nameBlocks v_words v_count u_names, aI g h_nameCodes 10 u_nameCodes, aI g h_nameBlocks 10 u_nameBlocks, aI g h_sizes 6 u_sizes] := by
  refine Con.of (by decide) (Nat.le_of_ble_eq_true rfl) ?_
  intro p e s m below meth c A ls hAe X hP hD hS hl
  obtain ⟨hx, hb, hml, hr, hown, hts, hlk, hnm, hA, hG, hZ⟩ := id X
  have hown : s.vm.findClass RX0 = some m.cls := hown
  have hl : lv_has ls 3 [(0, .ref h), (1, .int a1)] := hl
  unfold f_X0_addName at hf
  refine lv_aload_n hx hb dX0_addName_0 rfl (lv_at hl 0 rfl) ?_
  refine lv_iload_n hx hb dX0_addName_1 rfl (lv_at hl 1 rfl) ?_
  obtain ⟨r_1, hf_2, hf⟩ := obind hf
  refine gcV (rest := []) (wn := [oX0 h h_owners h_sizes h_nameCodes h_nameBlocks v_words v_count v_names, aI g h_nameCodes 10 v_nameCodes, aI g h_nameBlocks 10 v_nameBlocks, aI g h_sizes 6 v_sizes]) X hP hD hS hl (c_X0_find l g h h_owners h_sizes h_nameCodes h_nameBlocks v_words v_count v_names v_nameCodes a1 r_1 hf_2) [0, 1] rfl rfl rfl [.inr 0, .inr 1, .inl 2, .inl 3] rfl rfl cd_X0_find rfl im_X0_find se_X0_find ml_X0_42 0 rfl rfl rfl rfl rfl ⟨(Nat.le_of_ble_eq_true rfl), (Nat.le_of_ble_eq_true rfl)⟩ rfl (Nat.le_of_ble_eq_true rfl) dX0_addName_2 ⟨(Nat.le_of_ble_eq_true rfl), (Nat.le_of_ble_eq_true rfl)⟩ (fun H locs hP hD hS => ?_)
  refine lv_iconst (v := (-1)) hx hb dX0_addName_5 (by decide) ?_
  refine lv_icmp_eq (tgt := 11) hx hb dX0_addName_6 (by decide) (fun c_3 => ?_) (fun c_3 => ?_)
  · have hf := ift hf c_3
    refine lv_aload_n hx hb dX0_addName_11 rfl (lv_at hl 0 rfl) ?_
    refine gf_X0_28 X rfl hP 0 rfl rfl dX0_addName_12 ?_
    refine lv_iconst (v := 1) hx hb dX0_addName_15 (by decide) ?_
    refine lv_isub hx hb dX0_addName_16 ?_
    refine lv_istore_n (lv' := [(2, .int (v_count - (1 : Int32))), (0, .ref h), (1, .int a1)]) hx hb dX0_addName_17 rfl hl (by decide) rfl (fun ls hl => ?_)
    refine lv_aload_n hx hb dX0_addName_18 rfl (lv_at hl 1 rfl) ?_
    refine gf_X0_31 X rfl hP 0 rfl rfl dX0_addName_19 ?_
    refine lv_bipush (v := 10) hx hb dX0_addName_22 (by decide) ?_
    obtain ⟨r_4, hf_5, hf⟩ := obind hf
    refine gcSN (rest := []) (wn := [oX0 h h_owners h_sizes h_nameCodes h_nameBlocks v_words v_count v_names, aI g h_nameCodes 10 v_nameCodes, aI g h_nameBlocks 10 v_nameBlocks, aI g h_sizes 6 v_sizes]) X hP hD hS hl (c_X11_within l g v_names 10 r_4 hf_5) [] rfl rfl rfl [.inl 0, .inl 1, .inl 2, .inl 3] rfl rfl cd_X11_within rfl st_X11_within ml_X0_38 rfl rfl ⟨(Nat.le_of_ble_eq_true rfl), (Nat.le_of_ble_eq_true rfl)⟩ rfl (Nat.le_of_ble_eq_true rfl) dX0_addName_24 ⟨(Nat.le_of_ble_eq_true rfl), (Nat.le_of_ble_eq_true rfl)⟩ (fun H locs hP hD hS => ?_)
    refine lv_if_eq (tgt := 39) hx hb dX0_addName_27 (by decide) (fun c_6 => ?_) (fun c_6 => ?_)
    · have hf := ift hf c_6
      refine lv_iconst (v := 4) hx hb dX0_addName_39 (by decide) ?_
      cases hf
      exact ret_i X hAe hP hD hS rfl dX0_addName_40
    · have hf := iff_ hf c_6
      refine lv_iload_n hx hb dX0_addName_30 rfl (lv_at hl 0 rfl) ?_
      refine lv_bipush (v := 6) hx hb dX0_addName_31 (by decide) ?_
      obtain ⟨r_7, hf_8, hf⟩ := obind hf
      refine gcSN (rest := []) (wn := [oX0 h h_owners h_sizes h_nameCodes h_nameBlocks v_words v_count v_names, aI g h_nameCodes 10 v_nameCodes, aI g h_nameBlocks 10 v_nameBlocks, aI g h_sizes 6 v_sizes]) X hP hD hS hl (c_X11_within l g (v_count - (1 : Int32)) 6 r_7 hf_8) [] rfl rfl rfl [.inl 0, .inl 1, .inl 2, .inl 3] rfl rfl cd_X11_within rfl st_X11_within ml_X0_38 rfl rfl ⟨(Nat.le_of_ble_eq_true rfl), (Nat.le_of_ble_eq_true rfl)⟩ rfl (Nat.le_of_ble_eq_true rfl) dX0_addName_33 ⟨(Nat.le_of_ble_eq_true rfl), (Nat.le_of_ble_eq_true rfl)⟩ (fun H locs hP hD hS => ?_)
      refine lv_if_ne (tgt := 41) hx hb dX0_addName_36 (by decide) (fun c_9 => ?_) (fun c_9 => ?_)
      · have hf := iff_ hf c_9
        refine lv_aload_n hx hb dX0_addName_41 rfl (lv_at hl 1 rfl) ?_
        refine gf_X0_18 X rfl hP 0 rfl rfl dX0_addName_42 ?_
        refine lv_aload_n hx hb dX0_addName_45 rfl (lv_at hl 1 rfl) ?_
        refine gf_X0_31 X rfl hP 0 rfl rfl dX0_addName_46 ?_
        refine lv_iload_n hx hb dX0_addName_49 rfl (lv_at hl 2 rfl) ?_
        obtain ⟨hi_10, hf⟩ := ifs hf
        refine va_iast (D := g.1) hx hb hG.1 hP hD hS 1 1 rfl rfl (ix_in hi_10) dX0_addName_50 (fun H locs hP hD hS => ?_)
        have hP : va_P g.1 vwCl [oX0 h h_owners h_sizes h_nameCodes h_nameBlocks v_words v_count v_names, aI g h_nameCodes 10 (upd v_nameCodes v_names.toNatClampNeg a1), aI g h_nameBlocks 10 v_nameBlocks, aI g h_sizes 6 v_sizes] H := hP
        have hD : va_D A [oX0 h h_owners h_sizes h_nameCodes h_nameBlocks v_words v_count v_names, aI g h_nameCodes 10 (upd v_nameCodes v_names.toNatClampNeg a1), aI g h_nameBlocks 10 v_nameBlocks, aI g h_sizes 6 v_sizes] := hD
        refine lv_aload_n hx hb dX0_addName_51 rfl (lv_at hl 1 rfl) ?_
        refine gf_X0_21 X rfl hP 0 rfl rfl dX0_addName_52 ?_
        refine lv_aload_n hx hb dX0_addName_55 rfl (lv_at hl 1 rfl) ?_
        refine gf_X0_31 X rfl hP 0 rfl rfl dX0_addName_56 ?_
        refine lv_iload_n hx hb dX0_addName_59 rfl (lv_at hl 0 rfl) ?_
        obtain ⟨hi_11, hf⟩ := ifs hf
        refine va_iast (D := g.1) hx hb hG.1 hP hD hS 2 1 rfl rfl (ix_in hi_11) dX0_addName_60 (fun H locs hP hD hS => ?_)
        have hP : va_P g.1 vwCl [oX0 h h_owners h_sizes h_nameCodes h_nameBlocks v_words v_count v_names, aI g h_nameCodes 10 (upd v_nameCodes v_names.toNatClampNeg a1), aI g h_nameBlocks 10 (upd v_nameBlocks v_names.toNatClampNeg (v_count - (1 : Int32))), aI g h_sizes 6 v_sizes] H := hP
        have hD : va_D A [oX0 h h_owners h_sizes h_nameCodes h_nameBlocks v_words v_count v_names, aI g h_nameCodes 10 (upd v_nameCodes v_names.toNatClampNeg a1), aI g h_nameBlocks 10 (upd v_nameBlocks v_names.toNatClampNeg (v_count - (1 : Int32))), aI g h_sizes 6 v_sizes] := hD
        refine lv_aload_n hx hb dX0_addName_61 rfl (lv_at hl 1 rfl) ?_
        refine lv_dup hx hb dX0_addName_62 rfl ?_
        refine gf_X0_31 X rfl hP 0 rfl rfl dX0_addName_63 ?_
        refine lv_iconst (v := 1) hx hb dX0_addName_66 (by decide) ?_
        refine lv_iadd hx hb dX0_addName_67 ?_
        refine pf_X0_31 X rfl hP hD hS 0 rfl (Nat.le_of_ble_eq_true rfl) dX0_addName_68 (fun H locs hP hD hS => ?_)
        have hP : va_P g.1 vwCl [oX0 h h_owners h_sizes h_nameCodes h_nameBlocks v_words v_count (v_names + (1 : Int32)), aI g h_nameCodes 10 (upd v_nameCodes v_names.toNatClampNeg a1), aI g h_nameBlocks 10 (upd v_nameBlocks v_names.toNatClampNeg (v_count - (1 : Int32))), aI g h_sizes 6 v_sizes] H := hP
        have hD : va_D A [oX0 h h_owners h_sizes h_nameCodes h_nameBlocks v_words v_count (v_names + (1 : Int32)), aI g h_nameCodes 10 (upd v_nameCodes v_names.toNatClampNeg a1), aI g h_nameBlocks 10 (upd v_nameBlocks v_names.toNatClampNeg (v_count - (1 : Int32))), aI g h_sizes 6 v_sizes] := hD
        refine lv_aload_n hx hb dX0_addName_71 rfl (lv_at hl 1 rfl) ?_
        refine gf_X0_15 X rfl hP 0 rfl rfl dX0_addName_72 ?_
        refine lv_iload_n hx hb dX0_addName_75 rfl (lv_at hl 0 rfl) ?_
        refine lv_dup2_11 hx hb dX0_addName_76 rfl rfl ?_
        obtain ⟨hi_12, hf⟩ := ifs hf
        refine va_iald (D := g.1) hx hb hG.1 hP 3 1 rfl rfl (ix_in hi_12) dX0_addName_77 ?_
        refine lv_iconst (v := 1) hx hb dX0_addName_78 (by decide) ?_
        refine lv_iadd hx hb dX0_addName_79 ?_
        obtain ⟨hi_13, hf⟩ := ifs hf
        refine va_iast (D := g.1) hx hb hG.1 hP hD hS 3 1 rfl rfl (ix_in hi_13) dX0_addName_80 (fun H locs hP hD hS => ?_)
        have hP : va_P g.1 vwCl [oX0 h h_owners h_sizes h_nameCodes h_nameBlocks v_words v_count (v_names + (1 : Int32)), aI g h_nameCodes 10 (upd v_nameCodes v_names.toNatClampNeg a1), aI g h_nameBlocks 10 (upd v_nameBlocks v_names.toNatClampNeg (v_count - (1 : Int32))), aI g h_sizes 6 (upd v_sizes (v_count - (1 : Int32)).toNatClampNeg ((v_sizes (v_count - (1 : Int32)).toNatClampNeg) + (1 : Int32)))] H := hP
        have hD : va_D A [oX0 h h_owners h_sizes h_nameCodes h_nameBlocks v_words v_count (v_names + (1 : Int32)), aI g h_nameCodes 10 (upd v_nameCodes v_names.toNatClampNeg a1), aI g h_nameBlocks 10 (upd v_nameBlocks v_names.toNatClampNeg (v_count - (1 : Int32))), aI g h_sizes 6 (upd v_sizes (v_count - (1 : Int32)).toNatClampNeg ((v_sizes (v_count - (1 : Int32)).toNatClampNeg) + (1 : Int32)))] := hD
        refine lv_iconst (v := 0) hx hb dX0_addName_81 (by decide) ?_
        cases hf
        exact ret_i X hAe hP hD hS rfl dX0_addName_82
      · have hf := ift hf c_9
        refine lv_iconst (v := 4) hx hb dX0_addName_39 (by decide) ?_
        cases hf
        exact ret_i X hAe hP hD hS rfl dX0_addName_40
  · have hf := iff_ hf c_3
    refine lv_iconst (v := 3) hx hb dX0_addName_9 (by decide) ?_
    cases hf
    exact ret_i X hAe hP hD hS rfl dX0_addName_10
def f_X0_sizeOf (v_count : Int32) (v_sizes : Nat → Int32) (a1 : Int32) : Option (Int32) :=
  (f_X11_within a1 v_count).bind fun r_1 =>
  if b2i r_1 = 0 then
  some (-1)
  else
  (if 6 ≤ a1 then
  some (-1)
  else
  (if ix a1 6 then
  some (v_sizes a1.toNatClampNeg)
  else none))
set_option maxHeartbeats 4000000 in
set_option maxRecDepth 100000 in
theorem c_X0_sizeOf (l : Launch) (g : GT) (h : Nat) (h_owners : Nat) (h_sizes : Nat) (h_nameCodes : Nat) (h_nameBlocks : Nat) (v_words : Int32) (v_count : Int32) (v_names : Int32) (v_sizes : Nat → Int32) (a1 : Int32) (r_ : Int32) (hf : f_X0_sizeOf v_count v_sizes a1 = some r_) : Con l g yX0_sizeOf cX0_sizeOf 2 (some .int) ({ frames := 1, cells := 0, slots := 0, locals := 21 }) [.ref h, .int a1] [oX0 h h_owners h_sizes h_nameCodes h_nameBlocks v_words v_count v_names, aI g h_sizes 6 v_sizes] (some (.int r_)) [oX0 h h_owners h_sizes h_nameCodes h_nameBlocks v_words v_count v_names, aI g h_sizes 6 v_sizes] := by
  refine Con.of (by decide) (Nat.le_of_ble_eq_true rfl) ?_
  intro p e s m below meth c A ls hAe X hP hD hS hl
  obtain ⟨hx, hb, hml, hr, hown, hts, hlk, hnm, hA, hG, hZ⟩ := id X
  have hown : s.vm.findClass RX0 = some m.cls := hown
  have hl : lv_has ls 2 [(0, .ref h), (1, .int a1)] := hl
  unfold f_X0_sizeOf at hf
  refine lv_iload_n hx hb dX0_sizeOf_0 rfl (lv_at hl 1 rfl) ?_
  refine lv_aload_n hx hb dX0_sizeOf_1 rfl (lv_at hl 0 rfl) ?_
  refine gf_X0_28 X rfl hP 0 rfl rfl dX0_sizeOf_2 ?_
  obtain ⟨r_1, hf_2, hf⟩ := obind hf
  refine gcSN (rest := []) (wn := [oX0 h h_owners h_sizes h_nameCodes h_nameBlocks v_words v_count v_names, aI g h_sizes 6 v_sizes]) X hP hD hS hl (c_X11_within l g a1 v_count r_1 hf_2) [] rfl rfl rfl [.inl 0, .inl 1] rfl rfl cd_X11_within rfl st_X11_within ml_X0_38 rfl rfl ⟨(Nat.le_of_ble_eq_true rfl), (Nat.le_of_ble_eq_true rfl)⟩ rfl (Nat.le_of_ble_eq_true rfl) dX0_sizeOf_5 ⟨(Nat.le_of_ble_eq_true rfl), (Nat.le_of_ble_eq_true rfl)⟩ (fun H locs hP hD hS => ?_)
  refine lv_if_eq (tgt := 26) hx hb dX0_sizeOf_8 (by decide) (fun c_3 => ?_) (fun c_3 => ?_)
  · have hf := ift hf c_3
    refine lv_iconst (v := (-1)) hx hb dX0_sizeOf_26 (by decide) ?_
    cases hf
    exact ret_i X hAe hP hD hS rfl dX0_sizeOf_27
  · have hf := iff_ hf c_3
    refine lv_iload_n hx hb dX0_sizeOf_11 rfl (lv_at hl 1 rfl) ?_
    refine lv_bipush (v := 6) hx hb dX0_sizeOf_12 (by decide) ?_
    refine lv_icmp_ge (tgt := 26) hx hb dX0_sizeOf_14 (by decide) (fun c_4 => ?_) (fun c_4 => ?_)
    · have hf := ift hf c_4
      refine lv_iconst (v := (-1)) hx hb dX0_sizeOf_26 (by decide) ?_
      cases hf
      exact ret_i X hAe hP hD hS rfl dX0_sizeOf_27
    · have hf := iff_ hf c_4
      refine lv_aload_n hx hb dX0_sizeOf_17 rfl (lv_at hl 0 rfl) ?_
      refine gf_X0_15 X rfl hP 0 rfl rfl dX0_sizeOf_18 ?_
      refine lv_iload_n hx hb dX0_sizeOf_21 rfl (lv_at hl 1 rfl) ?_
      obtain ⟨hi_5, hf⟩ := ifs hf
      refine va_iald (D := g.1) hx hb hG.1 hP 1 1 rfl rfl (ix_in hi_5) dX0_sizeOf_22 ?_
      refine lv_goto (tgt := 27) hx hb dX0_sizeOf_23 (by decide) ?_
      cases hf
      exact ret_i X hAe hP hD hS rfl dX0_sizeOf_27
def f_X0_blockOf (v_names : Int32) (v_nameBlocks : Nat → Int32) (a1 : Int32) : Option (Int32) :=
  (f_X11_within a1 v_names).bind fun r_1 =>
  if b2i r_1 = 0 then
  some (-1)
  else
  (if 10 ≤ a1 then
  some (-1)
  else
  (if ix a1 10 then
  some (v_nameBlocks a1.toNatClampNeg)
  else none))
set_option maxHeartbeats 4000000 in
set_option maxRecDepth 100000 in
theorem c_X0_blockOf (l : Launch) (g : GT) (h : Nat) (h_owners : Nat) (h_sizes : Nat) (h_nameCodes : Nat) (h_nameBlocks : Nat) (v_words : Int32) (v_count : Int32) (v_names : Int32) (v_nameBlocks : Nat → Int32) (a1 : Int32) (r_ : Int32) (hf : f_X0_blockOf v_names v_nameBlocks a1 = some r_) : Con l g yX0_blockOf cX0_blockOf 2 (some .int) ({ frames := 1, cells := 0, slots := 0, locals := 21 }) [.ref h, .int a1] [oX0 h h_owners h_sizes h_nameCodes h_nameBlocks v_words v_count v_names, aI g h_nameBlocks 10 v_nameBlocks] (some (.int r_)) [oX0 h h_owners h_sizes h_nameCodes h_nameBlocks v_words v_count v_names, aI g h_nameBlocks 10 v_nameBlocks] := by
  refine Con.of (by decide) (Nat.le_of_ble_eq_true rfl) ?_
  intro p e s m below meth c A ls hAe X hP hD hS hl
  obtain ⟨hx, hb, hml, hr, hown, hts, hlk, hnm, hA, hG, hZ⟩ := id X
  have hown : s.vm.findClass RX0 = some m.cls := hown
  have hl : lv_has ls 2 [(0, .ref h), (1, .int a1)] := hl
  unfold f_X0_blockOf at hf
  refine lv_iload_n hx hb dX0_blockOf_0 rfl (lv_at hl 1 rfl) ?_
  refine lv_aload_n hx hb dX0_blockOf_1 rfl (lv_at hl 0 rfl) ?_
  refine gf_X0_31 X rfl hP 0 rfl rfl dX0_blockOf_2 ?_
  obtain ⟨r_1, hf_2, hf⟩ := obind hf
  refine gcSN (rest := []) (wn := [oX0 h h_owners h_sizes h_nameCodes h_nameBlocks v_words v_count v_names, aI g h_nameBlocks 10 v_nameBlocks]) X hP hD hS hl (c_X11_within l g a1 v_names r_1 hf_2) [] rfl rfl rfl [.inl 0, .inl 1] rfl rfl cd_X11_within rfl st_X11_within ml_X0_38 rfl rfl ⟨(Nat.le_of_ble_eq_true rfl), (Nat.le_of_ble_eq_true rfl)⟩ rfl (Nat.le_of_ble_eq_true rfl) dX0_blockOf_5 ⟨(Nat.le_of_ble_eq_true rfl), (Nat.le_of_ble_eq_true rfl)⟩ (fun H locs hP hD hS => ?_)
  refine lv_if_eq (tgt := 26) hx hb dX0_blockOf_8 (by decide) (fun c_3 => ?_) (fun c_3 => ?_)
  · have hf := ift hf c_3
    refine lv_iconst (v := (-1)) hx hb dX0_blockOf_26 (by decide) ?_
    cases hf
    exact ret_i X hAe hP hD hS rfl dX0_blockOf_27
  · have hf := iff_ hf c_3
    refine lv_iload_n hx hb dX0_blockOf_11 rfl (lv_at hl 1 rfl) ?_
    refine lv_bipush (v := 10) hx hb dX0_blockOf_12 (by decide) ?_
    refine lv_icmp_ge (tgt := 26) hx hb dX0_blockOf_14 (by decide) (fun c_4 => ?_) (fun c_4 => ?_)
    · have hf := ift hf c_4
      refine lv_iconst (v := (-1)) hx hb dX0_blockOf_26 (by decide) ?_
      cases hf
      exact ret_i X hAe hP hD hS rfl dX0_blockOf_27
    · have hf := iff_ hf c_4
      refine lv_aload_n hx hb dX0_blockOf_17 rfl (lv_at hl 0 rfl) ?_
      refine gf_X0_21 X rfl hP 0 rfl rfl dX0_blockOf_18 ?_
      refine lv_iload_n hx hb dX0_blockOf_21 rfl (lv_at hl 1 rfl) ?_
      obtain ⟨hi_5, hf⟩ := ifs hf
      refine va_iald (D := g.1) hx hb hG.1 hP 1 1 rfl rfl (ix_in hi_5) dX0_blockOf_22 ?_
      refine lv_goto (tgt := 27) hx hb dX0_blockOf_23 (by decide) ?_
      cases hf
      exact ret_i X hAe hP hD hS rfl dX0_blockOf_27
def f_X11_levelOf (a1 : Int32) : Option (Int32) :=
  if a1 = 33 then
  some 6
  else
  (if a1 = 38 then
  some 5
  else
  (if a1 = 61 then
  some 1
  else
  (if a1 = 62 then
  some 2
  else
  (if a1 = 94 then
  some 4
  else
  (if a1 = 124 then
  some 3
  else
  some 0)))))
set_option maxHeartbeats 4000000 in
set_option maxRecDepth 100000 in
theorem c_X11_levelOf (l : Launch) (g : GT) (a1 : Int32) (r_ : Int32) (hf : f_X11_levelOf a1 = some r_) : Con l g yX11_levelOf cX11_levelOf 1 (some .int) ({ frames := 0, cells := 0, slots := 0, locals := 0 }) [.int a1] [] (some (.int r_)) [] := by
  refine Con.of (by decide) (Nat.le_of_ble_eq_true rfl) ?_
  intro p e s m below meth c A ls hAe X hP hD hS hl
  obtain ⟨hx, hb, hml, hr, hown, hts, hlk, hnm, hA, hG, hZ⟩ := id X
  have hown : s.vm.findClass RX11 = some m.cls := hown
  have hl : lv_has ls 1 [(0, .int a1)] := hl
  unfold f_X11_levelOf at hf
  refine lv_iload_n hx hb dX11_levelOf_0 rfl (lv_at hl 0 rfl) ?_
  by_cases e_1 : a1 = 33
  · have hf := ift hf e_1
    refine lv_lookup hx hb dX11_levelOf_1 rfl (off := 69) (by rw [e_1] <;> rfl) (by decide) ?_ (tgt := 70)
    refine lv_bipush (v := 6) hx hb dX11_levelOf_70 (by decide) ?_
    cases hf
    exact ret_i X hAe hP hD hS rfl dX11_levelOf_72
  · have hf := iff_ hf e_1
    by_cases e_2 : a1 = 38
    · have hf := ift hf e_2
      refine lv_lookup hx hb dX11_levelOf_1 rfl (off := 67) (by rw [e_2] <;> rfl) (by decide) ?_ (tgt := 68)
      refine lv_iconst (v := 5) hx hb dX11_levelOf_68 (by decide) ?_
      cases hf
      exact ret_i X hAe hP hD hS rfl dX11_levelOf_69
    · have hf := iff_ hf e_2
      by_cases e_3 : a1 = 61
      · have hf := ift hf e_3
        refine lv_lookup hx hb dX11_levelOf_1 rfl (off := 59) (by rw [e_3] <;> rfl) (by decide) ?_ (tgt := 60)
        refine lv_iconst (v := 1) hx hb dX11_levelOf_60 (by decide) ?_
        cases hf
        exact ret_i X hAe hP hD hS rfl dX11_levelOf_61
      · have hf := iff_ hf e_3
        by_cases e_4 : a1 = 62
        · have hf := ift hf e_4
          refine lv_lookup hx hb dX11_levelOf_1 rfl (off := 61) (by rw [e_4] <;> rfl) (by decide) ?_ (tgt := 62)
          refine lv_iconst (v := 2) hx hb dX11_levelOf_62 (by decide) ?_
          cases hf
          exact ret_i X hAe hP hD hS rfl dX11_levelOf_63
        · have hf := iff_ hf e_4
          by_cases e_5 : a1 = 94
          · have hf := ift hf e_5
            refine lv_lookup hx hb dX11_levelOf_1 rfl (off := 65) (by rw [e_5] <;> rfl) (by decide) ?_ (tgt := 66)
            refine lv_iconst (v := 4) hx hb dX11_levelOf_66 (by decide) ?_
            cases hf
            exact ret_i X hAe hP hD hS rfl dX11_levelOf_67
          · have hf := iff_ hf e_5
            by_cases e_6 : a1 = 124
            · have hf := ift hf e_6
              refine lv_lookup hx hb dX11_levelOf_1 rfl (off := 63) (by rw [e_6] <;> rfl) (by decide) ?_ (tgt := 64)
              refine lv_iconst (v := 3) hx hb dX11_levelOf_64 (by decide) ?_
              cases hf
              exact ret_i X hAe hP hD hS rfl dX11_levelOf_65
            · have hf := iff_ hf e_6
              refine lv_lookup hx hb dX11_levelOf_1 rfl (off := 72) ((lv_osw (a := 33) (o := 69) (r := [(38, 67), (61, 59), (62, 61), (94, 65), (124, 63)]) e_1 rfl).trans ((lv_osw (a := 38) (o := 67) (r := [(61, 59), (62, 61), (94, 65), (124, 63)]) e_2 rfl).trans ((lv_osw (a := 61) (o := 59) (r := [(62, 61), (94, 65), (124, 63)]) e_3 rfl).trans ((lv_osw (a := 62) (o := 61) (r := [(94, 65), (124, 63)]) e_4 rfl).trans ((lv_osw (a := 94) (o := 65) (r := [(124, 63)]) e_5 rfl).trans ((lv_osw (a := 124) (o := 63) (r := []) e_6 rfl).trans rfl)))))) (by decide) ?_ (tgt := 73)
              refine lv_iconst (v := 0) hx hb dX11_levelOf_73 (by decide) ?_
              cases hf
              exact ret_i X hAe hP hD hS rfl dX11_levelOf_74
def f_X11_tableWords (a1 : Int32) : Option (Int32) :=
  if a1 ≤ 6 then
  some 1
  else
  some ((1 : Int32) <<< ((a1 - (6 : Int32)) &&& 31))
set_option maxHeartbeats 4000000 in
set_option maxRecDepth 100000 in
theorem c_X11_tableWords (l : Launch) (g : GT) (a1 : Int32) (r_ : Int32) (hf : f_X11_tableWords a1 = some r_) : Con l g yX11_tableWords cX11_tableWords 1 (some .int) ({ frames := 0, cells := 0, slots := 0, locals := 0 }) [.int a1] [] (some (.int r_)) [] := by
  refine Con.of (by decide) (Nat.le_of_ble_eq_true rfl) ?_
  intro p e s m below meth c A ls hAe X hP hD hS hl
  obtain ⟨hx, hb, hml, hr, hown, hts, hlk, hnm, hA, hG, hZ⟩ := id X
  have hown : s.vm.findClass RX11 = some m.cls := hown
  have hl : lv_has ls 1 [(0, .int a1)] := hl
  unfold f_X11_tableWords at hf
  refine lv_iload_n hx hb dX11_tableWords_0 rfl (lv_at hl 0 rfl) ?_
  refine lv_bipush (v := 6) hx hb dX11_tableWords_1 (by decide) ?_
  refine lv_icmp_le (tgt := 15) hx hb dX11_tableWords_3 (by decide) (fun c_1 => ?_) (fun c_1 => ?_)
  · have hf := ift hf c_1
    refine lv_iconst (v := 1) hx hb dX11_tableWords_15 (by decide) ?_
    cases hf
    exact ret_i X hAe hP hD hS rfl dX11_tableWords_16
  · have hf := iff_ hf c_1
    refine lv_iconst (v := 1) hx hb dX11_tableWords_6 (by decide) ?_
    refine lv_iload_n hx hb dX11_tableWords_7 rfl (lv_at hl 0 rfl) ?_
    refine lv_bipush (v := 6) hx hb dX11_tableWords_8 (by decide) ?_
    refine lv_isub hx hb dX11_tableWords_10 ?_
    refine lv_ishl hx hb dX11_tableWords_11 ?_
    refine lv_goto (tgt := 16) hx hb dX11_tableWords_12 (by decide) ?_
    cases hf
    exact ret_i X hAe hP hD hS rfl dX11_tableWords_16
