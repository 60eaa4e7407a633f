def f_X11_within (a1 : Int32) (a2 : Int32) : Option (Bool) :=
  if a1 < 0 then
  some false
  else
  (if a2 ≤ a1 then
  some false
  else
  some true)
set_option maxHeartbeats 4000000 in
set_option maxRecDepth 100000 in
theorem c_X11_within (l : Launch) (g : GT) (a1 : Int32) (a2 : Int32) (r_ : Bool) (hf : f_X11_within a1 a2 = some r_) : Con l g yX11_within cX11_within 2 (some .boolean) ({ frames := 0, cells := 0, slots := 0, locals := 0 }) [.int a1, .int a2] [] (some (.int (b2i r_))) [] := by
  refine Con.of (by decide) (Nat.le_of_ble_eq_true rfl) ?_
  intro p e s m below meth c A ls hAe X hP hD hS hl
  obtain ⟨hx, hb, hml, hr, hown, hts, hlk, hnm, hA, hG, hZ⟩ := id X
  have hown : s.vm.findClass RX11 = some m.cls := hown
  have hl : lv_has ls 2 [(0, .int a1), (1, .int a2)] := hl
  unfold f_X11_within at hf
  refine lv_iload_n hx hb dX11_within_0 rfl (lv_at hl 0 rfl) ?_
  refine lv_if_lt (tgt := 13) hx hb dX11_within_1 (by decide) (fun c_1 => ?_) (fun c_1 => ?_)
  · have hf := ift hf c_1
    refine lv_iconst (v := 0) hx hb dX11_within_13 (by decide) ?_
    cases hf
    exact ret_z (v := false) X hAe hP hD hS rfl dX11_within_14
  · have hf := iff_ hf c_1
    refine lv_iload_n hx hb dX11_within_4 rfl (lv_at hl 0 rfl) ?_
    refine lv_iload_n hx hb dX11_within_5 rfl (lv_at hl 1 rfl) ?_
    refine lv_icmp_ge (tgt := 13) hx hb dX11_within_6 (by decide) (fun c_2 => ?_) (fun c_2 => ?_)
    · have hf := ift hf c_2
      refine lv_iconst (v := 0) hx hb dX11_within_13 (by decide) ?_
      cases hf
      exact ret_z (v := false) X hAe hP hD hS rfl dX11_within_14
    · have hf := iff_ hf c_2
      refine lv_iconst (v := 1) hx hb dX11_within_9 (by decide) ?_
      refine lv_goto (tgt := 14) hx hb dX11_within_10 (by decide) ?_
      cases hf
      exact ret_z (v := true) X hAe hP hD hS rfl dX11_within_14
def f_X0_ownerOf (v_count : Int32) (v_owners : Nat → Int32) (a1 : Int32) : Option (Int32) :=
  (f_X11_within a1 v_count).bind fun r_1 =>
  if b2i r_1 = 0 then
  some (-1)
  else
  (if 6 ≤ a1 then
  some (-1)
  else
  (if ix a1 6 then
  some (v_owners a1.toNatClampNeg)
  else none))
set_option maxHeartbeats 4000000 in
set_option maxRecDepth 100000 in
theorem c_X0_ownerOf (l : Launch) (g : GT) (h : Nat) (h_owners : Nat) (h_sizes : Nat) (h_nameCodes : Nat) (h_nameBlocks : Nat) (v_words : Int32) (v_count : Int32) (v_names : Int32) (v_owners : Nat → Int32) (a1 : Int32) (r_ : Int32) (hf : f_X0_ownerOf v_count v_owners a1 = some r_) : Con l g yX0_ownerOf cX0_ownerOf 2 (some .int) ({ frames := 1, cells := 0, slots := 0, locals := 21 }) [.ref h, .int a1] [oX0 h h_owners h_sizes h_nameCodes h_nameBlocks v_words v_count v_names, aI g h_owners 6 v_owners] (some (.int r_)) [oX0 h h_owners h_sizes h_nameCodes h_nameBlocks v_words v_count v_names, aI g h_owners 6 v_owners] := by
  refine Con.of (by decide) (Nat.le_of_ble_eq_true rfl) ?_
  intro p e s m below meth c A ls hAe X hP hD hS hl
  obtain ⟨hx, hb, hml, hr, hown, hts, hlk, hnm, hA, hG, hZ⟩ := id X
  have hown : s.vm.findClass RX0 = some m.cls := hown
  have hl : lv_has ls 2 [(0, .ref h), (1, .int a1)] := hl
  unfold f_X0_ownerOf at hf
  refine lv_iload_n hx hb dX0_ownerOf_0 rfl (lv_at hl 1 rfl) ?_
  refine lv_aload_n hx hb dX0_ownerOf_1 rfl (lv_at hl 0 rfl) ?_
  refine gf_X0_28 X rfl hP 0 rfl rfl dX0_ownerOf_2 ?_
  obtain ⟨r_1, hf_2, hf⟩ := obind hf
  refine gcSN (rest := []) X hP hD hS hl (c_X11_within l g a1 v_count r_1 hf_2) [] rfl rfl rfl cd_X11_within rfl st_X11_within ml_X0_38 rfl rfl ⟨(Nat.le_of_ble_eq_true rfl), (Nat.le_of_ble_eq_true rfl)⟩ rfl (Nat.le_of_ble_eq_true rfl) dX0_ownerOf_5 ⟨Nat.zero_le _, Nat.zero_le _⟩ (fun H locs hP hD hS => ?_)
  have hP : va_P g.1 vwCl [oX0 h h_owners h_sizes h_nameCodes h_nameBlocks v_words v_count v_names, aI g h_owners 6 v_owners] H := hP
  have hD : va_D A [oX0 h h_owners h_sizes h_nameCodes h_nameBlocks v_words v_count v_names, aI g h_owners 6 v_owners] := hD
  refine lv_if_eq (tgt := 26) hx hb dX0_ownerOf_8 (by decide) (fun c_3 => ?_) (fun c_3 => ?_)
  · have hf := ift hf c_3
    refine lv_iconst (v := (-1)) hx hb dX0_ownerOf_26 (by decide) ?_
    cases hf
    exact ret_i X hAe hP hD hS rfl dX0_ownerOf_27
  · have hf := iff_ hf c_3
    refine lv_iload_n hx hb dX0_ownerOf_11 rfl (lv_at hl 1 rfl) ?_
    refine lv_bipush (v := 6) hx hb dX0_ownerOf_12 (by decide) ?_
    refine lv_icmp_ge (tgt := 26) hx hb dX0_ownerOf_14 (by decide) (fun c_4 => ?_) (fun c_4 => ?_)
    · have hf := ift hf c_4
      refine lv_iconst (v := (-1)) hx hb dX0_ownerOf_26 (by decide) ?_
      cases hf
      exact ret_i X hAe hP hD hS rfl dX0_ownerOf_27
    · have hf := iff_ hf c_4
      refine lv_aload_n hx hb dX0_ownerOf_17 rfl (lv_at hl 0 rfl) ?_
      refine gf_X0_9 X rfl hP 0 rfl rfl dX0_ownerOf_18 ?_
      refine lv_iload_n hx hb dX0_ownerOf_21 rfl (lv_at hl 1 rfl) ?_
      obtain ⟨hi_5, hf⟩ := ifs hf
      refine va_iald (D := g.1) hx hb hG.1 hP 1 1 rfl rfl (ix_in hi_5) dX0_ownerOf_22 ?_
      refine lv_goto (tgt := 27) hx hb dX0_ownerOf_23 (by decide) ?_
      cases hf
      exact ret_i X hAe hP hD hS rfl dX0_ownerOf_27
def f_X0_clear (v_words : Int32) (v_count : Int32) (v_names : Int32) : Option (Int32 × Int32 × Int32) :=
  some (0, 0, 0)
set_option maxHeartbeats 4000000 in
set_option maxRecDepth 100000 in
theorem c_X0_clear (l : Launch) (g : GT) (h : Nat) (h_owners : Nat) (h_sizes : Nat) (h_nameCodes : Nat) (h_nameBlocks : Nat) (v_words : Int32) (v_count : Int32) (v_names : Int32) (u_words : Int32) (u_count : Int32) (u_names : Int32) (hf : f_X0_clear v_words v_count v_names = some (u_words, u_count, u_names)) : Con l g yX0_clear cX0_clear 1 none ({ frames := 0, cells := 0, slots := 0, locals := 0 }) [.ref h] [oX0 h h_owners h_sizes h_nameCodes h_nameBlocks v_words v_count v_names] none [oX0 h h_owners h_sizes h_nameCodes h_nameBlocks u_words u_count u_names] := by
  refine Con.of (by decide) (Nat.le_of_ble_eq_true rfl) ?_
  intro p e s m below meth c A ls hAe X hP hD hS hl
  obtain ⟨hx, hb, hml, hr, hown, hts, hlk, hnm, hA, hG, hZ⟩ := id X
  have hown : s.vm.findClass RX0 = some m.cls := hown
  have hl : lv_has ls 1 [(0, .ref h)] := hl
  unfold f_X0_clear at hf
  refine lv_aload_n hx hb dX0_clear_0 rfl (lv_at hl 0 rfl) ?_
  refine lv_iconst (v := 0) hx hb dX0_clear_1 (by decide) ?_
  refine pf_X0_24 X rfl hP hD hS 0 rfl (Nat.le_of_ble_eq_true rfl) dX0_clear_2 (fun H locs hP hD hS => ?_)
  have hP : va_P g.1 vwCl [oX0 h h_owners h_sizes h_nameCodes h_nameBlocks 0 v_count v_names] H := hP
  have hD : va_D A [oX0 h h_owners h_sizes h_nameCodes h_nameBlocks 0 v_count v_names] := hD
  refine lv_aload_n hx hb dX0_clear_5 rfl (lv_at hl 0 rfl) ?_
  refine lv_iconst (v := 0) hx hb dX0_clear_6 (by decide) ?_
  refine pf_X0_28 X rfl hP hD hS 0 rfl (Nat.le_of_ble_eq_true rfl) dX0_clear_7 (fun H locs hP hD hS => ?_)
  have hP : va_P g.1 vwCl [oX0 h h_owners h_sizes h_nameCodes h_nameBlocks 0 0 v_names] H := hP
  have hD : va_D A [oX0 h h_owners h_sizes h_nameCodes h_nameBlocks 0 0 v_names] := hD
  refine lv_aload_n hx hb dX0_clear_10 rfl (lv_at hl 0 rfl) ?_
  refine lv_iconst (v := 0) hx hb dX0_clear_11 (by decide) ?_
  refine pf_X0_31 X rfl hP hD hS 0 rfl (Nat.le_of_ble_eq_true rfl) dX0_clear_12 (fun H locs hP hD hS => ?_)
  have hP : va_P g.1 vwCl [oX0 h h_owners h_sizes h_nameCodes h_nameBlocks 0 0 0] H := hP
  have hD : va_D A [oX0 h h_owners h_sizes h_nameCodes h_nameBlocks 0 0 0] := hD
  cases hf
  exact ret_v X hAe hP hD hS rfl dX0_clear_15
def f_X0_codeOf (v_names : Int32) (v_nameCodes : Nat → Int32) (a1 : Int32) : Option (Int32) :=
  (f_X11_within a1 v_names).bind fun r_1 =>
  if b2i r_1 = 0 then
  some (-1)
  else
  (if 10 ≤ a1 then
  some (-1)
  else
  (if ix a1 10 then
  some (v_nameCodes a1.toNatClampNeg)
  else none))
set_option maxHeartbeats 4000000 in
set_option maxRecDepth 100000 in
theorem c_X0_codeOf (l : Launch) (g : GT) (h : Nat) (h_owners : Nat) (h_sizes : Nat) (h_nameCodes : Nat) (h_nameBlocks : Nat) (v_words : Int32) (v_count : Int32) (v_names : Int32) (v_nameCodes : Nat → Int32) (a1 : Int32) (r_ : Int32) (hf : f_X0_codeOf v_names v_nameCodes a1 = some r_) : Con l g yX0_codeOf cX0_codeOf 2 (some .int) ({ frames := 1, cells := 0, slots := 0, locals := 21 }) [.ref h, .int a1] [oX0 h h_owners h_sizes h_nameCodes h_nameBlocks v_words v_count v_names, aI g h_nameCodes 10 v_nameCodes] (some (.int r_)) [oX0 h h_owners h_sizes h_nameCodes h_nameBlocks v_words v_count v_names, aI g h_nameCodes 10 v_nameCodes] := by
  refine Con.of (by decide) (Nat.le_of_ble_eq_true rfl) ?_
  intro p e s m below meth c A ls hAe X hP hD hS hl
  obtain ⟨hx, hb, hml, hr, hown, hts, hlk, hnm, hA, hG, hZ⟩ := id X
  have hown : s.vm.findClass RX0 = some m.cls := hown
  have hl : lv_has ls 2 [(0, .ref h), (1, .int a1)] := hl
  unfold f_X0_codeOf at hf
  refine lv_iload_n hx hb dX0_codeOf_0 rfl (lv_at hl 1 rfl) ?_
  refine lv_aload_n hx hb dX0_codeOf_1 rfl (lv_at hl 0 rfl) ?_
  refine gf_X0_31 X rfl hP 0 rfl rfl dX0_codeOf_2 ?_
  obtain ⟨r_1, hf_2, hf⟩ := obind hf
  refine gcSN (rest := []) X hP hD hS hl (c_X11_within l g a1 v_names r_1 hf_2) [] rfl rfl rfl cd_X11_within rfl st_X11_within ml_X0_38 rfl rfl ⟨(Nat.le_of_ble_eq_true rfl), (Nat.le_of_ble_eq_true rfl)⟩ rfl (Nat.le_of_ble_eq_true rfl) dX0_codeOf_5 ⟨Nat.zero_le _, Nat.zero_le _⟩ (fun H locs hP hD hS => ?_)
  have hP : va_P g.1 vwCl [oX0 h h_owners h_sizes h_nameCodes h_nameBlocks v_words v_count v_names, aI g h_nameCodes 10 v_nameCodes] H := hP
  have hD : va_D A [oX0 h h_owners h_sizes h_nameCodes h_nameBlocks v_words v_count v_names, aI g h_nameCodes 10 v_nameCodes] := hD
  refine lv_if_eq (tgt := 26) hx hb dX0_codeOf_8 (by decide) (fun c_3 => ?_) (fun c_3 => ?_)
  · have hf := ift hf c_3
    refine lv_iconst (v := (-1)) hx hb dX0_codeOf_26 (by decide) ?_
    cases hf
    exact ret_i X hAe hP hD hS rfl dX0_codeOf_27
  · have hf := iff_ hf c_3
    refine lv_iload_n hx hb dX0_codeOf_11 rfl (lv_at hl 1 rfl) ?_
    refine lv_bipush (v := 10) hx hb dX0_codeOf_12 (by decide) ?_
    refine lv_icmp_ge (tgt := 26) hx hb dX0_codeOf_14 (by decide) (fun c_4 => ?_) (fun c_4 => ?_)
    · have hf := ift hf c_4
      refine lv_iconst (v := (-1)) hx hb dX0_codeOf_26 (by decide) ?_
      cases hf
      exact ret_i X hAe hP hD hS rfl dX0_codeOf_27
    · have hf := iff_ hf c_4
      refine lv_aload_n hx hb dX0_codeOf_17 rfl (lv_at hl 0 rfl) ?_
      refine gf_X0_18 X rfl hP 0 rfl rfl dX0_codeOf_18 ?_
      refine lv_iload_n hx hb dX0_codeOf_21 rfl (lv_at hl 1 rfl) ?_
      obtain ⟨hi_5, hf⟩ := ifs hf
      refine va_iald (D := g.1) hx hb hG.1 hP 1 1 rfl rfl (ix_in hi_5) dX0_codeOf_22 ?_
      refine lv_goto (tgt := 27) hx hb dX0_codeOf_23 (by decide) ?_
      cases hf
      exact ret_i X hAe hP hD hS rfl dX0_codeOf_27
def lp_X0_find_2 (y1_2 : Int32) (v_names_2f : Int32) (v_nameCodes_2f : Nat → Int32) : Nat → Int32 → (Int32 → Option (Int32)) → Option (Int32)
  | 0, _, _ => none
  | n_2 + 1, x2_2, K_2 =>
    if v_names_2f ≤ x2_2 then
    K_2 x2_2
    else
    ((f_X0_codeOf v_names_2f v_nameCodes_2f x2_2).bind fun r_2 =>
    if r_2 = y1_2 then
    some x2_2
    else
    lp_X0_find_2 y1_2 v_names_2f v_nameCodes_2f n_2 (x2_2 + 1) K_2)
def f_X0_find (v_names : Int32) (v_nameCodes : Nat → Int32) (a1 : Int32) : Option (Int32) :=
  lp_X0_find_2 a1 v_names v_nameCodes 5000 0 (fun x2_2_5 => 
  some (-1))
set_option maxHeartbeats 4000000 in
set_option maxRecDepth 100000 in
theorem c_X0_find (l : Launch) (g : GT) (h : Nat) (h_owners : Nat) (h_sizes : Nat) (h_nameCodes : Nat) (h_nameBlocks : Nat) (v_words : Int32) (v_count : Int32) (v_names : Int32) (v_nameCodes : Nat → Int32) (a1 : Int32) (r_ : Int32) (hf : f_X0_find v_names v_nameCodes a1 = some r_) : Con l g yX0_find cX0_find 3 (some .int) ({ frames := 2, cells := 0, slots := 0, locals := 42 }) [.ref h, .int a1] [oX0 h h_owners h_sizes h_nameCodes h_nameBlocks v_words v_count v_names, aI g h_nameCodes 10 v_nameCodes] (some (.int r_)) [oX0 h h_owners h_sizes h_nameCodes h_nameBlocks v_words v_count v_names, aI g h_nameCodes 10 v_nameCodes] := by
  refine Con.of (by decide) (Nat.le_of_ble_eq_true rfl) ?_
  intro p e s m below meth c A ls hAe X hP hD hS hl
  obtain ⟨hx, hb, hml, hr, hown, hts, hlk, hnm, hA, hG, hZ⟩ := id X
  have hown : s.vm.findClass RX0 = some m.cls := hown
  have hl : lv_has ls 3 [(0, .ref h), (1, .int a1)] := hl
  unfold f_X0_find at hf
  refine lv_iconst (v := 0) hx hb dX0_find_0 (by decide) ?_
  refine lv_istore_n (lv' := [(2, .int 0), (0, .ref h), (1, .int a1)]) hx hb dX0_find_1 rfl hl (by decide) rfl (fun ls hl => ?_)
  have L_2 : ∀ (n : Nat) (x2_2 : Int32) (H : Heap) (locs : List Loc) (ls : Array Slot) (K_2 : Int32 → Option (Int32)), va_P g.1 vwCl [oX0 h h_owners h_sizes h_nameCodes h_nameBlocks v_words v_count v_names, aI g h_nameCodes 10 v_nameCodes] H → va_D A [oX0 h h_owners h_sizes h_nameCodes h_nameBlocks v_words v_count v_names, aI g h_nameCodes 10 v_nameCodes] → va_S A s.heap H locs → lv_has ls 3 [(0, .ref h), (1, .int a1), (2, .int x2_2)] → (∀ (z_x2_2 : Int32) (H : Heap) (locs : List Loc) (ls : Array Slot), va_P g.1 vwCl [oX0 h h_owners h_sizes h_nameCodes h_nameBlocks v_words v_count v_names, aI g h_nameCodes 10 v_nameCodes] H → va_D A [oX0 h h_owners h_sizes h_nameCodes h_nameBlocks v_words v_count v_names, aI g h_nameCodes 10 v_nameCodes] → va_S A s.heap H locs → lv_has ls 3 [(0, .ref h), (1, .int a1), (2, .int z_x2_2)] → K_2 z_x2_2 = some r_ → W p l e ({ frames := 2, cells := 0, slots := 0, locals := 42 }) s m [.ref h, .int a1].toArray below meth c H locs 0 0 (MQ below (fun _ => QW g [oX0 h h_owners h_sizes h_nameCodes h_nameBlocks v_words v_count v_names, aI g h_nameCodes 10 v_nameCodes] s.heap.size (some (.int r_)) [oX0 h h_owners h_sizes h_nameCodes h_nameBlocks v_words v_count v_names, aI g h_nameCodes 10 v_nameCodes]) [.ref h, .int a1].toArray s 0 0 (va_A [oX0 h h_owners h_sizes h_nameCodes h_nameBlocks v_words v_count v_names, aI g h_nameCodes 10 v_nameCodes] s.heap.size)) (F0 m 27 ls [])) → lp_X0_find_2 a1 v_names v_nameCodes n x2_2 K_2 = some r_ → W p l e ({ frames := 2, cells := 0, slots := 0, locals := 42 }) s m [.ref h, .int a1].toArray below meth c H locs 0 0 (MQ below (fun _ => QW g [oX0 h h_owners h_sizes h_nameCodes h_nameBlocks v_words v_count v_names, aI g h_nameCodes 10 v_nameCodes] s.heap.size (some (.int r_)) [oX0 h h_owners h_sizes h_nameCodes h_nameBlocks v_words v_count v_names, aI g h_nameCodes 10 v_nameCodes]) [.ref h, .int a1].toArray s 0 0 (va_A [oX0 h h_owners h_sizes h_nameCodes h_nameBlocks v_words v_count v_names, aI g h_nameCodes 10 v_nameCodes] s.heap.size)) (F0 m 2 ls []) := by
    intro n
    induction n with
    | zero =>
      intro x2_2 H locs ls K_2 hP hD hS hl hk hf
      have hf : (none : Option (Int32)) = some _ := hf
      cases hf
    | succ n_2 ih_2 =>
      intro x2_2 H locs ls K_2 hP hD hS hl hk_2 hf
      refine lv_iload_n hx hb dX0_find_2 rfl (lv_at hl 2 rfl) ?_
      refine lv_aload_n hx hb dX0_find_3 rfl (lv_at hl 0 rfl) ?_
      refine gf_X0_31 X rfl hP 0 rfl rfl dX0_find_4 ?_
      refine lv_icmp_ge (tgt := 27) hx hb dX0_find_7 (by decide) (fun c_6 => ?_) (fun c_6 => ?_)
      · have hf := ift hf c_6
        exact hk_2 x2_2 H locs ls hP hD hS (lv_sub hl [0, 1, 2] rfl) hf
      · have hf := iff_ hf c_6
        refine lv_aload_n hx hb dX0_find_10 rfl (lv_at hl 0 rfl) ?_
        refine lv_iload_n hx hb dX0_find_11 rfl (lv_at hl 2 rfl) ?_
        obtain ⟨r_7, hf_8, hf⟩ := obind hf
        refine gcV (rest := []) X hP hD hS hl (c_X0_codeOf l g h h_owners h_sizes h_nameCodes h_nameBlocks v_words v_count v_names v_nameCodes x2_2 r_7 hf_8) [0, 1] rfl rfl rfl cd_X0_codeOf rfl im_X0_codeOf se_X0_codeOf ml_X0_45 0 rfl rfl rfl rfl rfl ⟨(Nat.le_of_ble_eq_true rfl), (Nat.le_of_ble_eq_true rfl)⟩ rfl (Nat.le_of_ble_eq_true rfl) dX0_find_12 ⟨Nat.zero_le _, Nat.zero_le _⟩ (fun H locs hP hD hS => ?_)
        have hP : va_P g.1 vwCl [oX0 h h_owners h_sizes h_nameCodes h_nameBlocks v_words v_count v_names, aI g h_nameCodes 10 v_nameCodes] H := hP
        have hD : va_D A [oX0 h h_owners h_sizes h_nameCodes h_nameBlocks v_words v_count v_names, aI g h_nameCodes 10 v_nameCodes] := hD
        refine lv_iload_n hx hb dX0_find_15 rfl (lv_at hl 1 rfl) ?_
        refine lv_icmp_ne (tgt := 21) hx hb dX0_find_16 (by decide) (fun c_9 => ?_) (fun c_9 => ?_)
        · have hf := iff_ hf c_9
          refine lv_iinc (v := x2_2 + 1) (lv' := [(2, .int (x2_2 + 1)), (0, .ref h), (1, .int a1)]) hx hb dX0_find_21 hl (k := 2) rfl rfl (by decide) rfl (fun ls hl => ?_)
          refine lv_goto (tgt := 2) hx hb dX0_find_24 (by decide) ?_
          exact ih_2 (x2_2 + 1) H locs ls K_2 hP hD hS (lv_sub hl [1, 2, 0] rfl) hk_2 hf
        · have hf := ift hf c_9
          refine lv_iload_n hx hb dX0_find_19 rfl (lv_at hl 2 rfl) ?_
          cases hf
          exact ret_i X hAe hP hD hS rfl dX0_find_20
  refine L_2 _ _ _ _ ls _ hP hD hS (lv_sub hl [1, 2, 0] rfl) (fun x2_2_5 H locs ls hP hD hS hl hf => ?_) hf
  refine lv_iconst (v := (-1)) hx hb dX0_find_27 (by decide) ?_
  cases hf
  exact ret_i X hAe hP hD hS rfl dX0_find_28
