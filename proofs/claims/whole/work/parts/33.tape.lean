def f_X10_byteAt (v_bytes : Nat → Int32) (a1 : Int32) : Option (Int32) :=
  (f_X11_within a1 600).bind fun r_1 =>
  if b2i r_1 = 0 then
  some (-1)
  else
  (if ix a1 600 then
  some (v_bytes a1.toNatClampNeg)
  else none)
set_option maxHeartbeats 4000000 in
set_option maxRecDepth 100000 in
theorem c_X10_byteAt (l : Launch) (g : GT) (h : Nat) (h_bytes : Nat) (v_size : Int32) (v_bytes : Nat → Int32) (a1 : Int32) (r_ : Int32) (hf : f_X10_byteAt v_bytes a1 = some r_) : Con l g yX10_byteAt cX10_byteAt 2 (some .int) ({ frames := 1, cells := 0, slots := 0, locals := 21 }) [.ref h, .int a1] [oX10 h h_bytes v_size, aI g h_bytes 600 v_bytes] (some (.int r_)) [oX10 h h_bytes v_size, aI g h_bytes 600 v_bytes] := by
  refine Con.of (by decide) (Nat.le_of_ble_eq_true rfl) ?_
  intro p e s m below meth c A ls hAe X hP hD hS hl
  obtain ⟨hx, hb, hml, hr, hown, hts, hlk, hnm, hA, hG, hZ⟩ := id X
  have hown : s.vm.findClass RX10 = some m.cls := hown
  have hl : lv_has ls 2 [(0, .ref h), (1, .int a1)] := hl
  unfold f_X10_byteAt at hf
  refine lv_iload_n hx hb dX10_byteAt_0 rfl (lv_at hl 1 rfl) ?_
  refine lv_sipush (v := 600) hx hb dX10_byteAt_1 (by decide) ?_
  obtain ⟨r_1, hf_2, hf⟩ := obind hf
  refine gcSN (rest := []) (wn := [oX10 h h_bytes v_size, aI g h_bytes 600 v_bytes]) X hP hD hS hl (c_X11_within l g a1 600 r_1 hf_2) [] rfl rfl rfl [.inl 0, .inl 1] rfl rfl cd_X11_within rfl st_X11_within ml_X10_19 rfl rfl ⟨(Nat.le_of_ble_eq_true rfl), (Nat.le_of_ble_eq_true rfl)⟩ rfl (Nat.le_of_ble_eq_true rfl) dX10_byteAt_4 ⟨(Nat.le_of_ble_eq_true rfl), (Nat.le_of_ble_eq_true rfl)⟩ (fun H locs hP hD hS => ?_)
  refine lv_if_eq (tgt := 19) hx hb dX10_byteAt_7 (by decide) (fun c_3 => ?_) (fun c_3 => ?_)
  · have hf := ift hf c_3
    refine lv_iconst (v := (-1)) hx hb dX10_byteAt_19 (by decide) ?_
    cases hf
    exact ret_i X hAe hP hD hS rfl dX10_byteAt_20
  · have hf := iff_ hf c_3
    refine lv_aload_n hx hb dX10_byteAt_10 rfl (lv_at hl 0 rfl) ?_
    refine gf_X10_9 X rfl hP 0 rfl rfl dX10_byteAt_11 ?_
    refine lv_iload_n hx hb dX10_byteAt_14 rfl (lv_at hl 1 rfl) ?_
    obtain ⟨hi_4, hf⟩ := ifs hf
    refine va_iald (D := g.1) hx hb hG.1 hP 1 1 rfl rfl (ix_in hi_4) dX10_byteAt_15 ?_
    refine lv_goto (tgt := 20) hx hb dX10_byteAt_16 (by decide) ?_
    cases hf
    exact ret_i X hAe hP hD hS rfl dX10_byteAt_20
def lp_X10_addBytesOf_3 (y1_3 : Int32) : Nat → Int32 → Int32 → (Nat → Int32) → (Int32 → Int32 → (Nat → Int32) → Option (Int32 × (Nat → Int32))) → Option (Int32 × (Nat → Int32))
  | 0, _, _, _, _ => none
  | n_3 + 1, x2_3, v_size_3, v_bytes_3, K_3 =>
    if x2_3 < 0 then
    K_3 x2_3 v_size_3 v_bytes_3
    else
    ((f_X11_within v_size_3 600).bind fun r_2 =>
    if b2i r_2 = 0 then
    lp_X10_addBytesOf_3 y1_3 n_3 (x2_3 + (-8)) v_size_3 v_bytes_3 K_3
    else
    (if ix v_size_3 600 then
    lp_X10_addBytesOf_3 y1_3 n_3 (x2_3 + (-8)) (v_size_3 + (1 : Int32)) (upd v_bytes_3 v_size_3.toNatClampNeg ((jushr y1_3 x2_3) &&& (255 : Int32))) K_3
    else none))
def f_X10_addBytesOf (v_size : Int32) (v_bytes : Nat → Int32) (a1 : Int32) : Option (Int32 × (Nat → Int32)) :=
  lp_X10_addBytesOf_3 a1 5000 24 v_size v_bytes (fun x2_3_6 v_size_3_7 v_bytes_3_8 => 
  some (v_size_3_7, v_bytes_3_8))
set_option maxHeartbeats 4000000 in
set_option maxRecDepth 100000 in
theorem c_X10_addBytesOf (l : Launch) (g : GT) (h : Nat) (h_bytes : Nat) (v_size : Int32) (v_bytes : Nat → Int32) (a1 : Int32) (u_size : Int32) (u_bytes : Nat → Int32) (hf : f_X10_addBytesOf v_size v_bytes a1 = some (u_size, u_bytes)) : Con l g yX10_addBytesOf cX10_addBytesOf 3 none ({ frames := 1, cells := 0, slots := 0, locals := 21 }) [.ref h, .int a1] [oX10 h h_bytes v_size, aI g h_bytes 600 v_bytes] none [oX10 h h_bytes u_size, aI g h_bytes 600 u_bytes] := by
  refine Con.of (by decide) (Nat.le_of_ble_eq_true rfl) ?_
  intro p e s m below meth c A ls hAe X hP hD hS hl
  obtain ⟨hx, hb, hml, hr, hown, hts, hlk, hnm, hA, hG, hZ⟩ := id X
  have hown : s.vm.findClass RX10 = some m.cls := hown
  have hl : lv_has ls 3 [(0, .ref h), (1, .int a1)] := hl
  unfold f_X10_addBytesOf at hf
  refine lv_bipush (v := 24) hx hb dX10_addBytesOf_0 (by decide) ?_
  refine lv_istore_n (lv' := [(2, .int 24), (0, .ref h), (1, .int a1)]) hx hb dX10_addBytesOf_2 rfl hl (by decide) rfl (fun ls hl => ?_)
  have L_3 : ∀ (n : Nat) (x2_3 : Int32) (v_size_3 : Int32) (v_bytes_3 : Nat → Int32) (H : Heap) (locs : List Loc) (ls : Array Slot) (K_3 : Int32 → Int32 → (Nat → Int32) → Option (Int32 × (Nat → Int32))), va_P g.1 vwCl [oX10 h h_bytes v_size_3, aI g h_bytes 600 v_bytes_3] H → va_D A [oX10 h h_bytes v_size_3, aI g h_bytes 600 v_bytes_3] → va_S A s.heap H locs → lv_has ls 3 [(0, .ref h), (1, .int a1), (2, .int x2_3)] → (∀ (z_x2_3 : Int32) (z_v_size_3 : Int32) (z_v_bytes_3 : Nat → Int32) (H : Heap) (locs : List Loc) (ls : Array Slot), va_P g.1 vwCl [oX10 h h_bytes z_v_size_3, aI g h_bytes 600 z_v_bytes_3] H → va_D A [oX10 h h_bytes z_v_size_3, aI g h_bytes 600 z_v_bytes_3] → va_S A s.heap H locs → lv_has ls 3 [(0, .ref h), (1, .int a1), (2, .int z_x2_3)] → K_3 z_x2_3 z_v_size_3 z_v_bytes_3 = some (u_size, u_bytes) → W p l e ({ frames := 1, cells := 0, slots := 0, locals := 21 }) s m [.ref h, .int a1].toArray below meth c H locs 0 0 (MQ below (fun _ => QW g [oX10 h h_bytes v_size, aI g h_bytes 600 v_bytes] s.heap.size none [oX10 h h_bytes u_size, aI g h_bytes 600 u_bytes]) [.ref h, .int a1].toArray s 0 0 (va_A [oX10 h h_bytes v_size, aI g h_bytes 600 v_bytes] s.heap.size)) (F0 m 52 ls [])) → lp_X10_addBytesOf_3 a1 n x2_3 v_size_3 v_bytes_3 K_3 = some (u_size, u_bytes) → W p l e ({ frames := 1, cells := 0, slots := 0, locals := 21 }) s m [.ref h, .int a1].toArray below meth c H locs 0 0 (MQ below (fun _ => QW g [oX10 h h_bytes v_size, aI g h_bytes 600 v_bytes] s.heap.size none [oX10 h h_bytes u_size, aI g h_bytes 600 u_bytes]) [.ref h, .int a1].toArray s 0 0 (va_A [oX10 h h_bytes v_size, aI g h_bytes 600 v_bytes] s.heap.size)) (F0 m 3 ls []) := by
    intro n
    induction n with
    | zero =>
      intro x2_3 v_size_3 v_bytes_3 H locs ls K_3 hP hD hS hl hk hf
      have hf : (none : Option (Int32 × (Nat → Int32))) = some _ := hf
      cases hf
    | succ n_3 ih_3 =>
      intro x2_3 v_size_3 v_bytes_3 H locs ls K_3 hP hD hS hl hk_3 hf
      refine lv_iload_n hx hb dX10_addBytesOf_3 rfl (lv_at hl 2 rfl) ?_
      refine lv_if_lt (tgt := 52) hx hb dX10_addBytesOf_4 (by decide) (fun c_9 => ?_) (fun c_9 => ?_)
      · have hf := ift hf c_9
        exact hk_3 x2_3 v_size_3 v_bytes_3 H locs ls hP hD hS (lv_sub hl [0, 1, 2] rfl) hf
      · have hf := iff_ hf c_9
        refine lv_aload_n hx hb dX10_addBytesOf_7 rfl (lv_at hl 0 rfl) ?_
        refine gf_X10_15 X rfl hP 0 rfl rfl dX10_addBytesOf_8 ?_
        refine lv_sipush (v := 600) hx hb dX10_addBytesOf_11 (by decide) ?_
        obtain ⟨r_10, hf_11, hf⟩ := obind hf
        refine gcSN (rest := []) (wn := [oX10 h h_bytes v_size_3, aI g h_bytes 600 v_bytes_3]) X hP hD hS hl (c_X11_within l g v_size_3 600 r_10 hf_11) [] rfl rfl rfl [.inl 0, .inl 1] rfl rfl cd_X11_within rfl st_X11_within ml_X10_19 rfl rfl ⟨(Nat.le_of_ble_eq_true rfl), (Nat.le_of_ble_eq_true rfl)⟩ rfl (Nat.le_of_ble_eq_true rfl) dX10_addBytesOf_14 ⟨(Nat.le_of_ble_eq_true rfl), (Nat.le_of_ble_eq_true rfl)⟩ (fun H locs hP hD hS => ?_)
        refine lv_if_eq (tgt := 46) hx hb dX10_addBytesOf_17 (by decide) (fun c_12 => ?_) (fun c_12 => ?_)
        · have hf := ift hf c_12
          refine lv_iinc (v := x2_3 + (-8)) (lv' := [(2, .int (x2_3 + (-8))), (0, .ref h), (1, .int a1)]) hx hb dX10_addBytesOf_46 hl (k := 2) rfl rfl (by decide) rfl (fun ls hl => ?_)
          refine lv_goto (tgt := 3) hx hb dX10_addBytesOf_49 (by decide) ?_
          exact ih_3 (x2_3 + (-8)) v_size_3 v_bytes_3 H locs ls K_3 hP hD hS (lv_sub hl [1, 2, 0] rfl) hk_3 hf
        · have hf := iff_ hf c_12
          refine lv_aload_n hx hb dX10_addBytesOf_20 rfl (lv_at hl 0 rfl) ?_
          refine gf_X10_9 X rfl hP 0 rfl rfl dX10_addBytesOf_21 ?_
          refine lv_aload_n hx hb dX10_addBytesOf_24 rfl (lv_at hl 0 rfl) ?_
          refine gf_X10_15 X rfl hP 0 rfl rfl dX10_addBytesOf_25 ?_
          refine lv_iload_n hx hb dX10_addBytesOf_28 rfl (lv_at hl 1 rfl) ?_
          refine lv_iload_n hx hb dX10_addBytesOf_29 rfl (lv_at hl 2 rfl) ?_
          refine lv_iushr (v := jushr a1 x2_3) hx hb dX10_addBytesOf_30 rfl ?_
          refine lv_sipush (v := 255) hx hb dX10_addBytesOf_31 (by decide) ?_
          refine lv_iand hx hb dX10_addBytesOf_34 ?_
          obtain ⟨hi_13, hf⟩ := ifs hf
          refine va_iast (D := g.1) hx hb hG.1 hP hD hS 1 1 rfl rfl (ix_in hi_13) dX10_addBytesOf_35 (fun H locs hP hD hS => ?_)
          have hP : va_P g.1 vwCl [oX10 h h_bytes v_size_3, aI g h_bytes 600 (upd v_bytes_3 v_size_3.toNatClampNeg ((jushr a1 x2_3) &&& (255 : Int32)))] H := hP
          have hD : va_D A [oX10 h h_bytes v_size_3, aI g h_bytes 600 (upd v_bytes_3 v_size_3.toNatClampNeg ((jushr a1 x2_3) &&& (255 : Int32)))] := hD
          refine lv_aload_n hx hb dX10_addBytesOf_36 rfl (lv_at hl 0 rfl) ?_
          refine lv_dup hx hb dX10_addBytesOf_37 rfl ?_
          refine gf_X10_15 X rfl hP 0 rfl rfl dX10_addBytesOf_38 ?_
          refine lv_iconst (v := 1) hx hb dX10_addBytesOf_41 (by decide) ?_
          refine lv_iadd hx hb dX10_addBytesOf_42 ?_
          refine pf_X10_15 X rfl hP hD hS 0 rfl (Nat.le_of_ble_eq_true rfl) dX10_addBytesOf_43 (fun H locs hP hD hS => ?_)
          have hP : va_P g.1 vwCl [oX10 h h_bytes (v_size_3 + (1 : Int32)), aI g h_bytes 600 (upd v_bytes_3 v_size_3.toNatClampNeg ((jushr a1 x2_3) &&& (255 : Int32)))] H := hP
          have hD : va_D A [oX10 h h_bytes (v_size_3 + (1 : Int32)), aI g h_bytes 600 (upd v_bytes_3 v_size_3.toNatClampNeg ((jushr a1 x2_3) &&& (255 : Int32)))] := hD
          refine lv_iinc (v := x2_3 + (-8)) (lv' := [(2, .int (x2_3 + (-8))), (0, .ref h), (1, .int a1)]) hx hb dX10_addBytesOf_46 hl (k := 2) rfl rfl (by decide) rfl (fun ls hl => ?_)
          refine lv_goto (tgt := 3) hx hb dX10_addBytesOf_49 (by decide) ?_
          exact ih_3 (x2_3 + (-8)) (v_size_3 + (1 : Int32)) (upd v_bytes_3 v_size_3.toNatClampNeg ((jushr a1 x2_3) &&& (255 : Int32))) H locs ls K_3 hP hD hS (lv_sub hl [1, 2, 0] rfl) hk_3 hf
  refine L_3 _ _ _ _ _ _ ls _ hP hD hS (lv_sub hl [1, 2, 0] rfl) (fun x2_3_6 v_size_3_7 v_bytes_3_8 H locs ls hP hD hS hl hf => ?_) hf
  cases hf
  exact ret_v X hAe hP hD hS rfl dX10_addBytesOf_52
