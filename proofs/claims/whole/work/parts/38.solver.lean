def lp_X8_letOwnersChoose_10 (v_names_10f : Int32) (v_p1_count_10f : Int32) (v_p1_names_10f : Int32) (v_p1_nameBlocks_10f : Nat → Int32) (v_p1_owners_10f : Nat → Int32) : Nat → Int32 → (Nat → Int32) → (Int32 → (Nat → Int32) → Option (Int32 × (Nat → Int32))) → Option (Int32 × (Nat → Int32))
  | 0, _, _, _ => none
  | n_10 + 1, x2_10, v_choosers_10, K_10 =>
    if v_names_10f ≤ x2_10 then
    K_10 x2_10 v_choosers_10
    else
    (if 10 ≤ x2_10 then
    K_10 x2_10 v_choosers_10
    else
    ((f_X0_blockOf v_p1_names_10f v_p1_nameBlocks_10f x2_10).bind fun r_3 =>
    (f_X0_ownerOf v_p1_count_10f v_p1_owners_10f r_3).bind fun r_5 =>
    if ix x2_10 10 then
    lp_X8_letOwnersChoose_10 v_names_10f v_p1_count_10f v_p1_names_10f v_p1_nameBlocks_10f v_p1_owners_10f n_10 (x2_10 + 1) (upd v_choosers_10 x2_10.toNatClampNeg r_5) K_10
    else none))
def f_X8_letOwnersChoose (v_names : Int32) (v_p1_count : Int32) (v_p1_names : Int32) (v_p1_nameBlocks : Nat → Int32) (v_p1_owners : Nat → Int32) (v_choosers : Nat → Int32) : Option (Int32 × (Nat → Int32)) :=
  lp_X8_letOwnersChoose_10 v_p1_names v_p1_count v_p1_names v_p1_nameBlocks v_p1_owners 5000 0 v_choosers (fun x2_10_8 v_choosers_10_9 => 
  some (v_p1_names, v_choosers_10_9))
set_option maxHeartbeats 4000000 in
set_option maxRecDepth 100000 in
theorem c_X8_letOwnersChoose (l : Launch) (g : GT) (h : Nat) (h_work : Nat) (h_choosers : Nat) (v_names : Int32) (v_used : Int32) (v_folded : Int32) (h_p1 : Nat) (h_p1_owners : Nat) (h_p1_sizes : Nat) (h_p1_nameCodes : Nat) (h_p1_nameBlocks : Nat) (v_p1_words : Int32) (v_p1_count : Int32) (v_p1_names : Int32) (v_p1_nameBlocks : Nat → Int32) (v_p1_owners : Nat → Int32) (v_choosers : Nat → Int32) (u_names : Int32) (u_choosers : Nat → Int32) (hf : f_X8_letOwnersChoose v_names v_p1_count v_p1_names v_p1_nameBlocks v_p1_owners v_choosers = some (u_names, u_choosers)) : Con l g yX8_letOwnersChoose cX8_letOwnersChoose 3 none ({ frames := 2, cells := 0, slots := 0, locals := 42 }) [.ref h, .ref h_p1] [oX8 h h_work h_choosers v_names v_used v_folded, oX0 h_p1 h_p1_owners h_p1_sizes h_p1_nameCodes h_p1_nameBlocks v_p1_words v_p1_count v_p1_names, aI g h_p1_nameBlocks 10 v_p1_nameBlocks, aI g h_p1_owners 6 v_p1_owners, aI g h_choosers 10 v_choosers] none [oX8 h h_work h_choosers u_names v_used v_folded, oX0 h_p1 h_p1_owners h_p1_sizes h_p1_nameCodes h_p1_nameBlocks v_p1_words v_p1_count v_p1_names, aI g h_p1_nameBlocks 10 v_p1_nameBlocks, aI g h_p1_owners 6 v_p1_owners, aI g h_choosers 10 u_choosers] := by
  refine Con.of (by decide) (Nat.le_of_ble_eq_true rfl) ?_
  intro p e s m below meth c A ls hAe X hP hD hS hl
  obtain ⟨hx, hb, hml, hr, hown, hts, hlk, hnm, hA, hG, hZ⟩ := id X
  have hown : s.vm.findClass RX8 = some m.cls := hown
  have hl : lv_has ls 3 [(0, .ref h), (1, .ref h_p1)] := hl
  unfold f_X8_letOwnersChoose at hf
  refine lv_aload_n hx hb dX8_letOwnersChoose_0 rfl (lv_at hl 0 rfl) ?_
  refine lv_aload_n hx hb dX8_letOwnersChoose_1 rfl (lv_at hl 1 rfl) ?_
  refine gf_X8_19 X rfl hP 1 rfl rfl dX8_letOwnersChoose_2 ?_
  refine pf_X8_25 X rfl hP hD hS 0 rfl (Nat.le_of_ble_eq_true rfl) dX8_letOwnersChoose_5 (fun H locs hP hD hS => ?_)
  have hP : va_P g.1 vwCl [oX8 h h_work h_choosers v_p1_names v_used v_folded, oX0 h_p1 h_p1_owners h_p1_sizes h_p1_nameCodes h_p1_nameBlocks v_p1_words v_p1_count v_p1_names, aI g h_p1_nameBlocks 10 v_p1_nameBlocks, aI g h_p1_owners 6 v_p1_owners, aI g h_choosers 10 v_choosers] H := hP
  have hD : va_D A [oX8 h h_work h_choosers v_p1_names v_used v_folded, oX0 h_p1 h_p1_owners h_p1_sizes h_p1_nameCodes h_p1_nameBlocks v_p1_words v_p1_count v_p1_names, aI g h_p1_nameBlocks 10 v_p1_nameBlocks, aI g h_p1_owners 6 v_p1_owners, aI g h_choosers 10 v_choosers] := hD
  refine lv_iconst (v := 0) hx hb dX8_letOwnersChoose_8 (by decide) ?_
  refine lv_istore_n (lv' := [(2, .int 0), (0, .ref h), (1, .ref h_p1)]) hx hb dX8_letOwnersChoose_9 rfl hl (by decide) rfl (fun ls hl => ?_)
  have L_10 : ∀ (n : Nat) (x2_10 : Int32) (v_choosers_10 : Nat → Int32) (H : Heap) (locs : List Loc) (ls : Array Slot) (K_10 : Int32 → (Nat → Int32) → Option (Int32 × (Nat → Int32))), va_P g.1 vwCl [oX8 h h_work h_choosers v_p1_names v_used v_folded, oX0 h_p1 h_p1_owners h_p1_sizes h_p1_nameCodes h_p1_nameBlocks v_p1_words v_p1_count v_p1_names, aI g h_p1_nameBlocks 10 v_p1_nameBlocks, aI g h_p1_owners 6 v_p1_owners, aI g h_choosers 10 v_choosers_10] H → va_D A [oX8 h h_work h_choosers v_p1_names v_used v_folded, oX0 h_p1 h_p1_owners h_p1_sizes h_p1_nameCodes h_p1_nameBlocks v_p1_words v_p1_count v_p1_names, aI g h_p1_nameBlocks 10 v_p1_nameBlocks, aI g h_p1_owners 6 v_p1_owners, aI g h_choosers 10 v_choosers_10] → va_S A s.heap H locs → lv_has ls 3 [(0, .ref h), (1, .ref h_p1), (2, .int x2_10)] → (∀ (z_x2_10 : Int32) (z_v_choosers_10 : Nat → Int32) (H : Heap) (locs : List Loc) (ls : Array Slot), va_P g.1 vwCl [oX8 h h_work h_choosers v_p1_names v_used v_folded, oX0 h_p1 h_p1_owners h_p1_sizes h_p1_nameCodes h_p1_nameBlocks v_p1_words v_p1_count v_p1_names, aI g h_p1_nameBlocks 10 v_p1_nameBlocks, aI g h_p1_owners 6 v_p1_owners, aI g h_choosers 10 z_v_choosers_10] H → va_D A [oX8 h h_work h_choosers v_p1_names v_used v_folded, oX0 h_p1 h_p1_owners h_p1_sizes h_p1_nameCodes h_p1_nameBlocks v_p1_words v_p1_count v_p1_names, aI g h_p1_nameBlocks 10 v_p1_nameBlocks, aI g h_p1_owners 6 v_p1_owners, aI g h_choosers 10 z_v_choosers_10] → va_S A s.heap H locs → lv_has ls 3 [(0, .ref h), (1, .ref h_p1), (2, .int z_x2_10)] → K_10 z_x2_10 z_v_choosers_10 = some (u_names, u_choosers) → W p l e ({ frames := 2, cells := 0, slots := 0, locals := 42 }) s m [.ref h, .ref h_p1].toArray below meth c H locs 0 0 (MQ below (fun _ => QW g [oX8 h h_work h_choosers v_names v_used v_folded, oX0 h_p1 h_p1_owners h_p1_sizes h_p1_nameCodes h_p1_nameBlocks v_p1_words v_p1_count v_p1_names, aI g h_p1_nameBlocks 10 v_p1_nameBlocks, aI g h_p1_owners 6 v_p1_owners, aI g h_choosers 10 v_choosers] s.heap.size none [oX8 h h_work h_choosers u_names v_used v_folded, oX0 h_p1 h_p1_owners h_p1_sizes h_p1_nameCodes h_p1_nameBlocks v_p1_words v_p1_count v_p1_names, aI g h_p1_nameBlocks 10 v_p1_nameBlocks, aI g h_p1_owners 6 v_p1_owners, aI g h_choosers 10 u_choosers]) [.ref h, .ref h_p1].toArray s 0 0 (va_A [oX8 h h_work h_choosers v_names v_used v_folded, oX0 h_p1 h_p1_owners h_p1_sizes h_p1_nameCodes h_p1_nameBlocks v_p1_words v_p1_count v_p1_names, aI g h_p1_nameBlocks 10 v_p1_nameBlocks, aI g h_p1_owners 6 v_p1_owners, aI g h_choosers 10 v_choosers] s.heap.size)) (F0 m 45 ls [])) → lp_X8_letOwnersChoose_10 v_p1_names v_p1_count v_p1_names v_p1_nameBlocks v_p1_owners n x2_10 v_choosers_10 K_10 = some (u_names, u_choosers) → W p l e ({ frames := 2, cells := 0, slots := 0, locals := 42 }) s m [.ref h, .ref h_p1].toArray below meth c H locs 0 0 (MQ below (fun _ => QW g [oX8 h h_work h_choosers v_names v_used v_folded, oX0 h_p1 h_p1_owners h_p1_sizes h_p1_nameCodes h_p1_nameBlocks v_p1_words v_p1_count v_p1_names, aI g h_p1_nameBlocks 10 v_p1_nameBlocks, aI g h_p1_owners 6 v_p1_owners, aI g h_choosers 10 v_choosers] s.heap.size none [oX8 h h_work h_choosers u_names v_used v_folded, oX0 h_p1 h_p1_owners h_p1_sizes h_p1_nameCodes h_p1_nameBlocks v_p1_words v_p1_count v_p1_names, aI g h_p1_nameBlocks 10 v_p1_nameBlocks, aI g h_p1_owners 6 v_p1_owners, aI g h_choosers 10 u_choosers]) [.ref h, .ref h_p1].toArray s 0 0 (va_A [oX8 h h_work h_choosers v_names v_used v_folded, oX0 h_p1 h_p1_owners h_p1_sizes h_p1_nameCodes h_p1_nameBlocks v_p1_words v_p1_count v_p1_names, aI g h_p1_nameBlocks 10 v_p1_nameBlocks, aI g h_p1_owners 6 v_p1_owners, aI g h_choosers 10 v_choosers] s.heap.size)) (F0 m 10 ls []) := by
    intro n
    induction n with
    | zero =>
      intro x2_10 v_choosers_10 H locs ls K_10 hP hD hS hl hk hf
      have hf : (none : Option (Int32 × (Nat → Int32))) = some _ := hf
      cases hf
    | succ n_10 ih_10 =>
      intro x2_10 v_choosers_10 H locs ls K_10 hP hD hS hl hk_10 hf
      refine lv_iload_n hx hb dX8_letOwnersChoose_10 rfl (lv_at hl 2 rfl) ?_
      refine lv_aload_n hx hb dX8_letOwnersChoose_11 rfl (lv_at hl 0 rfl) ?_
      refine gf_X8_25 X rfl hP 0 rfl rfl dX8_letOwnersChoose_12 ?_
      refine lv_icmp_ge (tgt := 45) hx hb dX8_letOwnersChoose_15 (by decide) (fun c_10 => ?_) (fun c_10 => ?_)
      · have hf := ift hf c_10
        exact hk_10 x2_10 v_choosers_10 H locs ls hP hD hS (lv_sub hl [0, 1, 2] rfl) hf
      · have hf := iff_ hf c_10
        refine lv_iload_n hx hb dX8_letOwnersChoose_18 rfl (lv_at hl 2 rfl) ?_
        refine lv_bipush (v := 10) hx hb dX8_letOwnersChoose_19 (by decide) ?_
        refine lv_icmp_ge (tgt := 45) hx hb dX8_letOwnersChoose_21 (by decide) (fun c_11 => ?_) (fun c_11 => ?_)
        · have hf := ift hf c_11
          exact hk_10 x2_10 v_choosers_10 H locs ls hP hD hS (lv_sub hl [0, 1, 2] rfl) hf
        · have hf := iff_ hf c_11
          refine lv_aload_n hx hb dX8_letOwnersChoose_24 rfl (lv_at hl 0 rfl) ?_
          refine gf_X8_15 X rfl hP 0 rfl rfl dX8_letOwnersChoose_25 ?_
          refine lv_iload_n hx hb dX8_letOwnersChoose_28 rfl (lv_at hl 2 rfl) ?_
          refine lv_aload_n hx hb dX8_letOwnersChoose_29 rfl (lv_at hl 1 rfl) ?_
          refine lv_aload_n hx hb dX8_letOwnersChoose_30 rfl (lv_at hl 1 rfl) ?_
          refine lv_iload_n hx hb dX8_letOwnersChoose_31 rfl (lv_at hl 2 rfl) ?_
          obtain ⟨r_12, hf_13, hf⟩ := obind hf
          refine gcV (rest := [.ref h_p1, .int x2_10, .ref h_choosers]) (wn := [oX8 h h_work h_choosers v_p1_names v_used v_folded, oX0 h_p1 h_p1_owners h_p1_sizes h_p1_nameCodes h_p1_nameBlocks v_p1_words v_p1_count v_p1_names, aI g h_p1_nameBlocks 10 v_p1_nameBlocks, aI g h_p1_owners 6 v_p1_owners, aI g h_choosers 10 v_choosers_10]) X hP hD hS hl (c_X0_blockOf l g h_p1 h_p1_owners h_p1_sizes h_p1_nameCodes h_p1_nameBlocks v_p1_words v_p1_count v_p1_names v_p1_nameBlocks x2_10 r_12 hf_13) [1, 2] rfl rfl rfl [.inl 0, .inr 0, .inr 1, .inl 3, .inl 4] rfl rfl cd_X0_blockOf rfl im_X0_blockOf se_X0_blockOf ml_X8_26 1 rfl rfl rfl rfl rfl ⟨(Nat.le_of_ble_eq_true rfl), (Nat.le_of_ble_eq_true rfl)⟩ rfl (Nat.le_of_ble_eq_true rfl) dX8_letOwnersChoose_32 ⟨(Nat.le_of_ble_eq_true rfl), (Nat.le_of_ble_eq_true rfl)⟩ (fun H locs hP hD hS => ?_)
          obtain ⟨r_14, hf_15, hf⟩ := obind hf
          refine gcV (rest := [.int x2_10, .ref h_choosers]) (wn := [oX8 h h_work h_choosers v_p1_names v_used v_folded, oX0 h_p1 h_p1_owners h_p1_sizes h_p1_nameCodes h_p1_nameBlocks v_p1_words v_p1_count v_p1_names, aI g h_p1_nameBlocks 10 v_p1_nameBlocks, aI g h_p1_owners 6 v_p1_owners, aI g h_choosers 10 v_choosers_10]) X hP hD hS hl (c_X0_ownerOf l g h_p1 h_p1_owners h_p1_sizes h_p1_nameCodes h_p1_nameBlocks v_p1_words v_p1_count v_p1_names v_p1_owners r_12 r_14 hf_15) [1, 3] rfl rfl rfl [.inl 0, .inr 0, .inl 2, .inr 1, .inl 4] rfl rfl cd_X0_ownerOf rfl im_X0_ownerOf se_X0_ownerOf ml_X8_30 1 rfl rfl rfl rfl rfl ⟨(Nat.le_of_ble_eq_true rfl), (Nat.le_of_ble_eq_true rfl)⟩ rfl (Nat.le_of_ble_eq_true rfl) dX8_letOwnersChoose_35 ⟨(Nat.le_of_ble_eq_true rfl), (Nat.le_of_ble_eq_true rfl)⟩ (fun H locs hP hD hS => ?_)
          obtain ⟨hi_16, hf⟩ := ifs hf
          refine va_iast (D := g.1) hx hb hG.1 hP hD hS 4 1 rfl rfl (ix_in hi_16) dX8_letOwnersChoose_38 (fun H locs hP hD hS => ?_)
          have hP : va_P g.1 vwCl [oX8 h h_work h_choosers v_p1_names v_used v_folded, oX0 h_p1 h_p1_owners h_p1_sizes h_p1_nameCodes h_p1_nameBlocks v_p1_words v_p1_count v_p1_names, aI g h_p1_nameBlocks 10 v_p1_nameBlocks, aI g h_p1_owners 6 v_p1_owners, aI g h_choosers 10 (upd v_choosers_10 x2_10.toNatClampNeg r_14)] H := hP
          have hD : va_D A [oX8 h h_work h_choosers v_p1_names v_used v_folded, oX0 h_p1 h_p1_owners h_p1_sizes h_p1_nameCodes h_p1_nameBlocks v_p1_words v_p1_count v_p1_names, aI g h_p1_nameBlocks 10 v_p1_nameBlocks, aI g h_p1_owners 6 v_p1_owners, aI g h_choosers 10 (upd v_choosers_10 x2_10.toNatClampNeg r_14)] := hD
          refine lv_iinc (v := x2_10 + 1) (lv' := [(2, .int (x2_10 + 1)), (0, .ref h), (1, .ref h_p1)]) hx hb dX8_letOwnersChoose_39 hl (k := 2) rfl rfl (by decide) rfl (fun ls hl => ?_)
          refine lv_goto (tgt := 10) hx hb dX8_letOwnersChoose_42 (by decide) ?_
          exact ih_10 (x2_10 + 1) (upd v_choosers_10 x2_10.toNatClampNeg r_14) H locs ls K_10 hP hD hS (lv_sub hl [1, 2, 0] rfl) hk_10 hf
  refine L_10 _ _ _ _ _ ls _ hP hD hS (lv_sub hl [1, 2, 0] rfl) (fun x2_10_8 v_choosers_10_9 H locs ls hP hD hS hl hf => ?_) hf
  cases hf
  exact ret_v X hAe hP hD hS rfl dX8_letOwnersChoose_45
def f_X8_fix (v_choosers : Nat → Int32) (a1 : Int32) (a2 : Int32) : Option ((Nat → Int32)) :=
  (f_X11_within a1 10).bind fun r_1 =>
  if b2i r_1 = 0 then
  some v_choosers
  else
  (if ix a1 10 then
  some (upd v_choosers a1.toNatClampNeg ((2 : Int32) + a2))
  else none)
set_option maxHeartbeats 4000000 in
set_option maxRecDepth 100000 in
theorem c_X8_fix (l : Launch) (g : GT) (h : Nat) (h_work : Nat) (h_choosers : Nat) (v_names : Int32) (v_used : Int32) (v_folded : Int32) (v_choosers : Nat → Int32) (a1 : Int32) (a2 : Int32) (u_choosers : Nat → Int32) (hf : f_X8_fix v_choosers a1 a2 = some u_choosers) : Con l g yX8_fix cX8_fix 3 none ({ frames := 1, cells := 0, slots := 0, locals := 21 }) [.ref h, .int a1, .int a2] [oX8 h h_work h_choosers v_names v_used v_folded, aI g h_choosers 10 v_choosers] none [oX8 h h_work h_choosers v_names v_used v_folded, aI g h_choosers 10 u_choosers] := by
  refine Con.of (by decide) (Nat.le_of_ble_eq_true rfl) ?_
  intro p e s m below meth c A ls hAe X hP hD hS hl
  obtain ⟨hx, hb, hml, hr, hown, hts, hlk, hnm, hA, hG, hZ⟩ := id X
  have hown : s.vm.findClass RX8 = some m.cls := hown
  have hl : lv_has ls 3 [(0, .ref h), (1, .int a1), (2, .int a2)] := hl
  unfold f_X8_fix at hf
  refine lv_iload_n hx hb dX8_fix_0 rfl (lv_at hl 1 rfl) ?_
  refine lv_bipush (v := 10) hx hb dX8_fix_1 (by decide) ?_
  obtain ⟨r_1, hf_2, hf⟩ := obind hf
  refine gcSN (rest := []) (wn := [oX8 h h_work h_choosers v_names v_used v_folded, aI g h_choosers 10 v_choosers]) X hP hD hS hl (c_X11_within l g a1 10 r_1 hf_2) [] rfl rfl rfl [.inl 0, .inl 1] rfl rfl cd_X11_within rfl st_X11_within ml_X8_33 rfl rfl ⟨(Nat.le_of_ble_eq_true rfl), (Nat.le_of_ble_eq_true rfl)⟩ rfl (Nat.le_of_ble_eq_true rfl) dX8_fix_3 ⟨(Nat.le_of_ble_eq_true rfl), (Nat.le_of_ble_eq_true rfl)⟩ (fun H locs hP hD hS => ?_)
  refine lv_if_eq (tgt := 18) hx hb dX8_fix_6 (by decide) (fun c_3 => ?_) (fun c_3 => ?_)
  · have hf := ift hf c_3
    cases hf
    exact ret_v X hAe hP hD hS rfl dX8_fix_18
  · have hf := iff_ hf c_3
    refine lv_aload_n hx hb dX8_fix_9 rfl (lv_at hl 0 rfl) ?_
    refine gf_X8_15 X rfl hP 0 rfl rfl dX8_fix_10 ?_
    refine lv_iload_n hx hb dX8_fix_13 rfl (lv_at hl 1 rfl) ?_
    refine lv_iconst (v := 2) hx hb dX8_fix_14 (by decide) ?_
    refine lv_iload_n hx hb dX8_fix_15 rfl (lv_at hl 2 rfl) ?_
    refine lv_iadd hx hb dX8_fix_16 ?_
    obtain ⟨hi_4, hf⟩ := ifs hf
    refine va_iast (D := g.1) hx hb hG.1 hP hD hS 1 1 rfl rfl (ix_in hi_4) dX8_fix_17 (fun H locs hP hD hS => ?_)
    have hP : va_P g.1 vwCl [oX8 h h_work h_choosers v_names v_used v_folded, aI g h_choosers 10 (upd v_choosers a1.toNatClampNeg ((2 : Int32) + a2))] H := hP
    have hD : va_D A [oX8 h h_work h_choosers v_names v_used v_folded, aI g h_choosers 10 (upd v_choosers a1.toNatClampNeg ((2 : Int32) + a2))] := hD
    cases hf
    exact ret_v X hAe hP hD hS rfl dX8_fix_18
def lp_X8_turnBlock_2 (y2_2 : Int32) (v_names_2f : Int32) (v_p1_names_2f : Int32) (v_p1_nameBlocks_2f : Nat → Int32) : Nat → Int32 → (Nat → Int32) → (Int32 → (Nat → Int32) → Option ((Nat → Int32))) → Option ((Nat → Int32))
  | 0, _, _, _ => none
  | n_2 + 1, x3_2, v_choosers_2, K_2 =>
    if v_names_2f ≤ x3_2 then
    K_2 x3_2 v_choosers_2
    else
    (if 10 ≤ x3_2 then
    K_2 x3_2 v_choosers_2
    else
    ((f_X0_blockOf v_p1_names_2f v_p1_nameBlocks_2f x3_2).bind fun r_3 =>
    if r_3 = y2_2 then
    (if ix x3_2 10 then
    if v_choosers_2 x3_2.toNatClampNeg = 0 then
    (if ix x3_2 10 then
    lp_X8_turnBlock_2 y2_2 v_names_2f v_p1_names_2f v_p1_nameBlocks_2f n_2 (x3_2 + 1) (upd v_choosers_2 x3_2.toNatClampNeg 1) K_2
    else none)
    else
    (if ix x3_2 10 then
    lp_X8_turnBlock_2 y2_2 v_names_2f v_p1_names_2f v_p1_nameBlocks_2f n_2 (x3_2 + 1) (upd v_choosers_2 x3_2.toNatClampNeg 0) K_2
    else none)
    else none)
    else
    lp_X8_turnBlock_2 y2_2 v_names_2f v_p1_names_2f v_p1_nameBlocks_2f n_2 (x3_2 + 1) v_choosers_2 K_2))
def f_X8_turnBlock (v_names : Int32) (v_p1_names : Int32) (v_p1_nameBlocks : Nat → Int32) (v_choosers : Nat → Int32) (a2 : Int32) : Option ((Nat → Int32)) :=
  lp_X8_turnBlock_2 a2 v_names v_p1_names v_p1_nameBlocks 5000 0 v_choosers (fun x3_2_10 v_choosers_2_11 => 
  some v_choosers_2_11)
set_option maxHeartbeats 4000000 in
set_option maxRecDepth 100000 in
theorem c_X8_turnBlock (l : Launch) (g : GT) (h : Nat) (h_work : Nat) (h_choosers : Nat) (v_names : Int32) (v_used : Int32) (v_folded : Int32) (h_p1 : Nat) (h_p1_owners : Nat) (h_p1_sizes : Nat) (h_p1_nameCodes : Nat) (h_p1_nameBlocks : Nat) (v_p1_words : Int32) (v_p1_count : Int32) (v_p1_names : Int32) (v_p1_nameBlocks : Nat → Int32) (v_choosers : Nat → Int32) (a2 : Int32) (u_choosers : Nat → Int32) (hf : f_X8_turnBlock v_names v_p1_names v_p1_nameBlocks v_choosers a2 = some u_choosers) : Con l g yX8_turnBlock cX8_turnBlock 4 none ({ frames := 2, cells := 0, slots := 0, locals := 42 }) [.ref h, .ref h_p1, .int a2] [oX8 h h_work h_choosers v_names v_used v_folded, oX0 h_p1 h_p1_owners h_p1_sizes h_p1_nameCodes h_p1_nameBlocks v_p1_words v_p1_count v_p1_names, aI g h_p1_nameBlocks 10 v_p1_nameBlocks, aI g h_choosers 10 v_choosers] none [oX8 h h_work h_choosers v_names v_used v_folded, oX0 h_p1 h_p1_owners h_p1_sizes h_p1_nameCodes h_p1_nameBlocks v_p1_words v_p1_count v_p1_names, aI g h_p1_nameBlocks 10 v_p1_nameBlocks, aI g h_choosers 10 u_choosers] := by
  refine Con.of (by decide) (Nat.le_of_ble_eq_true rfl) ?_
  intro p e s m below meth c A ls hAe X hP hD hS hl
  obtain ⟨hx, hb, hml, hr, hown, hts, hlk, hnm, hA, hG, hZ⟩ := id X
  have hown : s.vm.findClass RX8 = some m.cls := hown
  have hl : lv_has ls 4 [(0, .ref h), (1, .ref h_p1), (2, .int a2)] := hl
  unfold f_X8_turnBlock at hf
  refine lv_iconst (v := 0) hx hb dX8_turnBlock_0 (by decide) ?_
  refine lv_istore_n (lv' := [(3, .int 0), (0, .ref h), (1, .ref h_p1), (2, .int a2)]) hx hb dX8_turnBlock_1 rfl hl (by decide) rfl (fun ls hl => ?_)
  have L_2 : ∀ (n : Nat) (x3_2 : Int32) (v_choosers_2 : Nat → Int32) (H : Heap) (locs : List Loc) (ls : Array Slot) (K_2 : Int32 → (Nat → Int32) → Option ((Nat → Int32))), va_P g.1 vwCl [oX8 h h_work h_choosers v_names v_used v_folded, oX0 h_p1 h_p1_owners h_p1_sizes h_p1_nameCodes h_p1_nameBlocks v_p1_words v_p1_count v_p1_names, aI g h_p1_nameBlocks 10 v_p1_nameBlocks, aI g h_choosers 10 v_choosers_2] H → va_D A [oX8 h h_work h_choosers v_names v_used v_folded, oX0 h_p1 h_p1_owners h_p1_sizes h_p1_nameCodes h_p1_nameBlocks v_p1_words v_p1_count v_p1_names, aI g h_p1_nameBlocks 10 v_p1_nameBlocks, aI g h_choosers 10 v_choosers_2] → va_S A s.heap H locs → lv_has ls 4 [(0, .ref h), (1, .ref h_p1), (2, .int a2), (3, .int x3_2)] → (∀ (z_x3_2 : Int32) (z_v_choosers_2 : Nat → Int32) (H : Heap) (locs : List Loc) (ls : Array Slot), va_P g.1 vwCl [oX8 h h_work h_choosers v_names v_used v_folded, oX0 h_p1 h_p1_owners h_p1_sizes h_p1_nameCodes h_p1_nameBlocks v_p1_words v_p1_count v_p1_names, aI g h_p1_nameBlocks 10 v_p1_nameBlocks, aI g h_choosers 10 z_v_choosers_2] H → va_D A [oX8 h h_work h_choosers v_names v_used v_folded, oX0 h_p1 h_p1_owners h_p1_sizes h_p1_nameCodes h_p1_nameBlocks v_p1_words v_p1_count v_p1_names, aI g h_p1_nameBlocks 10 v_p1_nameBlocks, aI g h_choosers 10 z_v_choosers_2] → va_S A s.heap H locs → lv_has ls 4 [(0, .ref h), (1, .ref h_p1), (2, .int a2), (3, .int z_x3_2)] → K_2 z_x3_2 z_v_choosers_2 = some u_choosers → W p l e ({ frames := 2, cells := 0, slots := 0, locals := 42 }) s m [.ref h, .ref h_p1, .int a2].toArray below meth c H locs 0 0 (MQ below (fun _ => QW g [oX8 h h_work h_choosers v_names v_used v_folded, oX0 h_p1 h_p1_owners h_p1_sizes h_p1_nameCodes h_p1_nameBlocks v_p1_words v_p1_count v_p1_names, aI g h_p1_nameBlocks 10 v_p1_nameBlocks, aI g h_choosers 10 v_choosers] s.heap.size none [oX8 h h_work h_choosers v_names v_used v_folded, oX0 h_p1 h_p1_owners h_p1_sizes h_p1_nameCodes h_p1_nameBlocks v_p1_words v_p1_count v_p1_names, aI g h_p1_nameBlocks 10 v_p1_nameBlocks, aI g h_choosers 10 u_choosers]) [.ref h, .ref h_p1, .int a2].toArray s 0 0 (va_A [oX8 h h_work h_choosers v_names v_used v_folded, oX0 h_p1 h_p1_owners h_p1_sizes h_p1_nameCodes h_p1_nameBlocks v_p1_words v_p1_count v_p1_names, aI g h_p1_nameBlocks 10 v_p1_nameBlocks, aI g h_choosers 10 v_choosers] s.heap.size)) (F0 m 51 ls [])) → lp_X8_turnBlock_2 a2 v_names v_p1_names v_p1_nameBlocks n x3_2 v_choosers_2 K_2 = some u_choosers → W p l e ({ frames := 2, cells := 0, slots := 0, locals := 42 }) s m [.ref h, .ref h_p1, .int a2].toArray below meth c H locs 0 0 (MQ below (fun _ => QW g [oX8 h h_work h_choosers v_names v_used v_folded, oX0 h_p1 h_p1_owners h_p1_sizes h_p1_nameCodes h_p1_nameBlocks v_p1_words v_p1_count v_p1_names, aI g h_p1_nameBlocks 10 v_p1_nameBlocks, aI g h_choosers 10 v_choosers] s.heap.size none [oX8 h h_work h_choosers v_names v_used v_folded, oX0 h_p1 h_p1_owners h_p1_sizes h_p1_nameCodes h_p1_nameBlocks v_p1_words v_p1_count v_p1_names, aI g h_p1_nameBlocks 10 v_p1_nameBlocks, aI g h_choosers 10 u_choosers]) [.ref h, .ref h_p1, .int a2].toArray s 0 0 (va_A [oX8 h h_work h_choosers v_names v_used v_folded, oX0 h_p1 h_p1_owners h_p1_sizes h_p1_nameCodes h_p1_nameBlocks v_p1_words v_p1_count v_p1_names, aI g h_p1_nameBlocks 10 v_p1_nameBlocks, aI g h_choosers 10 v_choosers] s.heap.size)) (F0 m 2 ls []) := by
    intro n
    induction n with
    | zero =>
      intro x3_2 v_choosers_2 H locs ls K_2 hP hD hS hl hk hf
      have hf : (none : Option ((Nat → Int32))) = some _ := hf
      cases hf
    | succ n_2 ih_2 =>
      intro x3_2 v_choosers_2 H locs ls K_2 hP hD hS hl hk_2 hf
      refine lv_iload_n hx hb dX8_turnBlock_2 rfl (lv_at hl 3 rfl) ?_
      refine lv_aload_n hx hb dX8_turnBlock_3 rfl (lv_at hl 0 rfl) ?_
      refine gf_X8_25 X rfl hP 0 rfl rfl dX8_turnBlock_4 ?_
      refine lv_icmp_ge (tgt := 51) hx hb dX8_turnBlock_7 (by decide) (fun c_12 => ?_) (fun c_12 => ?_)
      · have hf := ift hf c_12
        exact hk_2 x3_2 v_choosers_2 H locs ls hP hD hS (lv_sub hl [0, 1, 2, 3] rfl) hf
      · have hf := iff_ hf c_12
        refine lv_iload_n hx hb dX8_turnBlock_10 rfl (lv_at hl 3 rfl) ?_
        refine lv_bipush (v := 10) hx hb dX8_turnBlock_11 (by decide) ?_
        refine lv_icmp_ge (tgt := 51) hx hb dX8_turnBlock_13 (by decide) (fun c_13 => ?_) (fun c_13 => ?_)
        · have hf := ift hf c_13
          exact hk_2 x3_2 v_choosers_2 H locs ls hP hD hS (lv_sub hl [0, 1, 2, 3] rfl) hf
        · have hf := iff_ hf c_13
          refine lv_aload_n hx hb dX8_turnBlock_16 rfl (lv_at hl 1 rfl) ?_
          refine lv_iload_n hx hb dX8_turnBlock_17 rfl (lv_at hl 3 rfl) ?_
          obtain ⟨r_14, hf_15, hf⟩ := obind hf
          refine gcV (rest := []) (wn := [oX8 h h_work h_choosers v_names v_used v_folded, oX0 h_p1 h_p1_owners h_p1_sizes h_p1_nameCodes h_p1_nameBlocks v_p1_words v_p1_count v_p1_names, aI g h_p1_nameBlocks 10 v_p1_nameBlocks, aI g h_choosers 10 v_choosers_2]) X hP hD hS hl (c_X0_blockOf l g h_p1 h_p1_owners h_p1_sizes h_p1_nameCodes h_p1_nameBlocks v_p1_words v_p1_count v_p1_names v_p1_nameBlocks x3_2 r_14 hf_15) [1, 2] rfl rfl rfl [.inl 0, .inr 0, .inr 1, .inl 3] rfl rfl cd_X0_blockOf rfl im_X0_blockOf se_X0_blockOf ml_X8_26 1 rfl rfl rfl rfl rfl ⟨(Nat.le_of_ble_eq_true rfl), (Nat.le_of_ble_eq_true rfl)⟩ rfl (Nat.le_of_ble_eq_true rfl) dX8_turnBlock_18 ⟨(Nat.le_of_ble_eq_true rfl), (Nat.le_of_ble_eq_true rfl)⟩ (fun H locs hP hD hS => ?_)
          refine lv_iload_n hx hb dX8_turnBlock_21 rfl (lv_at hl 2 rfl) ?_
          refine lv_icmp_ne (tgt := 45) hx hb dX8_turnBlock_22 (by decide) (fun c_16 => ?_) (fun c_16 => ?_)
          · have hf := iff_ hf c_16
            refine lv_iinc (v := x3_2 + 1) (lv' := [(3, .int (x3_2 + 1)), (0, .ref h), (1, .ref h_p1), (2, .int a2)]) hx hb dX8_turnBlock_45 hl (k := 3) rfl rfl (by decide) rfl (fun ls hl => ?_)
            refine lv_goto (tgt := 2) hx hb dX8_turnBlock_48 (by decide) ?_
            exact ih_2 (x3_2 + 1) v_choosers_2 H locs ls K_2 hP hD hS (lv_sub hl [1, 2, 3, 0] rfl) hk_2 hf
          · have hf := ift hf c_16
            refine lv_aload_n hx hb dX8_turnBlock_25 rfl (lv_at hl 0 rfl) ?_
            refine gf_X8_15 X rfl hP 0 rfl rfl dX8_turnBlock_26 ?_
            refine lv_iload_n hx hb dX8_turnBlock_29 rfl (lv_at hl 3 rfl) ?_
            refine lv_aload_n hx hb dX8_turnBlock_30 rfl (lv_at hl 0 rfl) ?_
            refine gf_X8_15 X rfl hP 0 rfl rfl dX8_turnBlock_31 ?_
            refine lv_iload_n hx hb dX8_turnBlock_34 rfl (lv_at hl 3 rfl) ?_
            obtain ⟨hi_17, hf⟩ := ifs hf
            refine va_iald (D := g.1) hx hb hG.1 hP 3 1 rfl rfl (ix_in hi_17) dX8_turnBlock_35 ?_
            refine lv_if_ne (tgt := 43) hx hb dX8_turnBlock_36 (by decide) (fun c_18 => ?_) (fun c_18 => ?_)
            · have hf := iff_ hf c_18
              refine lv_iconst (v := 0) hx hb dX8_turnBlock_43 (by decide) ?_
              obtain ⟨hi_19, hf⟩ := ifs hf
              refine va_iast (D := g.1) hx hb hG.1 hP hD hS 3 1 rfl rfl (ix_in hi_19) dX8_turnBlock_44 (fun H locs hP hD hS => ?_)
              have hP : va_P g.1 vwCl [oX8 h h_work h_choosers v_names v_used v_folded, oX0 h_p1 h_p1_owners h_p1_sizes h_p1_nameCodes h_p1_nameBlocks v_p1_words v_p1_count v_p1_names, aI g h_p1_nameBlocks 10 v_p1_nameBlocks, aI g h_choosers 10 (upd v_choosers_2 x3_2.toNatClampNeg 0)] H := hP
              have hD : va_D A [oX8 h h_work h_choosers v_names v_used v_folded, oX0 h_p1 h_p1_owners h_p1_sizes h_p1_nameCodes h_p1_nameBlocks v_p1_words v_p1_count v_p1_names, aI g h_p1_nameBlocks 10 v_p1_nameBlocks, aI g h_choosers 10 (upd v_choosers_2 x3_2.toNatClampNeg 0)] := hD
              refine lv_iinc (v := x3_2 + 1) (lv' := [(3, .int (x3_2 + 1)), (0, .ref h), (1, .ref h_p1), (2, .int a2)]) hx hb dX8_turnBlock_45 hl (k := 3) rfl rfl (by decide) rfl (fun ls hl => ?_)
              refine lv_goto (tgt := 2) hx hb dX8_turnBlock_48 (by decide) ?_
              exact ih_2 (x3_2 + 1) (upd v_choosers_2 x3_2.toNatClampNeg 0) H locs ls K_2 hP hD hS (lv_sub hl [1, 2, 3, 0] rfl) hk_2 hf
            · have hf := ift hf c_18
              refine lv_iconst (v := 1) hx hb dX8_turnBlock_39 (by decide) ?_
              refine lv_goto (tgt := 44) hx hb dX8_turnBlock_40 (by decide) ?_
              obtain ⟨hi_20, hf⟩ := ifs hf
              refine va_iast (D := g.1) hx hb hG.1 hP hD hS 3 1 rfl rfl (ix_in hi_20) dX8_turnBlock_44 (fun H locs hP hD hS => ?_)
              have hP : va_P g.1 vwCl [oX8 h h_work h_choosers v_names v_used v_folded, oX0 h_p1 h_p1_owners h_p1_sizes h_p1_nameCodes h_p1_nameBlocks v_p1_words v_p1_count v_p1_names, aI g h_p1_nameBlocks 10 v_p1_nameBlocks, aI g h_choosers 10 (upd v_choosers_2 x3_2.toNatClampNeg 1)] H := hP
              have hD : va_D A [oX8 h h_work h_choosers v_names v_used v_folded, oX0 h_p1 h_p1_owners h_p1_sizes h_p1_nameCodes h_p1_nameBlocks v_p1_words v_p1_count v_p1_names, aI g h_p1_nameBlocks 10 v_p1_nameBlocks, aI g h_choosers 10 (upd v_choosers_2 x3_2.toNatClampNeg 1)] := hD
              refine lv_iinc (v := x3_2 + 1) (lv' := [(3, .int (x3_2 + 1)), (0, .ref h), (1, .ref h_p1), (2, .int a2)]) hx hb dX8_turnBlock_45 hl (k := 3) rfl rfl (by decide) rfl (fun ls hl => ?_)
              refine lv_goto (tgt := 2) hx hb dX8_turnBlock_48 (by decide) ?_
              exact ih_2 (x3_2 + 1) (upd v_choosers_2 x3_2.toNatClampNeg 1) H locs ls K_2 hP hD hS (lv_sub hl [1, 2, 3, 0] rfl) hk_2 hf
  refine L_2 _ _ _ _ _ ls _ hP hD hS (lv_sub hl [1, 2, 3, 0] rfl) (fun x3_2_10 v_choosers_2_11 H locs ls hP hD hS hl hf => ?_) hf
  cases hf
  exact ret_v X hAe hP hD hS rfl dX8_turnBlock_51
def lp_X8_load_26 (y2_26 : Int32) (y3_26 : Int32) (y4_26 : Int32) (y5_26 : Int32) (v_names_26f : Int32) (v_used_26f : Int32) (v_p1_words_26f : Nat → Int64) : Nat → Int32 → (Nat → Int64) → (Int32 → (Nat → Int64) → Option (Int32 × (Nat → Int64))) → Option (Int32 × (Nat → Int64))
  | 0, _, _, _ => none
  | n_26 + 1, x6_26, v_work_26, K_26 =>
    if v_used_26f ≤ x6_26 then
    K_26 x6_26 v_work_26
    else
    (if 16 ≤ x6_26 then
    K_26 x6_26 v_work_26
    else
    ((f_X9_wordAt v_p1_words_26f ((y5_26 >>> ((6 : Int32) &&& 31)) + x6_26)).bind fun r_5 =>
    if ix x6_26 16 then
    lp_X8_load_26 y2_26 y3_26 y4_26 y5_26 v_names_26f v_used_26f v_p1_words_26f n_26 (x6_26 + 1) (vp_updL v_work_26 x6_26.toNatClampNeg r_5) K_26
    else none))
def f_X8_load (v_names : Int32) (v_used : Int32) (v_p1_words : Nat → Int64) (v_work : Nat → Int64) (a2 : Int32) (a3 : Int32) : Option (Int32 × (Nat → Int64)) :=
  (f_X11_tableWords (v_names - a3)).bind fun r_1 =>
  lp_X8_load_26 a2 a3 (v_names - a3) (a2 <<< ((v_names - a3) &&& 31)) v_names r_1 v_p1_words 5000 0 v_work (fun x6_26_8 v_work_26_9 => 
  if ix 0 16 then
  if ix 0 16 then
  some (r_1, vp_updL v_work_26_9 (0 : Int32).toNatClampNeg (jlushr (v_work_26_9 (0 : Int32).toNatClampNeg) ((a2 <<< ((v_names - a3) &&& 31)) &&& (63 : Int32))))
  else none
  else none)
set_option maxHeartbeats 4000000 in
set_option maxRecDepth 100000 in
theorem c_X8_load (l : Launch) (g : GT) (h : Nat) (h_work : Nat) (h_choosers : Nat) (v_names : Int32) (v_used : Int32) (v_folded : Int32) (h_p1 : Nat) (h_p1_words : Nat) (h_p1_stack : Nat) (v_p1_depth : Int32) (v_p1_words : Nat → Int64) (v_work : Nat → Int64) (a2 : Int32) (a3 : Int32) (u_used : Int32) (u_work : Nat → Int64) (hf : f_X8_load v_names v_used v_p1_words v_work a2 a3 = some (u_used, u_work)) : Con l g yX8_load cX8_load 7 none ({ frames := 2, cells := 0, slots := 0, locals := 42 }) [.ref h, .ref h_p1, .int a2, .int a3] [oX8 h h_work h_choosers v_names v_used v_folded, oX9 h_p1 h_p1_words h_p1_stack v_p1_depth, aJ g h_p1_words 16 v_p1_words, aJ g h_work 16 v_work] none [oX8 h h_work h_choosers v_names u_used v_folded, oX9 h_p1 h_p1_words h_p1_stack v_p1_depth, aJ g h_p1_words 16 v_p1_words, aJ g h_work 16 u_work] := by
  refine Con.of (by decide) (Nat.le_of_ble_eq_true rfl) ?_
  intro p e s m below meth c A ls hAe X hP hD hS hl
  obtain ⟨hx, hb, hml, hr, hown, hts, hlk, hnm, hA, hG, hZ⟩ := id X
  have hown : s.vm.findClass RX8 = some m.cls := hown
  have hl : lv_has ls 7 [(0, .ref h), (1, .ref h_p1), (2, .int a2), (3, .int a3)] := hl
  unfold f_X8_load at hf
  refine lv_aload_n hx hb dX8_load_0 rfl (lv_at hl 0 rfl) ?_
  refine gf_X8_25 X rfl hP 0 rfl rfl dX8_load_1 ?_
  refine lv_iload_n hx hb dX8_load_4 rfl (lv_at hl 3 rfl) ?_
  refine lv_isub hx hb dX8_load_5 ?_
  refine lv_istore (lv' := [(4, .int (v_names - a3)), (0, .ref h), (1, .ref h_p1), (2, .int a2), (3, .int a3)]) hx hb dX8_load_6 hl (by decide) rfl (fun ls hl => ?_)
  refine lv_iload_n hx hb dX8_load_8 rfl (lv_at hl 3 rfl) ?_
  refine lv_iload hx hb dX8_load_9 (lv_at hl 0 rfl) ?_
  refine lv_ishl hx hb dX8_load_11 ?_
  refine lv_istore (lv' := [(5, .int (a2 <<< ((v_names - a3) &&& 31))), (4, .int (v_names - a3)), (0, .ref h), (1, .ref h_p1), (2, .int a2), (3, .int a3)]) hx hb dX8_load_12 hl (by decide) rfl (fun ls hl => ?_)
  refine lv_aload_n hx hb dX8_load_14 rfl (lv_at hl 2 rfl) ?_
  refine lv_iload hx hb dX8_load_15 (lv_at hl 1 rfl) ?_
  obtain ⟨r_1, hf_2, hf⟩ := obind hf
  refine gcSN (rest := [.ref h]) (wn := [oX8 h h_work h_choosers v_names v_used v_folded, oX9 h_p1 h_p1_words h_p1_stack v_p1_depth, aJ g h_p1_words 16 v_p1_words, aJ g h_work 16 v_work]) X hP hD hS hl (c_X11_tableWords l g (v_names - a3) r_1 hf_2) [] rfl rfl rfl [.inl 0, .inl 1, .inl 2, .inl 3] rfl rfl cd_X11_tableWords rfl st_X11_tableWords ml_X8_57 rfl rfl ⟨(Nat.le_of_ble_eq_true rfl), (Nat.le_of_ble_eq_true rfl)⟩ rfl (Nat.le_of_ble_eq_true rfl) dX8_load_17 ⟨(Nat.le_of_ble_eq_true rfl), (Nat.le_of_ble_eq_true rfl)⟩ (fun H locs hP hD hS => ?_)
  refine pf_X8_48 X rfl hP hD hS 0 rfl (Nat.le_of_ble_eq_true rfl) dX8_load_20 (fun H locs hP hD hS => ?_)
  have hP : va_P g.1 vwCl [oX8 h h_work h_choosers v_names r_1 v_folded, oX9 h_p1 h_p1_words h_p1_stack v_p1_depth, aJ g h_p1_words 16 v_p1_words, aJ g h_work 16 v_work] H := hP
  have hD : va_D A [oX8 h h_work h_choosers v_names r_1 v_folded, oX9 h_p1 h_p1_words h_p1_stack v_p1_depth, aJ g h_p1_words 16 v_p1_words, aJ g h_work 16 v_work] := hD
  refine lv_iconst (v := 0) hx hb dX8_load_23 (by decide) ?_
  refine lv_istore (lv' := [(6, .int 0), (5, .int (a2 <<< ((v_names - a3) &&& 31))), (4, .int (v_names - a3)), (0, .ref h), (1, .ref h_p1), (2, .int a2), (3, .int a3)]) hx hb dX8_load_24 hl (by decide) rfl (fun ls hl => ?_)
  have L_26 : ∀ (n : Nat) (x6_26 : Int32) (v_work_26 : Nat → Int64) (H : Heap) (locs : List Loc) (ls : Array Slot) (K_26 : Int32 → (Nat → Int64) → Option (Int32 × (Nat → Int64))), va_P g.1 vwCl [oX8 h h_work h_choosers v_names r_1 v_folded, oX9 h_p1 h_p1_words h_p1_stack v_p1_depth, aJ g h_p1_words 16 v_p1_words, aJ g h_work 16 v_work_26] H → va_D A [oX8 h h_work h_choosers v_names r_1 v_folded, oX9 h_p1 h_p1_words h_p1_stack v_p1_depth, aJ g h_p1_words 16 v_p1_words, aJ g h_work 16 v_work_26] → va_S A s.heap H locs → lv_has ls 7 [(0, .ref h), (1, .ref h_p1), (2, .int a2), (3, .int a3), (4, .int (v_names - a3)), (5, .int (a2 <<< ((v_names - a3) &&& 31))), (6, .int x6_26)] → (∀ (z_x6_26 : Int32) (z_v_work_26 : Nat → Int64) (H : Heap) (locs : List Loc) (ls : Array Slot), va_P g.1 vwCl [oX8 h h_work h_choosers v_names r_1 v_folded, oX9 h_p1 h_p1_words h_p1_stack v_p1_depth, aJ g h_p1_words 16 v_p1_words, aJ g h_work 16 z_v_work_26] H → va_D A [oX8 h h_work h_choosers v_names r_1 v_folded, oX9 h_p1 h_p1_words h_p1_stack v_p1_depth, aJ g h_p1_words 16 v_p1_words, aJ g h_work 16 z_v_work_26] → va_S A s.heap H locs → lv_has ls 7 [(0, .ref h), (1, .ref h_p1), (2, .int a2), (3, .int a3), (4, .int (v_names - a3)), (5, .int (a2 <<< ((v_names - a3) &&& 31))), (6, .int z_x6_26)] → K_26 z_x6_26 z_v_work_26 = some (u_used, u_work) → W p l e ({ frames := 2, cells := 0, slots := 0, locals := 42 }) s m [.ref h, .ref h_p1, .int a2, .int a3].toArray below meth c H locs 0 0 (MQ below (fun _ => QW g [oX8 h h_work h_choosers v_names v_used v_folded, oX9 h_p1 h_p1_words h_p1_stack v_p1_depth, aJ g h_p1_words 16 v_p1_words, aJ g h_work 16 v_work] s.heap.size none [oX8 h h_work h_choosers v_names u_used v_folded, oX9 h_p1 h_p1_words h_p1_stack v_p1_depth, aJ g h_p1_words 16 v_p1_words, aJ g h_work 16 u_work]) [.ref h, .ref h_p1, .int a2, .int a3].toArray s 0 0 (va_A [oX8 h h_work h_choosers v_names v_used v_folded, oX9 h_p1 h_p1_words h_p1_stack v_p1_depth, aJ g h_p1_words 16 v_p1_words, aJ g h_work 16 v_work] s.heap.size)) (F0 m 67 ls [])) → lp_X8_load_26 a2 a3 (v_names - a3) (a2 <<< ((v_names - a3) &&& 31)) v_names r_1 v_p1_words n x6_26 v_work_26 K_26 = some (u_used, u_work) → W p l e ({ frames := 2, cells := 0, slots := 0, locals := 42 }) s m [.ref h, .ref h_p1, .int a2, .int a3].toArray below meth c H locs 0 0 (MQ below (fun _ => QW g [oX8 h h_work h_choosers v_names v_used v_folded, oX9 h_p1 h_p1_words h_p1_stack v_p1_depth, aJ g h_p1_words 16 v_p1_words, aJ g h_work 16 v_work] s.heap.size none [oX8 h h_work h_choosers v_names u_used v_folded, oX9 h_p1 h_p1_words h_p1_stack v_p1_depth, aJ g h_p1_words 16 v_p1_words, aJ g h_work 16 u_work]) [.ref h, .ref h_p1, .int a2, .int a3].toArray s 0 0 (va_A [oX8 h h_work h_choosers v_names v_used v_folded, oX9 h_p1 h_p1_words h_p1_stack v_p1_depth, aJ g h_p1_words 16 v_p1_words, aJ g h_work 16 v_work] s.heap.size)) (F0 m 26 ls []) := by
    intro n
    induction n with
    | zero =>
      intro x6_26 v_work_26 H locs ls K_26 hP hD hS hl hk hf
      have hf : (none : Option (Int32 × (Nat → Int64))) = some _ := hf
      cases hf
    | succ n_26 ih_26 =>
      intro x6_26 v_work_26 H locs ls K_26 hP hD hS hl hk_26 hf
      refine lv_iload hx hb dX8_load_26 (lv_at hl 6 rfl) ?_
      refine lv_aload_n hx hb dX8_load_28 rfl (lv_at hl 0 rfl) ?_
      refine gf_X8_48 X rfl hP 0 rfl rfl dX8_load_29 ?_
      refine lv_icmp_ge (tgt := 67) hx hb dX8_load_32 (by decide) (fun c_10 => ?_) (fun c_10 => ?_)
      · have hf := ift hf c_10
        exact hk_26 x6_26 v_work_26 H locs ls hP hD hS (lv_sub hl [0, 1, 2, 3, 4, 5, 6] rfl) hf
      · have hf := iff_ hf c_10
        refine lv_iload hx hb dX8_load_35 (lv_at hl 6 rfl) ?_
        refine lv_bipush (v := 16) hx hb dX8_load_37 (by decide) ?_
        refine lv_icmp_ge (tgt := 67) hx hb dX8_load_39 (by decide) (fun c_11 => ?_) (fun c_11 => ?_)
        · have hf := ift hf c_11
          exact hk_26 x6_26 v_work_26 H locs ls hP hD hS (lv_sub hl [0, 1, 2, 3, 4, 5, 6] rfl) hf
        · have hf := iff_ hf c_11
          refine lv_aload_n hx hb dX8_load_42 rfl (lv_at hl 0 rfl) ?_
          refine gf_X8_9 X rfl hP 0 rfl rfl dX8_load_43 ?_
          refine lv_iload hx hb dX8_load_46 (lv_at hl 6 rfl) ?_
          refine lv_aload_n hx hb dX8_load_48 rfl (lv_at hl 1 rfl) ?_
          refine lv_iload hx hb dX8_load_49 (lv_at hl 5 rfl) ?_
          refine lv_bipush (v := 6) hx hb dX8_load_51 (by decide) ?_
          refine lv_ishr hx hb dX8_load_53 ?_
          refine lv_iload hx hb dX8_load_54 (lv_at hl 6 rfl) ?_
          refine lv_iadd hx hb dX8_load_56 ?_
          obtain ⟨r_12, hf_13, hf⟩ := obind hf
          refine gcV (rest := [.int x6_26, .ref h_work]) (wn := [oX8 h h_work h_choosers v_names r_1 v_folded, oX9 h_p1 h_p1_words h_p1_stack v_p1_depth, aJ g h_p1_words 16 v_p1_words, aJ g h_work 16 v_work_26]) X hP hD hS hl (c_X9_wordAt l g h_p1 h_p1_words h_p1_stack v_p1_depth v_p1_words (((a2 <<< ((v_names - a3) &&& 31)) >>> ((6 : Int32) &&& 31)) + x6_26) r_12 hf_13) [1, 2] rfl rfl rfl [.inl 0, .inr 0, .inr 1, .inl 3] rfl rfl cd_X9_wordAt rfl im_X9_wordAt se_X9_wordAt ml_X8_60 1 rfl rfl rfl rfl rfl ⟨(Nat.le_of_ble_eq_true rfl), (Nat.le_of_ble_eq_true rfl)⟩ rfl (Nat.le_of_ble_eq_true rfl) dX8_load_57 ⟨(Nat.le_of_ble_eq_true rfl), (Nat.le_of_ble_eq_true rfl)⟩ (fun H locs hP hD hS => ?_)
          obtain ⟨hi_14, hf⟩ := ifs hf
          refine va_last (D := g.1) hx hb hG.1 hP hD hS 3 2 rfl rfl (ix_in hi_14) dX8_load_60 (fun H locs hP hD hS => ?_)
          have hP : va_P g.1 vwCl [oX8 h h_work h_choosers v_names r_1 v_folded, oX9 h_p1 h_p1_words h_p1_stack v_p1_depth, aJ g h_p1_words 16 v_p1_words, aJ g h_work 16 (vp_updL v_work_26 x6_26.toNatClampNeg r_12)] H := hP
          have hD : va_D A [oX8 h h_work h_choosers v_names r_1 v_folded, oX9 h_p1 h_p1_words h_p1_stack v_p1_depth, aJ g h_p1_words 16 v_p1_words, aJ g h_work 16 (vp_updL v_work_26 x6_26.toNatClampNeg r_12)] := hD
          refine lv_iinc (v := x6_26 + 1) (lv' := [(6, .int (x6_26 + 1)), (0, .ref h), (1, .ref h_p1), (2, .int a2), (3, .int a3), (4, .int (v_names - a3)), (5, .int (a2 <<< ((v_names - a3) &&& 31)))]) hx hb dX8_load_61 hl (k := 6) rfl rfl (by decide) rfl (fun ls hl => ?_)
          refine lv_goto (tgt := 26) hx hb dX8_load_64 (by decide) ?_
          exact ih_26 (x6_26 + 1) (vp_updL v_work_26 x6_26.toNatClampNeg r_12) H locs ls K_26 hP hD hS (lv_sub hl [1, 2, 3, 4, 5, 6, 0] rfl) hk_26 hf
  refine L_26 _ _ _ _ _ ls _ hP hD hS (lv_sub hl [3, 4, 5, 6, 2, 1, 0] rfl) (fun x6_26_8 v_work_26_9 H locs ls hP hD hS hl hf => ?_) hf
  refine lv_aload_n hx hb dX8_load_67 rfl (lv_at hl 0 rfl) ?_
  refine gf_X8_9 X rfl hP 0 rfl rfl dX8_load_68 ?_
  refine lv_iconst (v := 0) hx hb dX8_load_71 (by decide) ?_
  refine lv_dup2_11 hx hb dX8_load_72 rfl rfl ?_
  obtain ⟨hi_15, hf⟩ := ifs hf
  refine va_lald (D := g.1) hx hb hG.1 hP 3 2 rfl rfl (ix_in hi_15) dX8_load_73 ?_
  refine lv_iload hx hb dX8_load_74 (lv_at hl 5 rfl) ?_
  refine lv_bipush (v := 63) hx hb dX8_load_76 (by decide) ?_
  refine lv_iand hx hb dX8_load_78 ?_
  refine lv_lushr (v := jlushr (v_work_26_9 (0 : Int32).toNatClampNeg) ((a2 <<< ((v_names - a3) &&& 31)) &&& (63 : Int32))) hx hb dX8_load_79 rfl ?_
  obtain ⟨hi_16, hf⟩ := ifs hf
  refine va_last (D := g.1) hx hb hG.1 hP hD hS 3 2 rfl rfl (ix_in hi_16) dX8_load_80 (fun H locs hP hD hS => ?_)
  have hP : va_P g.1 vwCl [oX8 h h_work h_choosers v_names r_1 v_folded, oX9 h_p1 h_p1_words h_p1_stack v_p1_depth, aJ g h_p1_words 16 v_p1_words, aJ g h_work 16 (vp_updL v_work_26_9 (0 : Int32).toNatClampNeg (jlushr (v_work_26_9 (0 : Int32).toNatClampNeg) ((a2 <<< ((v_names - a3) &&& 31)) &&& (63 : Int32))))] H := hP
  have hD : va_D A [oX8 h h_work h_choosers v_names r_1 v_folded, oX9 h_p1 h_p1_words h_p1_stack v_p1_depth, aJ g h_p1_words 16 v_p1_words, aJ g h_work 16 (vp_updL v_work_26_9 (0 : Int32).toNatClampNeg (jlushr (v_work_26_9 (0 : Int32).toNatClampNeg) ((a2 <<< ((v_names - a3) &&& 31)) &&& (63 : Int32))))] := hD
  cases hf
  exact ret_v X hAe hP hD hS rfl dX8_load_81
def f_X8_choose (a1 : Int32) (a2 : Int64) (a3 : Int64) : Option (Int64) :=
  if a1 = 0 then
  some (a2 ||| a3)
  else
  (if a1 = 1 then
  some (a2 &&& a3)
  else
  (if a1 = 2 then
  some a2
  else
  some a3))
set_option maxHeartbeats 4000000 in
set_option maxRecDepth 100000 in
theorem c_X8_choose (l : Launch) (g : GT) (a1 : Int32) (a2 : Int64) (a3 : Int64) (r_ : Int64) (hf : f_X8_choose a1 a2 a3 = some r_) : Con l g yX8_choose cX8_choose 5 (some .long) ({ frames := 0, cells := 0, slots := 0, locals := 0 }) [.int a1, .long a2, .long a3] [] (some (.long r_)) [] := by
  refine Con.of (by decide) (Nat.le_of_ble_eq_true rfl) ?_
  intro p e s m below meth c A ls hAe X hP hD hS hl
  obtain ⟨hx, hb, hml, hr, hown, hts, hlk, hnm, hA, hG, hZ⟩ := id X
  have hown : s.vm.findClass RX8 = some m.cls := hown
  have hl : lv_has ls 5 [(0, .int a1), (1, .long a2), (3, .long a3)] := hl
  unfold f_X8_choose at hf
  refine lv_iload_n hx hb dX8_choose_0 rfl (lv_at hl 0 rfl) ?_
  by_cases e_1 : a1 = 0
  · have hf := ift hf e_1
    refine lv_tableIn hx hb dX8_choose_1 (off := 27) (by rw [e_1] <;> decide) (by rw [e_1] <;> decide) (by rw [e_1] <;> rfl) (by decide) ?_ (tgt := 28)
    refine lv_lload_n hx hb dX8_choose_28 rfl (lv_at hl 1 rfl) ?_
    refine lv_lload_n hx hb dX8_choose_29 rfl (lv_at hl 2 rfl) ?_
    refine lv_lor hx hb dX8_choose_30 ?_
    cases hf
    exact ret_l X hAe hP hD hS rfl dX8_choose_31
  · have hf := iff_ hf e_1
    by_cases e_2 : a1 = 1
    · have hf := ift hf e_2
      refine lv_tableIn hx hb dX8_choose_1 (off := 31) (by rw [e_2] <;> decide) (by rw [e_2] <;> decide) (by rw [e_2] <;> rfl) (by decide) ?_ (tgt := 32)
      refine lv_lload_n hx hb dX8_choose_32 rfl (lv_at hl 1 rfl) ?_
      refine lv_lload_n hx hb dX8_choose_33 rfl (lv_at hl 2 rfl) ?_
      refine lv_land hx hb dX8_choose_34 ?_
      cases hf
      exact ret_l X hAe hP hD hS rfl dX8_choose_35
    · have hf := iff_ hf e_2
      by_cases e_3 : a1 = 2
      · have hf := ift hf e_3
        refine lv_tableIn hx hb dX8_choose_1 (off := 35) (by rw [e_3] <;> decide) (by rw [e_3] <;> decide) (by rw [e_3] <;> rfl) (by decide) ?_ (tgt := 36)
        refine lv_lload_n hx hb dX8_choose_36 rfl (lv_at hl 1 rfl) ?_
        cases hf
        exact ret_l X hAe hP hD hS rfl dX8_choose_37
      · have hf := iff_ hf e_3
        have ne_1 := lv_neT e_1 (a := 0) rfl
        have ne_2 := lv_neT e_2 (a := 1) rfl
        have ne_3 := lv_neT e_3 (a := 2) rfl
        refine lv_tableOut hx hb dX8_choose_1 (by omega) (by decide) ?_ (tgt := 38)
        refine lv_lload_n hx hb dX8_choose_38 rfl (lv_at hl 2 rfl) ?_
        cases hf
        exact ret_l X hAe hP hD hS rfl dX8_choose_39
def lp_X8_foldBit_92 (y1_92 : Int32) (y2_92 : Int32) (y3_92 : Int32) (y4_92 : Int32) (v_used_92f : Int32) (v_choosers_92f : Nat → Int32) : Nat → Int32 → (Nat → Int64) → (Int32 → (Nat → Int64) → Option ((Nat → Int64))) → Option ((Nat → Int64))
  | 0, _, _, _ => none
  | n_92 + 1, x5_92, v_work_92, K_92 =>
    if v_used_92f ≤ x5_92 + y4_92 then
    K_92 x5_92 v_work_92
    else
    (if 16 ≤ x5_92 + y4_92 then
    K_92 x5_92 v_work_92
    else
    (if ix x5_92 16 then
    if ix (x5_92 + y4_92) 16 then
    (f_X8_choose y3_92 (v_work_92 x5_92.toNatClampNeg) (v_work_92 (x5_92 + y4_92).toNatClampNeg)).bind fun r_8 =>
    if ix x5_92 16 then
    lp_X8_foldBit_92 y1_92 y2_92 y3_92 y4_92 v_used_92f v_choosers_92f n_92 (x5_92 + ((2 : Int32) * y4_92)) (vp_updL v_work_92 x5_92.toNatClampNeg r_8) K_92
    else none
    else none
    else none))
def lp_X8_foldBit_29 (y1_29 : Int32) (y2_29 : Int32) (y3_29 : Int32) (v_used_29f : Int32) (v_choosers_29f : Nat → Int32) : Nat → Int32 → (Nat → Int64) → (Int32 → (Nat → Int64) → Option ((Nat → Int64))) → Option ((Nat → Int64))
  | 0, _, _, _ => none
  | n_29 + 1, x4_29, v_work_29, K_29 =>
    if v_used_29f ≤ x4_29 then
    K_29 x4_29 v_work_29
    else
    (if 16 ≤ x4_29 then
    K_29 x4_29 v_work_29
    else
    (if ix x4_29 16 then
    if ix x4_29 16 then
    (f_X8_choose y3_29 (v_work_29 x4_29.toNatClampNeg) (jlushr (v_work_29 x4_29.toNatClampNeg) ((1 : Int32) <<< (y1_29 &&& 31)))).bind fun r_24 =>
    if ix x4_29 16 then
    lp_X8_foldBit_29 y1_29 y2_29 y3_29 v_used_29f v_choosers_29f n_29 (x4_29 + 1) (vp_updL v_work_29 x4_29.toNatClampNeg r_24) K_29
    else none
    else none
    else none))
def f_X8_foldBit (v_used : Int32) (v_choosers : Nat → Int32) (v_work : Nat → Int64) (a1 : Int32) (a2 : Int32) : Option ((Nat → Int64)) :=
  (f_X11_within a2 10).bind fun r_1 =>
  jn (κ := Int32 → Option ((Nat → Int64))) (fun (s0_19 : Int32) =>
  if 6 ≤ a1 then
  (lp_X8_foldBit_92 a1 a2 s0_19 ((1 : Int32) <<< ((a1 - (6 : Int32)) &&& 31)) v_used v_choosers 5000 0 v_work (fun x5_92_11 v_work_92_12 => 
  some v_work_92_12))
  else
  (lp_X8_foldBit_29 a1 a2 s0_19 v_used v_choosers 5000 0 v_work (fun x4_29_27 v_work_29_28 => 
  some v_work_29_28))) fun j_19 =>
  if b2i r_1 = 0 then
  j_19 0
  else
  (if ix a2 10 then
  j_19 (v_choosers a2.toNatClampNeg)
  else none)
set_option maxHeartbeats 4000000 in
set_option maxRecDepth 100000 in
theorem c_X8_foldBit (l : Launch) (g : GT) (h : Nat) (h_work : Nat) (h_choosers : Nat) (v_names : Int32) (v_used : Int32) (v_folded : Int32) (v_choosers : Nat → Int32) (v_work : Nat → Int64) (a1 : Int32) (a2 : Int32) (u_work : Nat → Int64) (hf : f_X8_foldBit v_used v_choosers v_work a1 a2 = some u_work) : Con l g yX8_foldBit cX8_foldBit 6 none ({ frames := 1, cells := 0, slots := 0, locals := 24 }) [.ref h, .int a1, .int a2] [oX8 h h_work h_choosers v_names v_used v_folded, aI g h_choosers 10 v_choosers, aJ g h_work 16 v_work] none [oX8 h h_work h_choosers v_names v_used v_folded, aI g h_choosers 10 v_choosers, aJ g h_work 16 u_work] := by
  refine Con.of (by decide) (Nat.le_of_ble_eq_true rfl) ?_
  intro p e s m below meth c A ls hAe X hP hD hS hl
  obtain ⟨hx, hb, hml, hr, hown, hts, hlk, hnm, hA, hG, hZ⟩ := id X
  have hown : s.vm.findClass RX8 = some m.cls := hown
  have hl : lv_has ls 6 [(0, .ref h), (1, .int a1), (2, .int a2)] := hl
  unfold f_X8_foldBit at hf
  refine lv_iload_n hx hb dX8_foldBit_0 rfl (lv_at hl 2 rfl) ?_
  refine lv_bipush (v := 10) hx hb dX8_foldBit_1 (by decide) ?_
  obtain ⟨r_1, hf_2, hf⟩ := obind hf
  refine gcSN (rest := []) (wn := [oX8 h h_work h_choosers v_names v_used v_folded, aI g h_choosers 10 v_choosers, aJ g h_work 16 v_work]) X hP hD hS hl (c_X11_within l g a2 10 r_1 hf_2) [] rfl rfl rfl [.inl 0, .inl 1, .inl 2] rfl rfl cd_X11_within rfl st_X11_within ml_X8_33 rfl rfl ⟨(Nat.le_of_ble_eq_true rfl), (Nat.le_of_ble_eq_true rfl)⟩ rfl (Nat.le_of_ble_eq_true rfl) dX8_foldBit_3 ⟨(Nat.le_of_ble_eq_true rfl), (Nat.le_of_ble_eq_true rfl)⟩ (fun H locs hP hD hS => ?_)
  refine jn_elim hf (fun j_19 hj_19 hf => ?_)
  have J_19 : ∀ (s0_19 : Int32) (H : Heap) (locs : List Loc) (ls : Array Slot), va_P g.1 vwCl [oX8 h h_work h_choosers v_names v_used v_folded, aI g h_choosers 10 v_choosers, aJ g h_work 16 v_work] H → va_D A [oX8 h h_work h_choosers v_names v_used v_folded, aI g h_choosers 10 v_choosers, aJ g h_work 16 v_work] → va_S A s.heap H locs → lv_has ls 6 [(0, .ref h), (1, .int a1), (2, .int a2)] → j_19 s0_19 = some u_work → W p l e ({ frames := 1, cells := 0, slots := 0, locals := 24 }) s m [.ref h, .int a1, .int a2].toArray below meth c H locs 0 0 (MQ below (fun _ => QW g [oX8 h h_work h_choosers v_names v_used v_folded, aI g h_choosers 10 v_choosers, aJ g h_work 16 v_work] s.heap.size none [oX8 h h_work h_choosers v_names v_used v_folded, aI g h_choosers 10 v_choosers, aJ g h_work 16 u_work]) [.ref h, .int a1, .int a2].toArray s 0 0 (va_A [oX8 h h_work h_choosers v_names v_used v_folded, aI g h_choosers 10 v_choosers, aJ g h_work 16 v_work] s.heap.size)) (F0 m 19 ls [.int s0_19]) := by
    intro s0_19 H locs ls hP hD hS hl hf
    rw [hj_19] at hf
    refine lv_istore_n (lv' := [(3, .int s0_19), (0, .ref h), (1, .int a1), (2, .int a2)]) hx hb dX8_foldBit_19 rfl hl (by decide) rfl (fun ls hl => ?_)
    refine lv_iload_n hx hb dX8_foldBit_20 rfl (lv_at hl 2 rfl) ?_
    refine lv_bipush (v := 6) hx hb dX8_foldBit_21 (by decide) ?_
    refine lv_icmp_ge (tgt := 81) hx hb dX8_foldBit_23 (by decide) (fun c_3 => ?_) (fun c_3 => ?_)
    · have hf := ift hf c_3
      refine lv_iconst (v := 1) hx hb dX8_foldBit_81 (by decide) ?_
      refine lv_iload_n hx hb dX8_foldBit_82 rfl (lv_at hl 2 rfl) ?_
      refine lv_bipush (v := 6) hx hb dX8_foldBit_83 (by decide) ?_
      refine lv_isub hx hb dX8_foldBit_85 ?_
      refine lv_ishl hx hb dX8_foldBit_86 ?_
      refine lv_istore (lv' := [(4, .int ((1 : Int32) <<< ((a1 - (6 : Int32)) &&& 31))), (3, .int s0_19), (0, .ref h), (1, .int a1), (2, .int a2)]) hx hb dX8_foldBit_87 hl (by decide) rfl (fun ls hl => ?_)
      refine lv_iconst (v := 0) hx hb dX8_foldBit_89 (by decide) ?_
      refine lv_istore (lv' := [(5, .int 0), (4, .int ((1 : Int32) <<< ((a1 - (6 : Int32)) &&& 31))), (3, .int s0_19), (0, .ref h), (1, .int a1), (2, .int a2)]) hx hb dX8_foldBit_90 hl (by decide) rfl (fun ls hl => ?_)
      have L_92 : ∀ (n : Nat) (x5_92 : Int32) (v_work_92 : Nat → Int64) (H : Heap) (locs : List Loc) (ls : Array Slot) (K_92 : Int32 → (Nat → Int64) → Option ((Nat → Int64))), va_P g.1 vwCl [oX8 h h_work h_choosers v_names v_used v_folded, aI g h_choosers 10 v_choosers, aJ g h_work 16 v_work_92] H → va_D A [oX8 h h_work h_choosers v_names v_used v_folded, aI g h_choosers 10 v_choosers, aJ g h_work 16 v_work_92] → va_S A s.heap H locs → lv_has ls 6 [(0, .ref h), (1, .int a1), (2, .int a2), (3, .int s0_19), (4, .int ((1 : Int32) <<< ((a1 - (6 : Int32)) &&& 31))), (5, .int x5_92)] → (∀ (z_x5_92 : Int32) (z_v_work_92 : Nat → Int64) (H : Heap) (locs : List Loc) (ls : Array Slot), va_P g.1 vwCl [oX8 h h_work h_choosers v_names v_used v_folded, aI g h_choosers 10 v_choosers, aJ g h_work 16 z_v_work_92] H → va_D A [oX8 h h_work h_choosers v_names v_used v_folded, aI g h_choosers 10 v_choosers, aJ g h_work 16 z_v_work_92] → va_S A s.heap H locs → lv_has ls 6 [(0, .ref h), (1, .int a1), (2, .int a2), (3, .int s0_19), (4, .int ((1 : Int32) <<< ((a1 - (6 : Int32)) &&& 31))), (5, .int z_x5_92)] → K_92 z_x5_92 z_v_work_92 = some u_work → W p l e ({ frames := 1, cells := 0, slots := 0, locals := 24 }) s m [.ref h, .int a1, .int a2].toArray below meth c H locs 0 0 (MQ below (fun _ => QW g [oX8 h h_work h_choosers v_names v_used v_folded, aI g h_choosers 10 v_choosers, aJ g h_work 16 v_work] s.heap.size none [oX8 h h_work h_choosers v_names v_used v_folded, aI g h_choosers 10 v_choosers, aJ g h_work 16 u_work]) [.ref h, .int a1, .int a2].toArray s 0 0 (va_A [oX8 h h_work h_choosers v_names v_used v_folded, aI g h_choosers 10 v_choosers, aJ g h_work 16 v_work] s.heap.size)) (F0 m 154 ls [])) → lp_X8_foldBit_92 a1 a2 s0_19 ((1 : Int32) <<< ((a1 - (6 : Int32)) &&& 31)) v_used v_choosers n x5_92 v_work_92 K_92 = some u_work → W p l e ({ frames := 1, cells := 0, slots := 0, locals := 24 }) s m [.ref h, .int a1, .int a2].toArray below meth c H locs 0 0 (MQ below (fun _ => QW g [oX8 h h_work h_choosers v_names v_used v_folded, aI g h_choosers 10 v_choosers, aJ g h_work 16 v_work] s.heap.size none [oX8 h h_work h_choosers v_names v_used v_folded, aI g h_choosers 10 v_choosers, aJ g h_work 16 u_work]) [.ref h, .int a1, .int a2].toArray s 0 0 (va_A [oX8 h h_work h_choosers v_names v_used v_folded, aI g h_choosers 10 v_choosers, aJ g h_work 16 v_work] s.heap.size)) (F0 m 92 ls []) := by
        intro n
        induction n with
        | zero =>
          intro x5_92 v_work_92 H locs ls K_92 hP hD hS hl hk hf
          have hf : (none : Option ((Nat → Int64))) = some _ := hf
          cases hf
        | succ n_92 ih_92 =>
          intro x5_92 v_work_92 H locs ls K_92 hP hD hS hl hk_92 hf
          refine lv_iload hx hb dX8_foldBit_92 (lv_at hl 5 rfl) ?_
          refine lv_iload hx hb dX8_foldBit_94 (lv_at hl 4 rfl) ?_
          refine lv_iadd hx hb dX8_foldBit_96 ?_
          refine lv_aload_n hx hb dX8_foldBit_97 rfl (lv_at hl 0 rfl) ?_
          refine gf_X8_48 X rfl hP 0 rfl rfl dX8_foldBit_98 ?_
          refine lv_icmp_ge (tgt := 154) hx hb dX8_foldBit_101 (by decide) (fun c_13 => ?_) (fun c_13 => ?_)
          · have hf := ift hf c_13
            exact hk_92 x5_92 v_work_92 H locs ls hP hD hS (lv_sub hl [0, 1, 2, 3, 4, 5] rfl) hf
          · have hf := iff_ hf c_13
            refine lv_iload hx hb dX8_foldBit_104 (lv_at hl 5 rfl) ?_
            refine lv_iload hx hb dX8_foldBit_106 (lv_at hl 4 rfl) ?_
            refine lv_iadd hx hb dX8_foldBit_108 ?_
            refine lv_bipush (v := 16) hx hb dX8_foldBit_109 (by decide) ?_
            refine lv_icmp_ge (tgt := 154) hx hb dX8_foldBit_111 (by decide) (fun c_14 => ?_) (fun c_14 => ?_)
            · have hf := ift hf c_14
              exact hk_92 x5_92 v_work_92 H locs ls hP hD hS (lv_sub hl [0, 1, 2, 3, 4, 5] rfl) hf
            · have hf := iff_ hf c_14
              refine lv_aload_n hx hb dX8_foldBit_114 rfl (lv_at hl 0 rfl) ?_
              refine gf_X8_9 X rfl hP 0 rfl rfl dX8_foldBit_115 ?_
              refine lv_iload hx hb dX8_foldBit_118 (lv_at hl 5 rfl) ?_
              refine lv_iload_n hx hb dX8_foldBit_120 rfl (lv_at hl 3 rfl) ?_
              refine lv_aload_n hx hb dX8_foldBit_121 rfl (lv_at hl 0 rfl) ?_
              refine gf_X8_9 X rfl hP 0 rfl rfl dX8_foldBit_122 ?_
              refine lv_iload hx hb dX8_foldBit_125 (lv_at hl 5 rfl) ?_
              obtain ⟨hi_15, hf⟩ := ifs hf
              refine va_lald (D := g.1) hx hb hG.1 hP 2 2 rfl rfl (ix_in hi_15) dX8_foldBit_127 ?_
              refine lv_aload_n hx hb dX8_foldBit_128 rfl (lv_at hl 0 rfl) ?_
              refine gf_X8_9 X rfl hP 0 rfl rfl dX8_foldBit_129 ?_
              refine lv_iload hx hb dX8_foldBit_132 (lv_at hl 5 rfl) ?_
              refine lv_iload hx hb dX8_foldBit_134 (lv_at hl 4 rfl) ?_
              refine lv_iadd hx hb dX8_foldBit_136 ?_
              obtain ⟨hi_16, hf⟩ := ifs hf
              refine va_lald (D := g.1) hx hb hG.1 hP 2 2 rfl rfl (ix_in hi_16) dX8_foldBit_137 ?_
              obtain ⟨r_17, hf_18, hf⟩ := obind hf
              refine gcS (rest := [.int x5_92, .ref h_work]) (wn := [oX8 h h_work h_choosers v_names v_used v_folded, aI g h_choosers 10 v_choosers, aJ g h_work 16 v_work_92]) X hP hD hS hl (c_X8_choose l g s0_19 (v_work_92 x5_92.toNatClampNeg) (v_work_92 (x5_92 + ((1 : Int32) <<< ((a1 - (6 : Int32)) &&& 31))).toNatClampNeg) r_17 hf_18) [] rfl rfl rfl [.inl 0, .inl 1, .inl 2] rfl rfl cd_X8_choose rfl st_X8_choose ml_X8_66 rfl rfl ⟨(Nat.le_of_ble_eq_true rfl), (Nat.le_of_ble_eq_true rfl)⟩ rfl (Nat.le_of_ble_eq_true rfl) dX8_foldBit_138 ⟨(Nat.le_of_ble_eq_true rfl), (Nat.le_of_ble_eq_true rfl)⟩ (fun H locs hP hD hS => ?_)
              obtain ⟨hi_19, hf⟩ := ifs hf
              refine va_last (D := g.1) hx hb hG.1 hP hD hS 2 2 rfl rfl (ix_in hi_19) dX8_foldBit_141 (fun H locs hP hD hS => ?_)
              have hP : va_P g.1 vwCl [oX8 h h_work h_choosers v_names v_used v_folded, aI g h_choosers 10 v_choosers, aJ g h_work 16 (vp_updL v_work_92 x5_92.toNatClampNeg r_17)] H := hP
              have hD : va_D A [oX8 h h_work h_choosers v_names v_used v_folded, aI g h_choosers 10 v_choosers, aJ g h_work 16 (vp_updL v_work_92 x5_92.toNatClampNeg r_17)] := hD
              refine lv_iload hx hb dX8_foldBit_142 (lv_at hl 5 rfl) ?_
              refine lv_iconst (v := 2) hx hb dX8_foldBit_144 (by decide) ?_
              refine lv_iload hx hb dX8_foldBit_145 (lv_at hl 4 rfl) ?_
              refine lv_imul hx hb dX8_foldBit_147 ?_
              refine lv_iadd hx hb dX8_foldBit_148 ?_
              refine lv_istore (lv' := [(5, .int (x5_92 + ((2 : Int32) * ((1 : Int32) <<< ((a1 - (6 : Int32)) &&& 31))))), (0, .ref h), (1, .int a1), (2, .int a2), (3, .int s0_19), (4, .int ((1 : Int32) <<< ((a1 - (6 : Int32)) &&& 31)))]) hx hb dX8_foldBit_149 hl (by decide) rfl (fun ls hl => ?_)
              refine lv_goto (tgt := 92) hx hb dX8_foldBit_151 (by decide) ?_
              exact ih_92 (x5_92 + ((2 : Int32) * ((1 : Int32) <<< ((a1 - (6 : Int32)) &&& 31)))) (vp_updL v_work_92 x5_92.toNatClampNeg r_17) H locs ls K_92 hP hD hS (lv_sub hl [1, 2, 3, 4, 5, 0] rfl) hk_92 hf
      refine L_92 _ _ _ _ _ ls _ hP hD hS (lv_sub hl [3, 4, 5, 2, 1, 0] rfl) (fun x5_92_11 v_work_92_12 H locs ls hP hD hS hl hf => ?_) hf
      cases hf
      exact ret_v X hAe hP hD hS rfl dX8_foldBit_154
    · have hf := iff_ hf c_3
      refine lv_iconst (v := 0) hx hb dX8_foldBit_26 (by decide) ?_
      refine lv_istore (lv' := [(4, .int 0), (3, .int s0_19), (0, .ref h), (1, .int a1), (2, .int a2)]) hx hb dX8_foldBit_27 hl (by decide) rfl (fun ls hl => ?_)
      have L_29 : ∀ (n : Nat) (x4_29 : Int32) (v_work_29 : Nat → Int64) (H : Heap) (locs : List Loc) (ls : Array Slot) (K_29 : Int32 → (Nat → Int64) → Option ((Nat → Int64))), va_P g.1 vwCl [oX8 h h_work h_choosers v_names v_used v_folded, aI g h_choosers 10 v_choosers, aJ g h_work 16 v_work_29] H → va_D A [oX8 h h_work h_choosers v_names v_used v_folded, aI g h_choosers 10 v_choosers, aJ g h_work 16 v_work_29] → va_S A s.heap H locs → lv_has ls 6 [(0, .ref h), (1, .int a1), (2, .int a2), (3, .int s0_19), (4, .int x4_29)] → (∀ (z_x4_29 : Int32) (z_v_work_29 : Nat → Int64) (H : Heap) (locs : List Loc) (ls : Array Slot), va_P g.1 vwCl [oX8 h h_work h_choosers v_names v_used v_folded, aI g h_choosers 10 v_choosers, aJ g h_work 16 z_v_work_29] H → va_D A [oX8 h h_work h_choosers v_names v_used v_folded, aI g h_choosers 10 v_choosers, aJ g h_work 16 z_v_work_29] → va_S A s.heap H locs → lv_has ls 6 [(0, .ref h), (1, .int a1), (2, .int a2), (3, .int s0_19), (4, .int z_x4_29)] → K_29 z_x4_29 z_v_work_29 = some u_work → W p l e ({ frames := 1, cells := 0, slots := 0, locals := 24 }) s m [.ref h, .int a1, .int a2].toArray below meth c H locs 0 0 (MQ below (fun _ => QW g [oX8 h h_work h_choosers v_names v_used v_folded, aI g h_choosers 10 v_choosers, aJ g h_work 16 v_work] s.heap.size none [oX8 h h_work h_choosers v_names v_used v_folded, aI g h_choosers 10 v_choosers, aJ g h_work 16 u_work]) [.ref h, .int a1, .int a2].toArray s 0 0 (va_A [oX8 h h_work h_choosers v_names v_used v_folded, aI g h_choosers 10 v_choosers, aJ g h_work 16 v_work] s.heap.size)) (F0 m 80 ls [])) → lp_X8_foldBit_29 a1 a2 s0_19 v_used v_choosers n x4_29 v_work_29 K_29 = some u_work → W p l e ({ frames := 1, cells := 0, slots := 0, locals := 24 }) s m [.ref h, .int a1, .int a2].toArray below meth c H locs 0 0 (MQ below (fun _ => QW g [oX8 h h_work h_choosers v_names v_used v_folded, aI g h_choosers 10 v_choosers, aJ g h_work 16 v_work] s.heap.size none [oX8 h h_work h_choosers v_names v_used v_folded, aI g h_choosers 10 v_choosers, aJ g h_work 16 u_work]) [.ref h, .int a1, .int a2].toArray s 0 0 (va_A [oX8 h h_work h_choosers v_names v_used v_folded, aI g h_choosers 10 v_choosers, aJ g h_work 16 v_work] s.heap.size)) (F0 m 29 ls []) := by
        intro n
        induction n with
        | zero =>
          intro x4_29 v_work_29 H locs ls K_29 hP hD hS hl hk hf
          have hf : (none : Option ((Nat → Int64))) = some _ := hf
          cases hf
        | succ n_29 ih_29 =>
          intro x4_29 v_work_29 H locs ls K_29 hP hD hS hl hk_29 hf
          refine lv_iload hx hb dX8_foldBit_29 (lv_at hl 4 rfl) ?_
          refine lv_aload_n hx hb dX8_foldBit_31 rfl (lv_at hl 0 rfl) ?_
          refine gf_X8_48 X rfl hP 0 rfl rfl dX8_foldBit_32 ?_
          refine lv_icmp_ge (tgt := 80) hx hb dX8_foldBit_35 (by decide) (fun c_29 => ?_) (fun c_29 => ?_)
          · have hf := ift hf c_29
            exact hk_29 x4_29 v_work_29 H locs ls hP hD hS (lv_sub hl [0, 1, 2, 3, 4] rfl) hf
          · have hf := iff_ hf c_29
            refine lv_iload hx hb dX8_foldBit_38 (lv_at hl 4 rfl) ?_
            refine lv_bipush (v := 16) hx hb dX8_foldBit_40 (by decide) ?_
            refine lv_icmp_ge (tgt := 80) hx hb dX8_foldBit_42 (by decide) (fun c_30 => ?_) (fun c_30 => ?_)
            · have hf := ift hf c_30
              exact hk_29 x4_29 v_work_29 H locs ls hP hD hS (lv_sub hl [0, 1, 2, 3, 4] rfl) hf
            · have hf := iff_ hf c_30
              refine lv_aload_n hx hb dX8_foldBit_45 rfl (lv_at hl 0 rfl) ?_
              refine gf_X8_9 X rfl hP 0 rfl rfl dX8_foldBit_46 ?_
              refine lv_iload hx hb dX8_foldBit_49 (lv_at hl 4 rfl) ?_
              refine lv_iload_n hx hb dX8_foldBit_51 rfl (lv_at hl 3 rfl) ?_
              refine lv_aload_n hx hb dX8_foldBit_52 rfl (lv_at hl 0 rfl) ?_
              refine gf_X8_9 X rfl hP 0 rfl rfl dX8_foldBit_53 ?_
              refine lv_iload hx hb dX8_foldBit_56 (lv_at hl 4 rfl) ?_
              obtain ⟨hi_31, hf⟩ := ifs hf
              refine va_lald (D := g.1) hx hb hG.1 hP 2 2 rfl rfl (ix_in hi_31) dX8_foldBit_58 ?_
              refine lv_aload_n hx hb dX8_foldBit_59 rfl (lv_at hl 0 rfl) ?_
              refine gf_X8_9 X rfl hP 0 rfl rfl dX8_foldBit_60 ?_
              refine lv_iload hx hb dX8_foldBit_63 (lv_at hl 4 rfl) ?_
              obtain ⟨hi_32, hf⟩ := ifs hf
              refine va_lald (D := g.1) hx hb hG.1 hP 2 2 rfl rfl (ix_in hi_32) dX8_foldBit_65 ?_
              refine lv_iconst (v := 1) hx hb dX8_foldBit_66 (by decide) ?_
              refine lv_iload_n hx hb dX8_foldBit_67 rfl (lv_at hl 1 rfl) ?_
              refine lv_ishl hx hb dX8_foldBit_68 ?_
              refine lv_lushr (v := jlushr (v_work_29 x4_29.toNatClampNeg) ((1 : Int32) <<< (a1 &&& 31))) hx hb dX8_foldBit_69 rfl ?_
              obtain ⟨r_33, hf_34, hf⟩ := obind hf
              refine gcS (rest := [.int x4_29, .ref h_work]) (wn := [oX8 h h_work h_choosers v_names v_used v_folded, aI g h_choosers 10 v_choosers, aJ g h_work 16 v_work_29]) X hP hD hS hl (c_X8_choose l g s0_19 (v_work_29 x4_29.toNatClampNeg) (jlushr (v_work_29 x4_29.toNatClampNeg) ((1 : Int32) <<< (a1 &&& 31))) r_33 hf_34) [] rfl rfl rfl [.inl 0, .inl 1, .inl 2] rfl rfl cd_X8_choose rfl st_X8_choose ml_X8_66 rfl rfl ⟨(Nat.le_of_ble_eq_true rfl), (Nat.le_of_ble_eq_true rfl)⟩ rfl (Nat.le_of_ble_eq_true rfl) dX8_foldBit_70 ⟨(Nat.le_of_ble_eq_true rfl), (Nat.le_of_ble_eq_true rfl)⟩ (fun H locs hP hD hS => ?_)
              obtain ⟨hi_35, hf⟩ := ifs hf
              refine va_last (D := g.1) hx hb hG.1 hP hD hS 2 2 rfl rfl (ix_in hi_35) dX8_foldBit_73 (fun H locs hP hD hS => ?_)
              have hP : va_P g.1 vwCl [oX8 h h_work h_choosers v_names v_used v_folded, aI g h_choosers 10 v_choosers, aJ g h_work 16 (vp_updL v_work_29 x4_29.toNatClampNeg r_33)] H := hP
              have hD : va_D A [oX8 h h_work h_choosers v_names v_used v_folded, aI g h_choosers 10 v_choosers, aJ g h_work 16 (vp_updL v_work_29 x4_29.toNatClampNeg r_33)] := hD
              refine lv_iinc (v := x4_29 + 1) (lv' := [(4, .int (x4_29 + 1)), (0, .ref h), (1, .int a1), (2, .int a2), (3, .int s0_19)]) hx hb dX8_foldBit_74 hl (k := 4) rfl rfl (by decide) rfl (fun ls hl => ?_)
              refine lv_goto (tgt := 29) hx hb dX8_foldBit_77 (by decide) ?_
              exact ih_29 (x4_29 + 1) (vp_updL v_work_29 x4_29.toNatClampNeg r_33) H locs ls K_29 hP hD hS (lv_sub hl [1, 2, 3, 4, 0] rfl) hk_29 hf
      refine L_29 _ _ _ _ _ ls _ hP hD hS (lv_sub hl [2, 3, 4, 1, 0] rfl) (fun x4_29_27 v_work_29_28 H locs ls hP hD hS hl hf => ?_) hf
      cases hf
      exact ret_v X hAe hP hD hS rfl dX8_foldBit_80
  refine lv_if_eq (tgt := 18) hx hb dX8_foldBit_6 (by decide) (fun c_36 => ?_) (fun c_36 => ?_)
  · have hf := ift hf c_36
    refine lv_iconst (v := 0) hx hb dX8_foldBit_18 (by decide) ?_
    exact J_19 0 _ _ ls hP hD hS (lv_sub hl [0, 1, 2] rfl) hf
  · have hf := iff_ hf c_36
    refine lv_aload_n hx hb dX8_foldBit_9 rfl (lv_at hl 0 rfl) ?_
    refine gf_X8_15 X rfl hP 0 rfl rfl dX8_foldBit_10 ?_
    refine lv_iload_n hx hb dX8_foldBit_13 rfl (lv_at hl 2 rfl) ?_
    obtain ⟨hi_37, hf⟩ := ifs hf
    refine va_iald (D := g.1) hx hb hG.1 hP 1 1 rfl rfl (ix_in hi_37) dX8_foldBit_14 ?_
    refine lv_goto (tgt := 19) hx hb dX8_foldBit_15 (by decide) ?_
    exact J_19 (v_choosers a2.toNatClampNeg) _ _ ls hP hD hS (lv_sub hl [0, 1, 2] rfl) hf
def lp_X8_fold_21 (y2_21 : Int32) (y3_21 : Int32) (y4_21 : Int32) (v_names_21f : Int32) (v_used_21f : Int32) (v_folded_21f : Int32) (v_p1_words_21f : Nat → Int64) (v_choosers_21f : Nat → Int32) : Nat → Int32 → (Nat → Int64) → (Int32 → (Nat → Int64) → Option (Int32 × Int32 × (Nat → Int64))) → Option (Int32 × Int32 × (Nat → Int64))
  | 0, _, _, _ => none
  | n_21 + 1, x5_21, v_work_21, K_21 =>
    if v_folded_21f ≤ x5_21 then
    K_21 x5_21 v_work_21
    else
    ((f_X8_foldBit v_used_21f v_choosers_21f v_work_21 x5_21 ((v_names_21f - (1 : Int32)) - x5_21)).bind fun v_work_5 =>
    lp_X8_fold_21 y2_21 y3_21 y4_21 v_names_21f v_used_21f v_folded_21f v_p1_words_21f v_choosers_21f n_21 (x5_21 + 1) v_work_5 K_21)
def f_X8_fold (v_names : Int32) (v_used : Int32) (v_folded : Int32) (v_p1_words : Nat → Int64) (v_work : Nat → Int64) (v_choosers : Nat → Int32) (a2 : Int32) (a3 : Int32) (a4 : Int32) : Option (Int32 × Int32 × (Nat → Int64)) :=
  (f_X8_load v_names v_used v_p1_words v_work a2 a3).bind fun (v_used_1, v_work_2) =>
  lp_X8_fold_21 a2 a3 a4 v_names v_used_1 (v_names - a4) v_p1_words v_choosers 5000 0 v_work_2 (fun x5_21_7 v_work_21_8 => 
  some (v_used_1, v_names - a4, v_work_21_8))
set_option maxHeartbeats 4000000 in
set_option maxRecDepth 100000 in
theorem c_X8_fold (l : Launch) (g : GT) (h : Nat) (h_work : Nat) (h_choosers : Nat) (v_names : Int32) (v_used : Int32) (v_folded : Int32) (h_p1 : Nat) (h_p1_words : Nat) (h_p1_stack : Nat) (v_p1_depth : Int32) (v_p1_words : Nat → Int64) (v_work : Nat → Int64) (v_choosers : Nat → Int32) (a2 : Int32) (a3 : Int32) (a4 : Int32) (u_used : Int32) (u_folded : Int32) (u_work : Nat → Int64) (hf : f_X8_fold v_names v_used v_folded v_p1_words v_work v_choosers a2 a3 a4 = some (u_used, u_folded, u_work)) : Con l g yX8_fold cX8_fold 6 none ({ frames := 3, cells := 0, slots := 0, locals := 68 }) [.ref h, .ref h_p1, .int a2, .int a3, .int a4] [oX8 h h_work h_choosers v_names v_used v_folded, oX9 h_p1 h_p1_words h_p1_stack v_p1_depth, aJ g h_p1_words 16 v_p1_words, aJ g h_work 16 v_work, aI g h_choosers 10 v_choosers] none [oX8 h h_work h_choosers v_names u_used u_folded, oX9 h_p1 h_p1_words h_p1_stack v_p1_depth, aJ g h_p1_words 16 v_p1_words, aJ g h_work 16 u_work, aI g h_choosers 10 v_choosers] := by
  refine Con.of (by decide) (Nat.le_of_ble_eq_true rfl) ?_
  intro p e s m below meth c A ls hAe X hP hD hS hl
  obtain ⟨hx, hb, hml, hr, hown, hts, hlk, hnm, hA, hG, hZ⟩ := id X
  have hown : s.vm.findClass RX8 = some m.cls := hown
  have hl : lv_has ls 6 [(0, .ref h), (1, .ref h_p1), (2, .int a2), (3, .int a3), (4, .int a4)] := hl
  unfold f_X8_fold at hf
  refine lv_aload_n hx hb dX8_fold_0 rfl (lv_at hl 0 rfl) ?_
  refine lv_aload_n hx hb dX8_fold_1 rfl (lv_at hl 1 rfl) ?_
  refine lv_iload_n hx hb dX8_fold_2 rfl (lv_at hl 2 rfl) ?_
  refine lv_iload_n hx hb dX8_fold_3 rfl (lv_at hl 3 rfl) ?_
  obtain ⟨⟨v_used_1, v_work_2⟩, hf_3, hf⟩ := obind hf
  refine gcV (rest := []) (wn := [oX8 h h_work h_choosers v_names v_used_1 v_folded, oX9 h_p1 h_p1_words h_p1_stack v_p1_depth, aJ g h_p1_words 16 v_p1_words, aJ g h_work 16 v_work_2, aI g h_choosers 10 v_choosers]) X hP hD hS hl (c_X8_load l g h h_work h_choosers v_names v_used v_folded h_p1 h_p1_words h_p1_stack v_p1_depth v_p1_words v_work a2 a3 v_used_1 v_work_2 hf_3) [0, 1, 2, 3] rfl rfl rfl [.inr 0, .inr 1, .inr 2, .inr 3, .inl 4] rfl rfl cd_X8_load rfl im_X8_load se_X8_load ml_X8_37 0 rfl rfl rfl rfl rfl ⟨(Nat.le_of_ble_eq_true rfl), (Nat.le_of_ble_eq_true rfl)⟩ rfl (Nat.le_of_ble_eq_true rfl) dX8_fold_4 ⟨(Nat.le_of_ble_eq_true rfl), (Nat.le_of_ble_eq_true rfl)⟩ (fun H locs hP hD hS => ?_)
  refine lv_aload_n hx hb dX8_fold_7 rfl (lv_at hl 0 rfl) ?_
  refine lv_aload_n hx hb dX8_fold_8 rfl (lv_at hl 0 rfl) ?_
  refine gf_X8_25 X rfl hP 0 rfl rfl dX8_fold_9 ?_
  refine lv_iload hx hb dX8_fold_12 (lv_at hl 4 rfl) ?_
  refine lv_isub hx hb dX8_fold_14 ?_
  refine pf_X8_41 X rfl hP hD hS 0 rfl (Nat.le_of_ble_eq_true rfl) dX8_fold_15 (fun H locs hP hD hS => ?_)
  have hP : va_P g.1 vwCl [oX8 h h_work h_choosers v_names v_used_1 (v_names - a4), oX9 h_p1 h_p1_words h_p1_stack v_p1_depth, aJ g h_p1_words 16 v_p1_words, aJ g h_work 16 v_work_2, aI g h_choosers 10 v_choosers] H := hP
  have hD : va_D A [oX8 h h_work h_choosers v_names v_used_1 (v_names - a4), oX9 h_p1 h_p1_words h_p1_stack v_p1_depth, aJ g h_p1_words 16 v_p1_words, aJ g h_work 16 v_work_2, aI g h_choosers 10 v_choosers] := hD
  refine lv_iconst (v := 0) hx hb dX8_fold_18 (by decide) ?_
  refine lv_istore (lv' := [(5, .int 0), (0, .ref h), (1, .ref h_p1), (2, .int a2), (3, .int a3), (4, .int a4)]) hx hb dX8_fold_19 hl (by decide) rfl (fun ls hl => ?_)
  have L_21 : ∀ (n : Nat) (x5_21 : Int32) (v_work_21 : Nat → Int64) (H : Heap) (locs : List Loc) (ls : Array Slot) (K_21 : Int32 → (Nat → Int64) → Option (Int32 × Int32 × (Nat → Int64))), va_P g.1 vwCl [oX8 h h_work h_choosers v_names v_used_1 (v_names - a4), oX9 h_p1 h_p1_words h_p1_stack v_p1_depth, aJ g h_p1_words 16 v_p1_words, aJ g h_work 16 v_work_21, aI g h_choosers 10 v_choosers] H → va_D A [oX8 h h_work h_choosers v_names v_used_1 (v_names - a4), oX9 h_p1 h_p1_words h_p1_stack v_p1_depth, aJ g h_p1_words 16 v_p1_words, aJ g h_work 16 v_work_21, aI g h_choosers 10 v_choosers] → va_S A s.heap H locs → lv_has ls 6 [(0, .ref h), (1, .ref h_p1), (2, .int a2), (3, .int a3), (4, .int a4), (5, .int x5_21)] → (∀ (z_x5_21 : Int32) (z_v_work_21 : Nat → Int64) (H : Heap) (locs : List Loc) (ls : Array Slot), va_P g.1 vwCl [oX8 h h_work h_choosers v_names v_used_1 (v_names - a4), oX9 h_p1 h_p1_words h_p1_stack v_p1_depth, aJ g h_p1_words 16 v_p1_words, aJ g h_work 16 z_v_work_21, aI g h_choosers 10 v_choosers] H → va_D A [oX8 h h_work h_choosers v_names v_used_1 (v_names - a4), oX9 h_p1 h_p1_words h_p1_stack v_p1_depth, aJ g h_p1_words 16 v_p1_words, aJ g h_work 16 z_v_work_21, aI g h_choosers 10 v_choosers] → va_S A s.heap H locs → lv_has ls 6 [(0, .ref h), (1, .ref h_p1), (2, .int a2), (3, .int a3), (4, .int a4), (5, .int z_x5_21)] → K_21 z_x5_21 z_v_work_21 = some (u_used, u_folded, u_work) → W p l e ({ frames := 3, cells := 0, slots := 0, locals := 68 }) s m [.ref h, .ref h_p1, .int a2, .int a3, .int a4].toArray below meth c H locs 0 0 (MQ below (fun _ => QW g [oX8 h h_work h_choosers v_names v_used v_folded, oX9 h_p1 h_p1_words h_p1_stack v_p1_depth, aJ g h_p1_words 16 v_p1_words, aJ g h_work 16 v_work, aI g h_choosers 10 v_choosers] s.heap.size none [oX8 h h_work h_choosers v_names u_used u_folded, oX9 h_p1 h_p1_words h_p1_stack v_p1_depth, aJ g h_p1_words 16 v_p1_words, aJ g h_work 16 u_work, aI g h_choosers 10 v_choosers]) [.ref h, .ref h_p1, .int a2, .int a3, .int a4].toArray s 0 0 (va_A [oX8 h h_work h_choosers v_names v_used v_folded, oX9 h_p1 h_p1_words h_p1_stack v_p1_depth, aJ g h_p1_words 16 v_p1_words, aJ g h_work 16 v_work, aI g h_choosers 10 v_choosers] s.heap.size)) (F0 m 51 ls [])) → lp_X8_fold_21 a2 a3 a4 v_names v_used_1 (v_names - a4) v_p1_words v_choosers n x5_21 v_work_21 K_21 = some (u_used, u_folded, u_work) → W p l e ({ frames := 3, cells := 0, slots := 0, locals := 68 }) s m [.ref h, .ref h_p1, .int a2, .int a3, .int a4].toArray below meth c H locs 0 0 (MQ below (fun _ => QW g [oX8 h h_work h_choosers v_names v_used v_folded, oX9 h_p1 h_p1_words h_p1_stack v_p1_depth, aJ g h_p1_words 16 v_p1_words, aJ g h_work 16 v_work, aI g h_choosers 10 v_choosers] s.heap.size none [oX8 h h_work h_choosers v_names u_used u_folded, oX9 h_p1 h_p1_words h_p1_stack v_p1_depth, aJ g h_p1_words 16 v_p1_words, aJ g h_work 16 u_work, aI g h_choosers 10 v_choosers]) [.ref h, .ref h_p1, .int a2, .int a3, .int a4].toArray s 0 0 (va_A [oX8 h h_work h_choosers v_names v_used v_folded, oX9 h_p1 h_p1_words h_p1_stack v_p1_depth, aJ g h_p1_words 16 v_p1_words, aJ g h_work 16 v_work, aI g h_choosers 10 v_choosers] s.heap.size)) (F0 m 21 ls []) := by
    intro n
    induction n with
    | zero =>
      intro x5_21 v_work_21 H locs ls K_21 hP hD hS hl hk hf
      have hf : (none : Option (Int32 × Int32 × (Nat → Int64))) = some _ := hf
      cases hf
    | succ n_21 ih_21 =>
      intro x5_21 v_work_21 H locs ls K_21 hP hD hS hl hk_21 hf
      refine lv_iload hx hb dX8_fold_21 (lv_at hl 5 rfl) ?_
      refine lv_aload_n hx hb dX8_fold_23 rfl (lv_at hl 0 rfl) ?_
      refine gf_X8_41 X rfl hP 0 rfl rfl dX8_fold_24 ?_
      refine lv_icmp_ge (tgt := 51) hx hb dX8_fold_27 (by decide) (fun c_9 => ?_) (fun c_9 => ?_)
      · have hf := ift hf c_9
        exact hk_21 x5_21 v_work_21 H locs ls hP hD hS (lv_sub hl [0, 1, 2, 3, 4, 5] rfl) hf
      · have hf := iff_ hf c_9
        refine lv_aload_n hx hb dX8_fold_30 rfl (lv_at hl 0 rfl) ?_
        refine lv_iload hx hb dX8_fold_31 (lv_at hl 5 rfl) ?_
        refine lv_aload_n hx hb dX8_fold_33 rfl (lv_at hl 0 rfl) ?_
        refine gf_X8_25 X rfl hP 0 rfl rfl dX8_fold_34 ?_
        refine lv_iconst (v := 1) hx hb dX8_fold_37 (by decide) ?_
        refine lv_isub hx hb dX8_fold_38 ?_
        refine lv_iload hx hb dX8_fold_39 (lv_at hl 5 rfl) ?_
        refine lv_isub hx hb dX8_fold_41 ?_
        obtain ⟨v_work_10, hf_11, hf⟩ := obind hf
        refine gcV (rest := []) (wn := [oX8 h h_work h_choosers v_names v_used_1 (v_names - a4), oX9 h_p1 h_p1_words h_p1_stack v_p1_depth, aJ g h_p1_words 16 v_p1_words, aJ g h_work 16 v_work_10, aI g h_choosers 10 v_choosers]) X hP hD hS hl (c_X8_foldBit l g h h_work h_choosers v_names v_used_1 (v_names - a4) v_choosers v_work_21 x5_21 ((v_names - (1 : Int32)) - x5_21) v_work_10 hf_11) [0, 4, 3] rfl rfl rfl [.inr 0, .inl 1, .inl 2, .inr 2, .inr 1] rfl rfl cd_X8_foldBit rfl im_X8_foldBit se_X8_foldBit ml_X8_44 0 rfl rfl rfl rfl rfl ⟨(Nat.le_of_ble_eq_true rfl), (Nat.le_of_ble_eq_true rfl)⟩ rfl (Nat.le_of_ble_eq_true rfl) dX8_fold_42 ⟨(Nat.le_of_ble_eq_true rfl), (Nat.le_of_ble_eq_true rfl)⟩ (fun H locs hP hD hS => ?_)
        refine lv_iinc (v := x5_21 + 1) (lv' := [(5, .int (x5_21 + 1)), (0, .ref h), (1, .ref h_p1), (2, .int a2), (3, .int a3), (4, .int a4)]) hx hb dX8_fold_45 hl (k := 5) rfl rfl (by decide) rfl (fun ls hl => ?_)
        refine lv_goto (tgt := 21) hx hb dX8_fold_48 (by decide) ?_
        exact ih_21 (x5_21 + 1) v_work_10 H locs ls K_21 hP hD hS (lv_sub hl [1, 2, 3, 4, 5, 0] rfl) hk_21 hf
  refine L_21 _ _ _ _ _ ls _ hP hD hS (lv_sub hl [1, 2, 3, 4, 5, 0] rfl) (fun x5_21_7 v_work_21_8 H locs ls hP hD hS hl hf => ?_) hf
  cases hf
  exact ret_v X hAe hP hD hS rfl dX8_fold_51
def f_X8_outcome (v_folded : Int32) (v_work : Nat → Int64) (a1 : Int32) : Option (Int32) :=
  (f_X11_within ((a1 <<< (v_folded &&& 31)) >>> ((6 : Int32) &&& 31)) 16).bind fun r_1 =>
  if b2i r_1 = 0 then
  some 0
  else
  (if ix ((a1 <<< (v_folded &&& 31)) >>> ((6 : Int32) &&& 31)) 16 then
  some (((jlushr (v_work ((a1 <<< (v_folded &&& 31)) >>> ((6 : Int32) &&& 31)).toNatClampNeg) ((a1 <<< (v_folded &&& 31)) &&& (63 : Int32))) &&& (1 : Int64)).toInt32)
  else none)
set_option maxHeartbeats 4000000 in
set_option maxRecDepth 100000 in
theorem c_X8_outcome (l : Launch) (g : GT) (h : Nat) (h_work : Nat) (h_choosers : Nat) (v_names : Int32) (v_used : Int32) (v_folded : Int32) (v_work : Nat → Int64) (a1 : Int32) (r_ : Int32) (hf : f_X8_outcome v_folded v_work a1 = some r_) : Con l g yX8_outcome cX8_outcome 4 (some .int) ({ frames := 1, cells := 0, slots := 0, locals := 21 }) [.ref h, .int a1] [oX8 h h_work h_choosers v_names v_used v_folded, aJ g h_work 16 v_work] (some (.int r_)) [oX8 h h_work h_choosers v_names v_used v_folded, aJ g h_work 16 v_work] := by
  refine Con.of (by decide) (Nat.le_of_ble_eq_true rfl) ?_
  intro p e s m below meth c A ls hAe X hP hD hS hl
  obtain ⟨hx, hb, hml, hr, hown, hts, hlk, hnm, hA, hG, hZ⟩ := id X
  have hown : s.vm.findClass RX8 = some m.cls := hown
  have hl : lv_has ls 4 [(0, .ref h), (1, .int a1)] := hl
  unfold f_X8_outcome at hf
  refine lv_iload_n hx hb dX8_outcome_0 rfl (lv_at hl 1 rfl) ?_
  refine lv_aload_n hx hb dX8_outcome_1 rfl (lv_at hl 0 rfl) ?_
  refine gf_X8_41 X rfl hP 0 rfl rfl dX8_outcome_2 ?_
  refine lv_ishl hx hb dX8_outcome_5 ?_
  refine lv_istore_n (lv' := [(2, .int (a1 <<< (v_folded &&& 31))), (0, .ref h), (1, .int a1)]) hx hb dX8_outcome_6 rfl hl (by decide) rfl (fun ls hl => ?_)
  refine lv_iload_n hx hb dX8_outcome_7 rfl (lv_at hl 0 rfl) ?_
  refine lv_bipush (v := 6) hx hb dX8_outcome_8 (by decide) ?_
  refine lv_ishr hx hb dX8_outcome_10 ?_
  refine lv_istore_n (lv' := [(3, .int ((a1 <<< (v_folded &&& 31)) >>> ((6 : Int32) &&& 31))), (2, .int (a1 <<< (v_folded &&& 31))), (0, .ref h), (1, .int a1)]) hx hb dX8_outcome_11 rfl hl (by decide) rfl (fun ls hl => ?_)
  refine lv_iload_n hx hb dX8_outcome_12 rfl (lv_at hl 0 rfl) ?_
  refine lv_bipush (v := 16) hx hb dX8_outcome_13 (by decide) ?_
  obtain ⟨r_1, hf_2, hf⟩ := obind hf
  refine gcSN (rest := []) (wn := [oX8 h h_work h_choosers v_names v_used v_folded, aJ g h_work 16 v_work]) X hP hD hS hl (c_X11_within l g ((a1 <<< (v_folded &&& 31)) >>> ((6 : Int32) &&& 31)) 16 r_1 hf_2) [] rfl rfl rfl [.inl 0, .inl 1] rfl rfl cd_X11_within rfl st_X11_within ml_X8_33 rfl rfl ⟨(Nat.le_of_ble_eq_true rfl), (Nat.le_of_ble_eq_true rfl)⟩ rfl (Nat.le_of_ble_eq_true rfl) dX8_outcome_15 ⟨(Nat.le_of_ble_eq_true rfl), (Nat.le_of_ble_eq_true rfl)⟩ (fun H locs hP hD hS => ?_)
  refine lv_if_eq (tgt := 38) hx hb dX8_outcome_18 (by decide) (fun c_3 => ?_) (fun c_3 => ?_)
  · have hf := ift hf c_3
    refine lv_iconst (v := 0) hx hb dX8_outcome_38 (by decide) ?_
    cases hf
    exact ret_i X hAe hP hD hS rfl dX8_outcome_39
  · have hf := iff_ hf c_3
    refine lv_aload_n hx hb dX8_outcome_21 rfl (lv_at hl 2 rfl) ?_
    refine gf_X8_9 X rfl hP 0 rfl rfl dX8_outcome_22 ?_
    refine lv_iload_n hx hb dX8_outcome_25 rfl (lv_at hl 0 rfl) ?_
    obtain ⟨hi_4, hf⟩ := ifs hf
    refine va_lald (D := g.1) hx hb hG.1 hP 1 2 rfl rfl (ix_in hi_4) dX8_outcome_26 ?_
    refine lv_iload_n hx hb dX8_outcome_27 rfl (lv_at hl 1 rfl) ?_
    refine lv_bipush (v := 63) hx hb dX8_outcome_28 (by decide) ?_
    refine lv_iand hx hb dX8_outcome_30 ?_
    refine lv_lushr (v := jlushr (v_work ((a1 <<< (v_folded &&& 31)) >>> ((6 : Int32) &&& 31)).toNatClampNeg) ((a1 <<< (v_folded &&& 31)) &&& (63 : Int32))) hx hb dX8_outcome_31 rfl ?_
    refine lv_lconst (v := 1) hx hb dX8_outcome_32 (by decide) ?_
    refine lv_land hx hb dX8_outcome_33 ?_
    refine lv_l2i (v := ((jlushr (v_work ((a1 <<< (v_folded &&& 31)) >>> ((6 : Int32) &&& 31)).toNatClampNeg) ((a1 <<< (v_folded &&& 31)) &&& (63 : Int32))) &&& (1 : Int64)).toInt32) hx hb dX8_outcome_34 rfl ?_
    refine lv_goto (tgt := 39) hx hb dX8_outcome_35 (by decide) ?_
    cases hf
    exact ret_i X hAe hP hD hS rfl dX8_outcome_39
def f_J13_bitCount_95d88 (a1 : Int64) : Option (Int32) :=
  some ((((((((((a1 - ((jlushr a1 1) &&& (6148914691236517205 : Int64))) &&& (3689348814741910323 : Int64)) + ((jlushr (a1 - ((jlushr a1 1) &&& (6148914691236517205 : Int64))) 2) &&& (3689348814741910323 : Int64))) + (jlushr (((a1 - ((jlushr a1 1) &&& (6148914691236517205 : Int64))) &&& (3689348814741910323 : Int64)) + ((jlushr (a1 - ((jlushr a1 1) &&& (6148914691236517205 : Int64))) 2) &&& (3689348814741910323 : Int64))) 4)) &&& (1085102592571150095 : Int64)) + (jlushr (((((a1 - ((jlushr a1 1) &&& (6148914691236517205 : Int64))) &&& (3689348814741910323 : Int64)) + ((jlushr (a1 - ((jlushr a1 1) &&& (6148914691236517205 : Int64))) 2) &&& (3689348814741910323 : Int64))) + (jlushr (((a1 - ((jlushr a1 1) &&& (6148914691236517205 : Int64))) &&& (3689348814741910323 : Int64)) + ((jlushr (a1 - ((jlushr a1 1) &&& (6148914691236517205 : Int64))) 2) &&& (3689348814741910323 : Int64))) 4)) &&& (1085102592571150095 : Int64)) 8)) + (jlushr ((((((a1 - ((jlushr a1 1) &&& (6148914691236517205 : Int64))) &&& (3689348814741910323 : Int64)) + ((jlushr (a1 - ((jlushr a1 1) &&& (6148914691236517205 : Int64))) 2) &&& (3689348814741910323 : Int64))) + (jlushr (((a1 - ((jlushr a1 1) &&& (6148914691236517205 : Int64))) &&& (3689348814741910323 : Int64)) + ((jlushr (a1 - ((jlushr a1 1) &&& (6148914691236517205 : Int64))) 2) &&& (3689348814741910323 : Int64))) 4)) &&& (1085102592571150095 : Int64)) + (jlushr (((((a1 - ((jlushr a1 1) &&& (6148914691236517205 : Int64))) &&& (3689348814741910323 : Int64)) + ((jlushr (a1 - ((jlushr a1 1) &&& (6148914691236517205 : Int64))) 2) &&& (3689348814741910323 : Int64))) + (jlushr (((a1 - ((jlushr a1 1) &&& (6148914691236517205 : Int64))) &&& (3689348814741910323 : Int64)) + ((jlushr (a1 - ((jlushr a1 1) &&& (6148914691236517205 : Int64))) 2) &&& (3689348814741910323 : Int64))) 4)) &&& (1085102592571150095 : Int64)) 8)) 16)) + (jlushr (((((((a1 - ((jlushr a1 1) &&& (6148914691236517205 : Int64))) &&& (3689348814741910323 : Int64)) + ((jlushr (a1 - ((jlushr a1 1) &&& (6148914691236517205 : Int64))) 2) &&& (3689348814741910323 : Int64))) + (jlushr (((a1 - ((jlushr a1 1) &&& (6148914691236517205 : Int64))) &&& (3689348814741910323 : Int64)) + ((jlushr (a1 - ((jlushr a1 1) &&& (6148914691236517205 : Int64))) 2) &&& (3689348814741910323 : Int64))) 4)) &&& (1085102592571150095 : Int64)) + (jlushr (((((a1 - ((jlushr a1 1) &&& (6148914691236517205 : Int64))) &&& (3689348814741910323 : Int64)) + ((jlushr (a1 - ((jlushr a1 1) &&& (6148914691236517205 : Int64))) 2) &&& (3689348814741910323 : Int64))) + (jlushr (((a1 - ((jlushr a1 1) &&& (6148914691236517205 : Int64))) &&& (3689348814741910323 : Int64)) + ((jlushr (a1 - ((jlushr a1 1) &&& (6148914691236517205 : Int64))) 2) &&& (3689348814741910323 : Int64))) 4)) &&& (1085102592571150095 : Int64)) 8)) + (jlushr ((((((a1 - ((jlushr a1 1) &&& (6148914691236517205 : Int64))) &&& (3689348814741910323 : Int64)) + ((jlushr (a1 - ((jlushr a1 1) &&& (6148914691236517205 : Int64))) 2) &&& (3689348814741910323 : Int64))) + (jlushr (((a1 - ((jlushr a1 1) &&& (6148914691236517205 : Int64))) &&& (3689348814741910323 : Int64)) + ((jlushr (a1 - ((jlushr a1 1) &&& (6148914691236517205 : Int64))) 2) &&& (3689348814741910323 : Int64))) 4)) &&& (1085102592571150095 : Int64)) + (jlushr (((((a1 - ((jlushr a1 1) &&& (6148914691236517205 : Int64))) &&& (3689348814741910323 : Int64)) + ((jlushr (a1 - ((jlushr a1 1) &&& (6148914691236517205 : Int64))) 2) &&& (3689348814741910323 : Int64))) + (jlushr (((a1 - ((jlushr a1 1) &&& (6148914691236517205 : Int64))) &&& (3689348814741910323 : Int64)) + ((jlushr (a1 - ((jlushr a1 1) &&& (6148914691236517205 : Int64))) 2) &&& (3689348814741910323 : Int64))) 4)) &&& (1085102592571150095 : Int64)) 8)) 16)) 32)).toInt32) &&& (127 : Int32))
set_option maxHeartbeats 4000000 in
set_option maxRecDepth 100000 in
theorem c_J13_bitCount_95d88 (l : Launch) (g : GT) (a1 : Int64) (r_ : Int32) (hf : f_J13_bitCount_95d88 a1 = some r_) : Con l g yJ13_bitCount_95d88 cJ13_bitCount_95d88 2 (some .int) ({ frames := 0, cells := 0, slots := 0, locals := 0 }) [.long a1] [] (some (.int r_)) [] := by
  refine Con.of (by decide) (Nat.le_of_ble_eq_true rfl) ?_
  intro p e s m below meth c A ls hAe X hP hD hS hl
  obtain ⟨hx, hb, hml, hr, hown, hts, hlk, hnm, hA, hG, hZ⟩ := id X
  have hown : s.vm.findClass RJ13 = some m.cls := hown
  have hl : lv_has ls 2 [(0, .long a1)] := hl
  unfold f_J13_bitCount_95d88 at hf
  refine lv_lload_n hx hb dJ13_bitCount_95d88_0 rfl (lv_at hl 0 rfl) ?_
  refine lv_lload_n hx hb dJ13_bitCount_95d88_1 rfl (lv_at hl 0 rfl) ?_
  refine lv_iconst (v := 1) hx hb dJ13_bitCount_95d88_2 (by decide) ?_
  refine lv_lushr (v := jlushr a1 1) hx hb dJ13_bitCount_95d88_3 rfl ?_
  refine lv_ldc2 hx hb hown (hts _ kl_J13_314) dJ13_bitCount_95d88_4 ?_
  refine lv_land hx hb dJ13_bitCount_95d88_7 ?_
  refine lv_lsub hx hb dJ13_bitCount_95d88_8 ?_
  refine lv_lstore_n (lv' := [(0, .long (a1 - ((jlushr a1 1) &&& (6148914691236517205 : Int64))))]) hx hb dJ13_bitCount_95d88_9 rfl hl (by decide) rfl (fun ls hl => ?_)
  refine lv_lload_n hx hb dJ13_bitCount_95d88_10 rfl (lv_at hl 0 rfl) ?_
  refine lv_ldc2 hx hb hown (hts _ kl_J13_316) dJ13_bitCount_95d88_11 ?_
  refine lv_land hx hb dJ13_bitCount_95d88_14 ?_
  refine lv_lload_n hx hb dJ13_bitCount_95d88_15 rfl (lv_at hl 0 rfl) ?_
  refine lv_iconst (v := 2) hx hb dJ13_bitCount_95d88_16 (by decide) ?_
  refine lv_lushr (v := jlushr (a1 - ((jlushr a1 1) &&& (6148914691236517205 : Int64))) 2) hx hb dJ13_bitCount_95d88_17 rfl ?_
  refine lv_ldc2 hx hb hown (hts _ kl_J13_316) dJ13_bitCount_95d88_18 ?_
  refine lv_land hx hb dJ13_bitCount_95d88_21 ?_
  refine lv_ladd hx hb dJ13_bitCount_95d88_22 ?_
  refine lv_lstore_n (lv' := [(0, .long (((a1 - ((jlushr a1 1) &&& (6148914691236517205 : Int64))) &&& (3689348814741910323 : Int64)) + ((jlushr (a1 - ((jlushr a1 1) &&& (6148914691236517205 : Int64))) 2) &&& (3689348814741910323 : Int64))))]) hx hb dJ13_bitCount_95d88_23 rfl hl (by decide) rfl (fun ls hl => ?_)
  refine lv_lload_n hx hb dJ13_bitCount_95d88_24 rfl (lv_at hl 0 rfl) ?_
  refine lv_lload_n hx hb dJ13_bitCount_95d88_25 rfl (lv_at hl 0 rfl) ?_
  refine lv_iconst (v := 4) hx hb dJ13_bitCount_95d88_26 (by decide) ?_
  refine lv_lushr (v := jlushr (((a1 - ((jlushr a1 1) &&& (6148914691236517205 : Int64))) &&& (3689348814741910323 : Int64)) + ((jlushr (a1 - ((jlushr a1 1) &&& (6148914691236517205 : Int64))) 2) &&& (3689348814741910323 : Int64))) 4) hx hb dJ13_bitCount_95d88_27 rfl ?_
  refine lv_ladd hx hb dJ13_bitCount_95d88_28 ?_
  refine lv_ldc2 hx hb hown (hts _ kl_J13_318) dJ13_bitCount_95d88_29 ?_
  refine lv_land hx hb dJ13_bitCount_95d88_32 ?_
  refine lv_lstore_n (lv' := [(0, .long (((((a1 - ((jlushr a1 1) &&& (6148914691236517205 : Int64))) &&& (3689348814741910323 : Int64)) + ((jlushr (a1 - ((jlushr a1 1) &&& (6148914691236517205 : Int64))) 2) &&& (3689348814741910323 : Int64))) + (jlushr (((a1 - ((jlushr a1 1) &&& (6148914691236517205 : Int64))) &&& (3689348814741910323 : Int64)) + ((jlushr (a1 - ((jlushr a1 1) &&& (6148914691236517205 : Int64))) 2) &&& (3689348814741910323 : Int64))) 4)) &&& (1085102592571150095 : Int64)))]) hx hb dJ13_bitCount_95d88_33 rfl hl (by decide) rfl (fun ls hl => ?_)
  refine lv_lload_n hx hb dJ13_bitCount_95d88_34 rfl (lv_at hl 0 rfl) ?_
  refine lv_lload_n hx hb dJ13_bitCount_95d88_35 rfl (lv_at hl 0 rfl) ?_
  refine lv_bipush (v := 8) hx hb dJ13_bitCount_95d88_36 (by decide) ?_
  refine lv_lushr (v := jlushr (((((a1 - ((jlushr a1 1) &&& (6148914691236517205 : Int64))) &&& (3689348814741910323 : Int64)) + ((jlushr (a1 - ((jlushr a1 1) &&& (6148914691236517205 : Int64))) 2) &&& (3689348814741910323 : Int64))) + (jlushr (((a1 - ((jlushr a1 1) &&& (6148914691236517205 : Int64))) &&& (3689348814741910323 : Int64)) + ((jlushr (a1 - ((jlushr a1 1) &&& (6148914691236517205 : Int64))) 2) &&& (3689348814741910323 : Int64))) 4)) &&& (1085102592571150095 : Int64)) 8) hx hb dJ13_bitCount_95d88_38 rfl ?_
  refine lv_ladd hx hb dJ13_bitCount_95d88_39 ?_
  refine lv_lstore_n (lv' := [(0, .long ((((((a1 - ((jlushr a1 1) &&& (6148914691236517205 : Int64))) &&& (3689348814741910323 : Int64)) + ((jlushr (a1 - ((jlushr a1 1) &&& (6148914691236517205 : Int64))) 2) &&& (3689348814741910323 : Int64))) + (jlushr (((a1 - ((jlushr a1 1) &&& (6148914691236517205 : Int64))) &&& (3689348814741910323 : Int64)) + ((jlushr (a1 - ((jlushr a1 1) &&& (6148914691236517205 : Int64))) 2) &&& (3689348814741910323 : Int64))) 4)) &&& (1085102592571150095 : Int64)) + (jlushr (((((a1 - ((jlushr a1 1) &&& (6148914691236517205 : Int64))) &&& (3689348814741910323 : Int64)) + ((jlushr (a1 - ((jlushr a1 1) &&& (6148914691236517205 : Int64))) 2) &&& (3689348814741910323 : Int64))) + (jlushr (((a1 - ((jlushr a1 1) &&& (6148914691236517205 : Int64))) &&& (3689348814741910323 : Int64)) + ((jlushr (a1 - ((jlushr a1 1) &&& (6148914691236517205 : Int64))) 2) &&& (3689348814741910323 : Int64))) 4)) &&& (1085102592571150095 : Int64)) 8)))]) hx hb dJ13_bitCount_95d88_40 rfl hl (by decide) rfl (fun ls hl => ?_)
  refine lv_lload_n hx hb dJ13_bitCount_95d88_41 rfl (lv_at hl 0 rfl) ?_
  refine lv_lload_n hx hb dJ13_bitCount_95d88_42 rfl (lv_at hl 0 rfl) ?_
  refine lv_bipush (v := 16) hx hb dJ13_bitCount_95d88_43 (by decide) ?_
  refine lv_lushr (v := jlushr ((((((a1 - ((jlushr a1 1) &&& (6148914691236517205 : Int64))) &&& (3689348814741910323 : Int64)) + ((jlushr (a1 - ((jlushr a1 1) &&& (6148914691236517205 : Int64))) 2) &&& (3689348814741910323 : Int64))) + (jlushr (((a1 - ((jlushr a1 1) &&& (6148914691236517205 : Int64))) &&& (3689348814741910323 : Int64)) + ((jlushr (a1 - ((jlushr a1 1) &&& (6148914691236517205 : Int64))) 2) &&& (3689348814741910323 : Int64))) 4)) &&& (1085102592571150095 : Int64)) + (jlushr (((((a1 - ((jlushr a1 1) &&& (6148914691236517205 : Int64))) &&& (3689348814741910323 : Int64)) + ((jlushr (a1 - ((jlushr a1 1) &&& (6148914691236517205 : Int64))) 2) &&& (3689348814741910323 : Int64))) + (jlushr (((a1 - ((jlushr a1 1) &&& (6148914691236517205 : Int64))) &&& (3689348814741910323 : Int64)) + ((jlushr (a1 - ((jlushr a1 1) &&& (6148914691236517205 : Int64))) 2) &&& (3689348814741910323 : Int64))) 4)) &&& (1085102592571150095 : Int64)) 8)) 16) hx hb dJ13_bitCount_95d88_45 rfl ?_
  refine lv_ladd hx hb dJ13_bitCount_95d88_46 ?_
  refine lv_lstore_n (lv' := [(0, .long (((((((a1 - ((jlushr a1 1) &&& (6148914691236517205 : Int64))) &&& (3689348814741910323 : Int64)) + ((jlushr (a1 - ((jlushr a1 1) &&& (6148914691236517205 : Int64))) 2) &&& (3689348814741910323 : Int64))) + (jlushr (((a1 - ((jlushr a1 1) &&& (6148914691236517205 : Int64))) &&& (3689348814741910323 : Int64)) + ((jlushr (a1 - ((jlushr a1 1) &&& (6148914691236517205 : Int64))) 2) &&& (3689348814741910323 : Int64))) 4)) &&& (1085102592571150095 : Int64)) + (jlushr (((((a1 - ((jlushr a1 1) &&& (6148914691236517205 : Int64))) &&& (3689348814741910323 : Int64)) + ((jlushr (a1 - ((jlushr a1 1) &&& (6148914691236517205 : Int64))) 2) &&& (3689348814741910323 : Int64))) + (jlushr (((a1 - ((jlushr a1 1) &&& (6148914691236517205 : Int64))) &&& (3689348814741910323 : Int64)) + ((jlushr (a1 - ((jlushr a1 1) &&& (6148914691236517205 : Int64))) 2) &&& (3689348814741910323 : Int64))) 4)) &&& (1085102592571150095 : Int64)) 8)) + (jlushr ((((((a1 - ((jlushr a1 1) &&& (6148914691236517205 : Int64))) &&& (3689348814741910323 : Int64)) + ((jlushr (a1 - ((jlushr a1 1) &&& (6148914691236517205 : Int64))) 2) &&& (3689348814741910323 : Int64))) + (jlushr (((a1 - ((jlushr a1 1) &&& (6148914691236517205 : Int64))) &&& (3689348814741910323 : Int64)) + ((jlushr (a1 - ((jlushr a1 1) &&& (6148914691236517205 : Int64))) 2) &&& (3689348814741910323 : Int64))) 4)) &&& (1085102592571150095 : Int64)) + (jlushr (((((a1 - ((jlushr a1 1) &&& (6148914691236517205 : Int64))) &&& (3689348814741910323 : Int64)) + ((jlushr (a1 - ((jlushr a1 1) &&& (6148914691236517205 : Int64))) 2) &&& (3689348814741910323 : Int64))) + (jlushr (((a1 - ((jlushr a1 1) &&& (6148914691236517205 : Int64))) &&& (3689348814741910323 : Int64)) + ((jlushr (a1 - ((jlushr a1 1) &&& (6148914691236517205 : Int64))) 2) &&& (3689348814741910323 : Int64))) 4)) &&& (1085102592571150095 : Int64)) 8)) 16)))]) hx hb dJ13_bitCount_95d88_47 rfl hl (by decide) rfl (fun ls hl => ?_)
  refine lv_lload_n hx hb dJ13_bitCount_95d88_48 rfl (lv_at hl 0 rfl) ?_
  refine lv_lload_n hx hb dJ13_bitCount_95d88_49 rfl (lv_at hl 0 rfl) ?_
  refine lv_bipush (v := 32) hx hb dJ13_bitCount_95d88_50 (by decide) ?_
  refine lv_lushr (v := jlushr (((((((a1 - ((jlushr a1 1) &&& (6148914691236517205 : Int64))) &&& (3689348814741910323 : Int64)) + ((jlushr (a1 - ((jlushr a1 1) &&& (6148914691236517205 : Int64))) 2) &&& (3689348814741910323 : Int64))) + (jlushr (((a1 - ((jlushr a1 1) &&& (6148914691236517205 : Int64))) &&& (3689348814741910323 : Int64)) + ((jlushr (a1 - ((jlushr a1 1) &&& (6148914691236517205 : Int64))) 2) &&& (3689348814741910323 : Int64))) 4)) &&& (1085102592571150095 : Int64)) + (jlushr (((((a1 - ((jlushr a1 1) &&& (6148914691236517205 : Int64))) &&& (3689348814741910323 : Int64)) + ((jlushr (a1 - ((jlushr a1 1) &&& (6148914691236517205 : Int64))) 2) &&& (3689348814741910323 : Int64))) + (jlushr (((a1 - ((jlushr a1 1) &&& (6148914691236517205 : Int64))) &&& (3689348814741910323 : Int64)) + ((jlushr (a1 - ((jlushr a1 1) &&& (6148914691236517205 : Int64))) 2) &&& (3689348814741910323 : Int64))) 4)) &&& (1085102592571150095 : Int64)) 8)) + (jlushr ((((((a1 - ((jlushr a1 1) &&& (6148914691236517205 : Int64))) &&& (3689348814741910323 : Int64)) + ((jlushr (a1 - ((jlushr a1 1) &&& (6148914691236517205 : Int64))) 2) &&& (3689348814741910323 : Int64))) + (jlushr (((a1 - ((jlushr a1 1) &&& (6148914691236517205 : Int64))) &&& (3689348814741910323 : Int64)) + ((jlushr (a1 - ((jlushr a1 1) &&& (6148914691236517205 : Int64))) 2) &&& (3689348814741910323 : Int64))) 4)) &&& (1085102592571150095 : Int64)) + (jlushr (((((a1 - ((jlushr a1 1) &&& (6148914691236517205 : Int64))) &&& (3689348814741910323 : Int64)) + ((jlushr (a1 - ((jlushr a1 1) &&& (6148914691236517205 : Int64))) 2) &&& (3689348814741910323 : Int64))) + (jlushr (((a1 - ((jlushr a1 1) &&& (6148914691236517205 : Int64))) &&& (3689348814741910323 : Int64)) + ((jlushr (a1 - ((jlushr a1 1) &&& (6148914691236517205 : Int64))) 2) &&& (3689348814741910323 : Int64))) 4)) &&& (1085102592571150095 : Int64)) 8)) 16)) 32) hx hb dJ13_bitCount_95d88_52 rfl ?_
  refine lv_ladd hx hb dJ13_bitCount_95d88_53 ?_
  refine lv_lstore_n (lv' := [(0, .long ((((((((a1 - ((jlushr a1 1) &&& (6148914691236517205 : Int64))) &&& (3689348814741910323 : Int64)) + ((jlushr (a1 - ((jlushr a1 1) &&& (6148914691236517205 : Int64))) 2) &&& (3689348814741910323 : Int64))) + (jlushr (((a1 - ((jlushr a1 1) &&& (6148914691236517205 : Int64))) &&& (3689348814741910323 : Int64)) + ((jlushr (a1 - ((jlushr a1 1) &&& (6148914691236517205 : Int64))) 2) &&& (3689348814741910323 : Int64))) 4)) &&& (1085102592571150095 : Int64)) + (jlushr (((((a1 - ((jlushr a1 1) &&& (6148914691236517205 : Int64))) &&& (3689348814741910323 : Int64)) + ((jlushr (a1 - ((jlushr a1 1) &&& (6148914691236517205 : Int64))) 2) &&& (3689348814741910323 : Int64))) + (jlushr (((a1 - ((jlushr a1 1) &&& (6148914691236517205 : Int64))) &&& (3689348814741910323 : Int64)) + ((jlushr (a1 - ((jlushr a1 1) &&& (6148914691236517205 : Int64))) 2) &&& (3689348814741910323 : Int64))) 4)) &&& (1085102592571150095 : Int64)) 8)) + (jlushr ((((((a1 - ((jlushr a1 1) &&& (6148914691236517205 : Int64))) &&& (3689348814741910323 : Int64)) + ((jlushr (a1 - ((jlushr a1 1) &&& (6148914691236517205 : Int64))) 2) &&& (3689348814741910323 : Int64))) + (jlushr (((a1 - ((jlushr a1 1) &&& (6148914691236517205 : Int64))) &&& (3689348814741910323 : Int64)) + ((jlushr (a1 - ((jlushr a1 1) &&& (6148914691236517205 : Int64))) 2) &&& (3689348814741910323 : Int64))) 4)) &&& (1085102592571150095 : Int64)) + (jlushr (((((a1 - ((jlushr a1 1) &&& (6148914691236517205 : Int64))) &&& (3689348814741910323 : Int64)) + ((jlushr (a1 - ((jlushr a1 1) &&& (6148914691236517205 : Int64))) 2) &&& (3689348814741910323 : Int64))) + (jlushr (((a1 - ((jlushr a1 1) &&& (6148914691236517205 : Int64))) &&& (3689348814741910323 : Int64)) + ((jlushr (a1 - ((jlushr a1 1) &&& (6148914691236517205 : Int64))) 2) &&& (3689348814741910323 : Int64))) 4)) &&& (1085102592571150095 : Int64)) 8)) 16)) + (jlushr (((((((a1 - ((jlushr a1 1) &&& (6148914691236517205 : Int64))) &&& (3689348814741910323 : Int64)) + ((jlushr (a1 - ((jlushr a1 1) &&& (6148914691236517205 : Int64))) 2) &&& (3689348814741910323 : Int64))) + (jlushr (((a1 - ((jlushr a1 1) &&& (6148914691236517205 : Int64))) &&& (3689348814741910323 : Int64)) + ((jlushr (a1 - ((jlushr a1 1) &&& (6148914691236517205 : Int64))) 2) &&& (3689348814741910323 : Int64))) 4)) &&& (1085102592571150095 : Int64)) + (jlushr (((((a1 - ((jlushr a1 1) &&& (6148914691236517205 : Int64))) &&& (3689348814741910323 : Int64)) + ((jlushr (a1 - ((jlushr a1 1) &&& (6148914691236517205 : Int64))) 2) &&& (3689348814741910323 : Int64))) + (jlushr (((a1 - ((jlushr a1 1) &&& (6148914691236517205 : Int64))) &&& (3689348814741910323 : Int64)) + ((jlushr (a1 - ((jlushr a1 1) &&& (6148914691236517205 : Int64))) 2) &&& (3689348814741910323 : Int64))) 4)) &&& (1085102592571150095 : Int64)) 8)) + (jlushr ((((((a1 - ((jlushr a1 1) &&& (6148914691236517205 : Int64))) &&& (3689348814741910323 : Int64)) + ((jlushr (a1 - ((jlushr a1 1) &&& (6148914691236517205 : Int64))) 2) &&& (3689348814741910323 : Int64))) + (jlushr (((a1 - ((jlushr a1 1) &&& (6148914691236517205 : Int64))) &&& (3689348814741910323 : Int64)) + ((jlushr (a1 - ((jlushr a1 1) &&& (6148914691236517205 : Int64))) 2) &&& (3689348814741910323 : Int64))) 4)) &&& (1085102592571150095 : Int64)) + (jlushr (((((a1 - ((jlushr a1 1) &&& (6148914691236517205 : Int64))) &&& (3689348814741910323 : Int64)) + ((jlushr (a1 - ((jlushr a1 1) &&& (6148914691236517205 : Int64))) 2) &&& (3689348814741910323 : Int64))) + (jlushr (((a1 - ((jlushr a1 1) &&& (6148914691236517205 : Int64))) &&& (3689348814741910323 : Int64)) + ((jlushr (a1 - ((jlushr a1 1) &&& (6148914691236517205 : Int64))) 2) &&& (3689348814741910323 : Int64))) 4)) &&& (1085102592571150095 : Int64)) 8)) 16)) 32)))]) hx hb dJ13_bitCount_95d88_54 rfl hl (by decide) rfl (fun ls hl => ?_)
  refine lv_lload_n hx hb dJ13_bitCount_95d88_55 rfl (lv_at hl 0 rfl) ?_
  refine lv_l2i (v := ((((((((a1 - ((jlushr a1 1) &&& (6148914691236517205 : Int64))) &&& (3689348814741910323 : Int64)) + ((jlushr (a1 - ((jlushr a1 1) &&& (6148914691236517205 : Int64))) 2) &&& (3689348814741910323 : Int64))) + (jlushr (((a1 - ((jlushr a1 1) &&& (6148914691236517205 : Int64))) &&& (3689348814741910323 : Int64)) + ((jlushr (a1 - ((jlushr a1 1) &&& (6148914691236517205 : Int64))) 2) &&& (3689348814741910323 : Int64))) 4)) &&& (1085102592571150095 : Int64)) + (jlushr (((((a1 - ((jlushr a1 1) &&& (6148914691236517205 : Int64))) &&& (3689348814741910323 : Int64)) + ((jlushr (a1 - ((jlushr a1 1) &&& (6148914691236517205 : Int64))) 2) &&& (3689348814741910323 : Int64))) + (jlushr (((a1 - ((jlushr a1 1) &&& (6148914691236517205 : Int64))) &&& (3689348814741910323 : Int64)) + ((jlushr (a1 - ((jlushr a1 1) &&& (6148914691236517205 : Int64))) 2) &&& (3689348814741910323 : Int64))) 4)) &&& (1085102592571150095 : Int64)) 8)) + (jlushr ((((((a1 - ((jlushr a1 1) &&& (6148914691236517205 : Int64))) &&& (3689348814741910323 : Int64)) + ((jlushr (a1 - ((jlushr a1 1) &&& (6148914691236517205 : Int64))) 2) &&& (3689348814741910323 : Int64))) + (jlushr (((a1 - ((jlushr a1 1) &&& (6148914691236517205 : Int64))) &&& (3689348814741910323 : Int64)) + ((jlushr (a1 - ((jlushr a1 1) &&& (6148914691236517205 : Int64))) 2) &&& (3689348814741910323 : Int64))) 4)) &&& (1085102592571150095 : Int64)) + (jlushr (((((a1 - ((jlushr a1 1) &&& (6148914691236517205 : Int64))) &&& (3689348814741910323 : Int64)) + ((jlushr (a1 - ((jlushr a1 1) &&& (6148914691236517205 : Int64))) 2) &&& (3689348814741910323 : Int64))) + (jlushr (((a1 - ((jlushr a1 1) &&& (6148914691236517205 : Int64))) &&& (3689348814741910323 : Int64)) + ((jlushr (a1 - ((jlushr a1 1) &&& (6148914691236517205 : Int64))) 2) &&& (3689348814741910323 : Int64))) 4)) &&& (1085102592571150095 : Int64)) 8)) 16)) + (jlushr (((((((a1 - ((jlushr a1 1) &&& (6148914691236517205 : Int64))) &&& (3689348814741910323 : Int64)) + ((jlushr (a1 - ((jlushr a1 1) &&& (6148914691236517205 : Int64))) 2) &&& (3689348814741910323 : Int64))) + (jlushr (((a1 - ((jlushr a1 1) &&& (6148914691236517205 : Int64))) &&& (3689348814741910323 : Int64)) + ((jlushr (a1 - ((jlushr a1 1) &&& (6148914691236517205 : Int64))) 2) &&& (3689348814741910323 : Int64))) 4)) &&& (1085102592571150095 : Int64)) + (jlushr (((((a1 - ((jlushr a1 1) &&& (6148914691236517205 : Int64))) &&& (3689348814741910323 : Int64)) + ((jlushr (a1 - ((jlushr a1 1) &&& (6148914691236517205 : Int64))) 2) &&& (3689348814741910323 : Int64))) + (jlushr (((a1 - ((jlushr a1 1) &&& (6148914691236517205 : Int64))) &&& (3689348814741910323 : Int64)) + ((jlushr (a1 - ((jlushr a1 1) &&& (6148914691236517205 : Int64))) 2) &&& (3689348814741910323 : Int64))) 4)) &&& (1085102592571150095 : Int64)) 8)) + (jlushr ((((((a1 - ((jlushr a1 1) &&& (6148914691236517205 : Int64))) &&& (3689348814741910323 : Int64)) + ((jlushr (a1 - ((jlushr a1 1) &&& (6148914691236517205 : Int64))) 2) &&& (3689348814741910323 : Int64))) + (jlushr (((a1 - ((jlushr a1 1) &&& (6148914691236517205 : Int64))) &&& (3689348814741910323 : Int64)) + ((jlushr (a1 - ((jlushr a1 1) &&& (6148914691236517205 : Int64))) 2) &&& (3689348814741910323 : Int64))) 4)) &&& (1085102592571150095 : Int64)) + (jlushr (((((a1 - ((jlushr a1 1) &&& (6148914691236517205 : Int64))) &&& (3689348814741910323 : Int64)) + ((jlushr (a1 - ((jlushr a1 1) &&& (6148914691236517205 : Int64))) 2) &&& (3689348814741910323 : Int64))) + (jlushr (((a1 - ((jlushr a1 1) &&& (6148914691236517205 : Int64))) &&& (3689348814741910323 : Int64)) + ((jlushr (a1 - ((jlushr a1 1) &&& (6148914691236517205 : Int64))) 2) &&& (3689348814741910323 : Int64))) 4)) &&& (1085102592571150095 : Int64)) 8)) 16)) 32)).toInt32) hx hb dJ13_bitCount_95d88_56 rfl ?_
  refine lv_bipush (v := 127) hx hb dJ13_bitCount_95d88_57 (by decide) ?_
  refine lv_iand hx hb dJ13_bitCount_95d88_59 ?_
  cases hf
  exact ret_i X hAe hP hD hS rfl dJ13_bitCount_95d88_60
def lp_X8_countOnes_45 (y2_45 : Int32) (y3_45 : Int32) (y4_45 : Int32) (v_names_45f : Int32) (v_used_45f : Int32) (v_p1_words_45f : Nat → Int64) (v_work_45f : Nat → Int64) : Nat → Int32 → Int32 → (Int32 → Int32 → Option (Int32 × Int32 × (Nat → Int64))) → Option (Int32 × Int32 × (Nat → Int64))
  | 0, _, _, _ => none
  | n_45 + 1, x5_45, x6_45, K_45 =>
    if v_used_45f ≤ x6_45 then
    K_45 x5_45 x6_45
    else
    (if 16 ≤ x6_45 then
    K_45 x5_45 x6_45
    else
    (if ix x6_45 16 then
    (f_J13_bitCount_95d88 (v_work_45f x6_45.toNatClampNeg)).bind fun r_8 =>
    lp_X8_countOnes_45 y2_45 y3_45 y4_45 v_names_45f v_used_45f v_p1_words_45f v_work_45f n_45 (x5_45 + r_8) (x6_45 + 1) K_45
    else none))
def f_X8_countOnes (v_names : Int32) (v_used : Int32) (v_p1_words : Nat → Int64) (v_work : Nat → Int64) (a2 : Int32) (a3 : Int32) : Option (Int32 × Int32 × (Nat → Int64)) :=
  (f_X8_load v_names v_used v_p1_words v_work a2 a3).bind fun (v_used_1, v_work_2) =>
  if 64 ≤ (1 : Int32) <<< ((v_names - a3) &&& 31) then
  (lp_X8_countOnes_45 a2 a3 ((1 : Int32) <<< ((v_names - a3) &&& 31)) v_names v_used_1 v_p1_words v_work_2 5000 0 0 (fun x5_45_10 x6_45_11 => 
  some (x5_45_10, v_used_1, v_work_2)))
  else
  (if ix 0 16 then
  if ix 0 16 then
  lp_X8_countOnes_45 a2 a3 ((1 : Int32) <<< ((v_names - a3) &&& 31)) v_names v_used_1 v_p1_words (vp_updL v_work_2 (0 : Int32).toNatClampNeg ((v_work_2 (0 : Int32).toNatClampNeg) &&& ((jlshl 1 ((1 : Int32) <<< ((v_names - a3) &&& 31))) - (1 : Int64)))) 5000 0 0 (fun x5_45_19 x6_45_20 => 
  some (x5_45_19, v_used_1, vp_updL v_work_2 (0 : Int32).toNatClampNeg ((v_work_2 (0 : Int32).toNatClampNeg) &&& ((jlshl 1 ((1 : Int32) <<< ((v_names - a3) &&& 31))) - (1 : Int64)))))
  else none
  else none)
set_option maxHeartbeats 4000000 in
set_option maxRecDepth 100000 in
theorem c_X8_countOnes (l : Launch) (g : GT) (h : Nat) (h_work : Nat) (h_choosers : Nat) (v_names : Int32) (v_used : Int32) (v_folded : Int32) (h_p1 : Nat) (h_p1_words : Nat) (h_p1_stack : Nat) (v_p1_depth : Int32) (v_p1_words : Nat → Int64) (v_work : Nat → Int64) (a2 : Int32) (a3 : Int32) (r_ : Int32) (u_used : Int32) (u_work : Nat → Int64) (hf : f_X8_countOnes v_names v_used v_p1_words v_work a2 a3 = some (r_, u_used, u_work)) : Con l g yX8_countOnes cX8_countOnes 7 (some .int) ({ frames := 3, cells := 0, slots := 0, locals := 68 }) [.ref h, .ref h_p1, .int a2, .int a3] [oX8 h h_work h_choosers v_names v_used v_folded, oX9 h_p1 h_p1_words h_p1_stack v_p1_depth, aJ g h_p1_words 16 v_p1_words, aJ g h_work 16 v_work] (some (.int r_)) [oX8 h h_work h_choosers v_names u_used v_folded, oX9 h_p1 h_p1_words h_p1_stack v_p1_depth, aJ g h_p1_words 16 v_p1_words, aJ g h_work 16 u_work] := by
  refine Con.of (by decide) (Nat.le_of_ble_eq_true rfl) ?_
  intro p e s m below meth c A ls hAe X hP hD hS hl
  obtain ⟨hx, hb, hml, hr, hown, hts, hlk, hnm, hA, hG, hZ⟩ := id X
  have hown : s.vm.findClass RX8 = some m.cls := hown
  have hl : lv_has ls 7 [(0, .ref h), (1, .ref h_p1), (2, .int a2), (3, .int a3)] := hl
  unfold f_X8_countOnes at hf
  refine lv_aload_n hx hb dX8_countOnes_0 rfl (lv_at hl 0 rfl) ?_
  refine lv_aload_n hx hb dX8_countOnes_1 rfl (lv_at hl 1 rfl) ?_
  refine lv_iload_n hx hb dX8_countOnes_2 rfl (lv_at hl 2 rfl) ?_
  refine lv_iload_n hx hb dX8_countOnes_3 rfl (lv_at hl 3 rfl) ?_
  obtain ⟨⟨v_used_1, v_work_2⟩, hf_3, hf⟩ := obind hf
  refine gcV (rest := []) (wn := [oX8 h h_work h_choosers v_names v_used_1 v_folded, oX9 h_p1 h_p1_words h_p1_stack v_p1_depth, aJ g h_p1_words 16 v_p1_words, aJ g h_work 16 v_work_2]) X hP hD hS hl (c_X8_load l g h h_work h_choosers v_names v_used v_folded h_p1 h_p1_words h_p1_stack v_p1_depth v_p1_words v_work a2 a3 v_used_1 v_work_2 hf_3) [0, 1, 2, 3] rfl rfl rfl [.inr 0, .inr 1, .inr 2, .inr 3] rfl rfl cd_X8_load rfl im_X8_load se_X8_load ml_X8_37 0 rfl rfl rfl rfl rfl ⟨(Nat.le_of_ble_eq_true rfl), (Nat.le_of_ble_eq_true rfl)⟩ rfl (Nat.le_of_ble_eq_true rfl) dX8_countOnes_4 ⟨(Nat.le_of_ble_eq_true rfl), (Nat.le_of_ble_eq_true rfl)⟩ (fun H locs hP hD hS => ?_)
  refine lv_iconst (v := 1) hx hb dX8_countOnes_7 (by decide) ?_
  refine lv_aload_n hx hb dX8_countOnes_8 rfl (lv_at hl 0 rfl) ?_
  refine gf_X8_25 X rfl hP 0 rfl rfl dX8_countOnes_9 ?_
  refine lv_iload_n hx hb dX8_countOnes_12 rfl (lv_at hl 3 rfl) ?_
  refine lv_isub hx hb dX8_countOnes_13 ?_
  refine lv_ishl hx hb dX8_countOnes_14 ?_
  refine lv_istore (lv' := [(4, .int ((1 : Int32) <<< ((v_names - a3) &&& 31))), (0, .ref h), (1, .ref h_p1), (2, .int a2), (3, .int a3)]) hx hb dX8_countOnes_15 hl (by decide) rfl (fun ls hl => ?_)
  refine lv_iload hx hb dX8_countOnes_17 (lv_at hl 0 rfl) ?_
  refine lv_bipush (v := 64) hx hb dX8_countOnes_19 (by decide) ?_
  refine lv_icmp_ge (tgt := 39) hx hb dX8_countOnes_21 (by decide) (fun c_4 => ?_) (fun c_4 => ?_)
  · have hf := ift hf c_4
    refine lv_iconst (v := 0) hx hb dX8_countOnes_39 (by decide) ?_
    refine lv_istore (lv' := [(5, .int 0), (4, .int ((1 : Int32) <<< ((v_names - a3) &&& 31))), (0, .ref h), (1, .ref h_p1), (2, .int a2), (3, .int a3)]) hx hb dX8_countOnes_40 hl (by decide) rfl (fun ls hl => ?_)
    refine lv_iconst (v := 0) hx hb dX8_countOnes_42 (by decide) ?_
    refine lv_istore (lv' := [(6, .int 0), (5, .int 0), (4, .int ((1 : Int32) <<< ((v_names - a3) &&& 31))), (0, .ref h), (1, .ref h_p1), (2, .int a2), (3, .int a3)]) hx hb dX8_countOnes_43 hl (by decide) rfl (fun ls hl => ?_)
    have L_45 : ∀ (n : Nat) (x5_45 : Int32) (x6_45 : Int32) (H : Heap) (locs : List Loc) (ls : Array Slot) (K_45 : Int32 → Int32 → Option (Int32 × Int32 × (Nat → Int64))), va_P g.1 vwCl [oX8 h h_work h_choosers v_names v_used_1 v_folded, oX9 h_p1 h_p1_words h_p1_stack v_p1_depth, aJ g h_p1_words 16 v_p1_words, aJ g h_work 16 v_work_2] H → va_D A [oX8 h h_work h_choosers v_names v_used_1 v_folded, oX9 h_p1 h_p1_words h_p1_stack v_p1_depth, aJ g h_p1_words 16 v_p1_words, aJ g h_work 16 v_work_2] → va_S A s.heap H locs → lv_has ls 7 [(0, .ref h), (1, .ref h_p1), (2, .int a2), (3, .int a3), (4, .int ((1 : Int32) <<< ((v_names - a3) &&& 31))), (5, .int x5_45), (6, .int x6_45)] → (∀ (z_x5_45 : Int32) (z_x6_45 : Int32) (H : Heap) (locs : List Loc) (ls : Array Slot), va_P g.1 vwCl [oX8 h h_work h_choosers v_names v_used_1 v_folded, oX9 h_p1 h_p1_words h_p1_stack v_p1_depth, aJ g h_p1_words 16 v_p1_words, aJ g h_work 16 v_work_2] H → va_D A [oX8 h h_work h_choosers v_names v_used_1 v_folded, oX9 h_p1 h_p1_words h_p1_stack v_p1_depth, aJ g h_p1_words 16 v_p1_words, aJ g h_work 16 v_work_2] → va_S A s.heap H locs → lv_has ls 7 [(0, .ref h), (1, .ref h_p1), (2, .int a2), (3, .int a3), (4, .int ((1 : Int32) <<< ((v_names - a3) &&& 31))), (5, .int z_x5_45), (6, .int z_x6_45)] → K_45 z_x5_45 z_x6_45 = some (r_, u_used, u_work) → W p l e ({ frames := 3, cells := 0, slots := 0, locals := 68 }) s m [.ref h, .ref h_p1, .int a2, .int a3].toArray below meth c H locs 0 0 (MQ below (fun _ => QW g [oX8 h h_work h_choosers v_names v_used v_folded, oX9 h_p1 h_p1_words h_p1_stack v_p1_depth, aJ g h_p1_words 16 v_p1_words, aJ g h_work 16 v_work] s.heap.size (some (.int r_)) [oX8 h h_work h_choosers v_names u_used v_folded, oX9 h_p1 h_p1_words h_p1_stack v_p1_depth, aJ g h_p1_words 16 v_p1_words, aJ g h_work 16 u_work]) [.ref h, .ref h_p1, .int a2, .int a3].toArray s 0 0 (va_A [oX8 h h_work h_choosers v_names v_used v_folded, oX9 h_p1 h_p1_words h_p1_stack v_p1_depth, aJ g h_p1_words 16 v_p1_words, aJ g h_work 16 v_work] s.heap.size)) (F0 m 82 ls [])) → lp_X8_countOnes_45 a2 a3 ((1 : Int32) <<< ((v_names - a3) &&& 31)) v_names v_used_1 v_p1_words v_work_2 n x5_45 x6_45 K_45 = some (r_, u_used, u_work) → W p l e ({ frames := 3, cells := 0, slots := 0, locals := 68 }) s m [.ref h, .ref h_p1, .int a2, .int a3].toArray below meth c H locs 0 0 (MQ below (fun _ => QW g [oX8 h h_work h_choosers v_names v_used v_folded, oX9 h_p1 h_p1_words h_p1_stack v_p1_depth, aJ g h_p1_words 16 v_p1_words, aJ g h_work 16 v_work] s.heap.size (some (.int r_)) [oX8 h h_work h_choosers v_names u_used v_folded, oX9 h_p1 h_p1_words h_p1_stack v_p1_depth, aJ g h_p1_words 16 v_p1_words, aJ g h_work 16 u_work]) [.ref h, .ref h_p1, .int a2, .int a3].toArray s 0 0 (va_A [oX8 h h_work h_choosers v_names v_used v_folded, oX9 h_p1 h_p1_words h_p1_stack v_p1_depth, aJ g h_p1_words 16 v_p1_words, aJ g h_work 16 v_work] s.heap.size)) (F0 m 45 ls []) := by
      intro n
      induction n with
      | zero =>
        intro x5_45 x6_45 H locs ls K_45 hP hD hS hl hk hf
        have hf : (none : Option (Int32 × Int32 × (Nat → Int64))) = some _ := hf
        cases hf
      | succ n_45 ih_45 =>
        intro x5_45 x6_45 H locs ls K_45 hP hD hS hl hk_45 hf
        refine lv_iload hx hb dX8_countOnes_45 (lv_at hl 6 rfl) ?_
        refine lv_aload_n hx hb dX8_countOnes_47 rfl (lv_at hl 0 rfl) ?_
        refine gf_X8_48 X rfl hP 0 rfl rfl dX8_countOnes_48 ?_
        refine lv_icmp_ge (tgt := 82) hx hb dX8_countOnes_51 (by decide) (fun c_12 => ?_) (fun c_12 => ?_)
        · have hf := ift hf c_12
          exact hk_45 x5_45 x6_45 H locs ls hP hD hS (lv_sub hl [0, 1, 2, 3, 4, 5, 6] rfl) hf
        · have hf := iff_ hf c_12
          refine lv_iload hx hb dX8_countOnes_54 (lv_at hl 6 rfl) ?_
          refine lv_bipush (v := 16) hx hb dX8_countOnes_56 (by decide) ?_
          refine lv_icmp_ge (tgt := 82) hx hb dX8_countOnes_58 (by decide) (fun c_13 => ?_) (fun c_13 => ?_)
          · have hf := ift hf c_13
            exact hk_45 x5_45 x6_45 H locs ls hP hD hS (lv_sub hl [0, 1, 2, 3, 4, 5, 6] rfl) hf
          · have hf := iff_ hf c_13
            refine lv_iload hx hb dX8_countOnes_61 (lv_at hl 5 rfl) ?_
            refine lv_aload_n hx hb dX8_countOnes_63 rfl (lv_at hl 0 rfl) ?_
            refine gf_X8_9 X rfl hP 0 rfl rfl dX8_countOnes_64 ?_
            refine lv_iload hx hb dX8_countOnes_67 (lv_at hl 6 rfl) ?_
            obtain ⟨hi_14, hf⟩ := ifs hf
            refine va_lald (D := g.1) hx hb hG.1 hP 3 2 rfl rfl (ix_in hi_14) dX8_countOnes_69 ?_
            obtain ⟨r_15, hf_16, hf⟩ := obind hf
            refine gcS (rest := [.int x5_45]) (wn := [oX8 h h_work h_choosers v_names v_used_1 v_folded, oX9 h_p1 h_p1_words h_p1_stack v_p1_depth, aJ g h_p1_words 16 v_p1_words, aJ g h_work 16 v_work_2]) X hP hD hS hl (c_J13_bitCount_95d88 l g (v_work_2 x6_45.toNatClampNeg) r_15 hf_16) [] rfl rfl rfl [.inl 0, .inl 1, .inl 2, .inl 3] rfl rfl cd_J13_bitCount_95d88 rfl st_J13_bitCount_95d88 ml_X8_51 rfl rfl ⟨(Nat.le_of_ble_eq_true rfl), (Nat.le_of_ble_eq_true rfl)⟩ rfl (Nat.le_of_ble_eq_true rfl) dX8_countOnes_70 ⟨(Nat.le_of_ble_eq_true rfl), (Nat.le_of_ble_eq_true rfl)⟩ (fun H locs hP hD hS => ?_)
            refine lv_iadd hx hb dX8_countOnes_73 ?_
            refine lv_istore (lv' := [(5, .int (x5_45 + r_15)), (0, .ref h), (1, .ref h_p1), (2, .int a2), (3, .int a3), (4, .int ((1 : Int32) <<< ((v_names - a3) &&& 31))), (6, .int x6_45)]) hx hb dX8_countOnes_74 hl (by decide) rfl (fun ls hl => ?_)
            refine lv_iinc (v := x6_45 + 1) (lv' := [(6, .int (x6_45 + 1)), (5, .int (x5_45 + r_15)), (0, .ref h), (1, .ref h_p1), (2, .int a2), (3, .int a3), (4, .int ((1 : Int32) <<< ((v_names - a3) &&& 31)))]) hx hb dX8_countOnes_76 hl (k := 6) rfl rfl (by decide) rfl (fun ls hl => ?_)
            refine lv_goto (tgt := 45) hx hb dX8_countOnes_79 (by decide) ?_
            exact ih_45 (x5_45 + r_15) (x6_45 + 1) H locs ls K_45 hP hD hS (lv_sub hl [2, 3, 4, 5, 6, 1, 0] rfl) hk_45 hf
    refine L_45 _ _ _ _ _ ls _ hP hD hS (lv_sub hl [3, 4, 5, 6, 2, 1, 0] rfl) (fun x5_45_10 x6_45_11 H locs ls hP hD hS hl hf => ?_) hf
    refine lv_iload hx hb dX8_countOnes_82 (lv_at hl 5 rfl) ?_
    cases hf
    exact ret_i X hAe hP hD hS rfl dX8_countOnes_84
  · have hf := iff_ hf c_4
    refine lv_aload_n hx hb dX8_countOnes_24 rfl (lv_at hl 1 rfl) ?_
    refine gf_X8_9 X rfl hP 0 rfl rfl dX8_countOnes_25 ?_
    refine lv_iconst (v := 0) hx hb dX8_countOnes_28 (by decide) ?_
    refine lv_dup2_11 hx hb dX8_countOnes_29 rfl rfl ?_
    obtain ⟨hi_17, hf⟩ := ifs hf
    refine va_lald (D := g.1) hx hb hG.1 hP 3 2 rfl rfl (ix_in hi_17) dX8_countOnes_30 ?_
    refine lv_lconst (v := 1) hx hb dX8_countOnes_31 (by decide) ?_
    refine lv_iload hx hb dX8_countOnes_32 (lv_at hl 0 rfl) ?_
    refine lv_lshl (v := jlshl 1 ((1 : Int32) <<< ((v_names - a3) &&& 31))) hx hb dX8_countOnes_34 rfl ?_
    refine lv_lconst (v := 1) hx hb dX8_countOnes_35 (by decide) ?_
    refine lv_lsub hx hb dX8_countOnes_36 ?_
    refine lv_land hx hb dX8_countOnes_37 ?_
    obtain ⟨hi_18, hf⟩ := ifs hf
    refine va_last (D := g.1) hx hb hG.1 hP hD hS 3 2 rfl rfl (ix_in hi_18) dX8_countOnes_38 (fun H locs hP hD hS => ?_)
    have hP : va_P g.1 vwCl [oX8 h h_work h_choosers v_names v_used_1 v_folded, oX9 h_p1 h_p1_words h_p1_stack v_p1_depth, aJ g h_p1_words 16 v_p1_words, aJ g h_work 16 (vp_updL v_work_2 (0 : Int32).toNatClampNeg ((v_work_2 (0 : Int32).toNatClampNeg) &&& ((jlshl 1 ((1 : Int32) <<< ((v_names - a3) &&& 31))) - (1 : Int64))))] H := hP
    have hD : va_D A [oX8 h h_work h_choosers v_names v_used_1 v_folded, oX9 h_p1 h_p1_words h_p1_stack v_p1_depth, aJ g h_p1_words 16 v_p1_words, aJ g h_work 16 (vp_updL v_work_2 (0 : Int32).toNatClampNeg ((v_work_2 (0 : Int32).toNatClampNeg) &&& ((jlshl 1 ((1 : Int32) <<< ((v_names - a3) &&& 31))) - (1 : Int64))))] := hD
    refine lv_iconst (v := 0) hx hb dX8_countOnes_39 (by decide) ?_
    refine lv_istore (lv' := [(5, .int 0), (4, .int ((1 : Int32) <<< ((v_names - a3) &&& 31))), (0, .ref h), (1, .ref h_p1), (2, .int a2), (3, .int a3)]) hx hb dX8_countOnes_40 hl (by decide) rfl (fun ls hl => ?_)
    refine lv_iconst (v := 0) hx hb dX8_countOnes_42 (by decide) ?_
    refine lv_istore (lv' := [(6, .int 0), (5, .int 0), (4, .int ((1 : Int32) <<< ((v_names - a3) &&& 31))), (0, .ref h), (1, .ref h_p1), (2, .int a2), (3, .int a3)]) hx hb dX8_countOnes_43 hl (by decide) rfl (fun ls hl => ?_)
    have L_45 : ∀ (n : Nat) (x5_45 : Int32) (x6_45 : Int32) (H : Heap) (locs : List Loc) (ls : Array Slot) (K_45 : Int32 → Int32 → Option (Int32 × Int32 × (Nat → Int64))), va_P g.1 vwCl [oX8 h h_work h_choosers v_names v_used_1 v_folded, oX9 h_p1 h_p1_words h_p1_stack v_p1_depth, aJ g h_p1_words 16 v_p1_words, aJ g h_work 16 (vp_updL v_work_2 (0 : Int32).toNatClampNeg ((v_work_2 (0 : Int32).toNatClampNeg) &&& ((jlshl 1 ((1 : Int32) <<< ((v_names - a3) &&& 31))) - (1 : Int64))))] H → va_D A [oX8 h h_work h_choosers v_names v_used_1 v_folded, oX9 h_p1 h_p1_words h_p1_stack v_p1_depth, aJ g h_p1_words 16 v_p1_words, aJ g h_work 16 (vp_updL v_work_2 (0 : Int32).toNatClampNeg ((v_work_2 (0 : Int32).toNatClampNeg) &&& ((jlshl 1 ((1 : Int32) <<< ((v_names - a3) &&& 31))) - (1 : Int64))))] → va_S A s.heap H locs → lv_has ls 7 [(0, .ref h), (1, .ref h_p1), (2, .int a2), (3, .int a3), (4, .int ((1 : Int32) <<< ((v_names - a3) &&& 31))), (5, .int x5_45), (6, .int x6_45)] → (∀ (z_x5_45 : Int32) (z_x6_45 : Int32) (H : Heap) (locs : List Loc) (ls : Array Slot), va_P g.1 vwCl [oX8 h h_work h_choosers v_names v_used_1 v_folded, oX9 h_p1 h_p1_words h_p1_stack v_p1_depth, aJ g h_p1_words 16 v_p1_words, aJ g h_work 16 (vp_updL v_work_2 (0 : Int32).toNatClampNeg ((v_work_2 (0 : Int32).toNatClampNeg) &&& ((jlshl 1 ((1 : Int32) <<< ((v_names - a3) &&& 31))) - (1 : Int64))))] H → va_D A [oX8 h h_work h_choosers v_names v_used_1 v_folded, oX9 h_p1 h_p1_words h_p1_stack v_p1_depth, aJ g h_p1_words 16 v_p1_words, aJ g h_work 16 (vp_updL v_work_2 (0 : Int32).toNatClampNeg ((v_work_2 (0 : Int32).toNatClampNeg) &&& ((jlshl 1 ((1 : Int32) <<< ((v_names - a3) &&& 31))) - (1 : Int64))))] → va_S A s.heap H locs → lv_has ls 7 [(0, .ref h), (1, .ref h_p1), (2, .int a2), (3, .int a3), (4, .int ((1 : Int32) <<< ((v_names - a3) &&& 31))), (5, .int z_x5_45), (6, .int z_x6_45)] → K_45 z_x5_45 z_x6_45 = some (r_, u_used, u_work) → W p l e ({ frames := 3, cells := 0, slots := 0, locals := 68 }) s m [.ref h, .ref h_p1, .int a2, .int a3].toArray below meth c H locs 0 0 (MQ below (fun _ => QW g [oX8 h h_work h_choosers v_names v_used v_folded, oX9 h_p1 h_p1_words h_p1_stack v_p1_depth, aJ g h_p1_words 16 v_p1_words, aJ g h_work 16 v_work] s.heap.size (some (.int r_)) [oX8 h h_work h_choosers v_names u_used v_folded, oX9 h_p1 h_p1_words h_p1_stack v_p1_depth, aJ g h_p1_words 16 v_p1_words, aJ g h_work 16 u_work]) [.ref h, .ref h_p1, .int a2, .int a3].toArray s 0 0 (va_A [oX8 h h_work h_choosers v_names v_used v_folded, oX9 h_p1 h_p1_words h_p1_stack v_p1_depth, aJ g h_p1_words 16 v_p1_words, aJ g h_work 16 v_work] s.heap.size)) (F0 m 82 ls [])) → lp_X8_countOnes_45 a2 a3 ((1 : Int32) <<< ((v_names - a3) &&& 31)) v_names v_used_1 v_p1_words (vp_updL v_work_2 (0 : Int32).toNatClampNeg ((v_work_2 (0 : Int32).toNatClampNeg) &&& ((jlshl 1 ((1 : Int32) <<< ((v_names - a3) &&& 31))) - (1 : Int64)))) n x5_45 x6_45 K_45 = some (r_, u_used, u_work) → W p l e ({ frames := 3, cells := 0, slots := 0, locals := 68 }) s m [.ref h, .ref h_p1, .int a2, .int a3].toArray below meth c H locs 0 0 (MQ below (fun _ => QW g [oX8 h h_work h_choosers v_names v_used v_folded, oX9 h_p1 h_p1_words h_p1_stack v_p1_depth, aJ g h_p1_words 16 v_p1_words, aJ g h_work 16 v_work] s.heap.size (some (.int r_)) [oX8 h h_work h_choosers v_names u_used v_folded, oX9 h_p1 h_p1_words h_p1_stack v_p1_depth, aJ g h_p1_words 16 v_p1_words, aJ g h_work 16 u_work]) [.ref h, .ref h_p1, .int a2, .int a3].toArray s 0 0 (va_A [oX8 h h_work h_choosers v_names v_used v_folded, oX9 h_p1 h_p1_words h_p1_stack v_p1_depth, aJ g h_p1_words 16 v_p1_words, aJ g h_work 16 v_work] s.heap.size)) (F0 m 45 ls []) := by
      intro n
      induction n with
      | zero =>
        intro x5_45 x6_45 H locs ls K_45 hP hD hS hl hk hf
        have hf : (none : Option (Int32 × Int32 × (Nat → Int64))) = some _ := hf
        cases hf
      | succ n_45 ih_45 =>
        intro x5_45 x6_45 H locs ls K_45 hP hD hS hl hk_45 hf
        refine lv_iload hx hb dX8_countOnes_45 (lv_at hl 6 rfl) ?_
        refine lv_aload_n hx hb dX8_countOnes_47 rfl (lv_at hl 0 rfl) ?_
        refine gf_X8_48 X rfl hP 0 rfl rfl dX8_countOnes_48 ?_
        refine lv_icmp_ge (tgt := 82) hx hb dX8_countOnes_51 (by decide) (fun c_21 => ?_) (fun c_21 => ?_)
        · have hf := ift hf c_21
          exact hk_45 x5_45 x6_45 H locs ls hP hD hS (lv_sub hl [0, 1, 2, 3, 4, 5, 6] rfl) hf
        · have hf := iff_ hf c_21
          refine lv_iload hx hb dX8_countOnes_54 (lv_at hl 6 rfl) ?_
          refine lv_bipush (v := 16) hx hb dX8_countOnes_56 (by decide) ?_
          refine lv_icmp_ge (tgt := 82) hx hb dX8_countOnes_58 (by decide) (fun c_22 => ?_) (fun c_22 => ?_)
          · have hf := ift hf c_22
            exact hk_45 x5_45 x6_45 H locs ls hP hD hS (lv_sub hl [0, 1, 2, 3, 4, 5, 6] rfl) hf
          · have hf := iff_ hf c_22
            refine lv_iload hx hb dX8_countOnes_61 (lv_at hl 5 rfl) ?_
            refine lv_aload_n hx hb dX8_countOnes_63 rfl (lv_at hl 0 rfl) ?_
            refine gf_X8_9 X rfl hP 0 rfl rfl dX8_countOnes_64 ?_
            refine lv_iload hx hb dX8_countOnes_67 (lv_at hl 6 rfl) ?_
            obtain ⟨hi_23, hf⟩ := ifs hf
            refine va_lald (D := g.1) hx hb hG.1 hP 3 2 rfl rfl (ix_in hi_23) dX8_countOnes_69 ?_
            obtain ⟨r_24, hf_25, hf⟩ := obind hf
            refine gcS (rest := [.int x5_45]) (wn := [oX8 h h_work h_choosers v_names v_used_1 v_folded, oX9 h_p1 h_p1_words h_p1_stack v_p1_depth, aJ g h_p1_words 16 v_p1_words, aJ g h_work 16 (vp_updL v_work_2 (0 : Int32).toNatClampNeg ((v_work_2 (0 : Int32).toNatClampNeg) &&& ((jlshl 1 ((1 : Int32) <<< ((v_names - a3) &&& 31))) - (1 : Int64))))]) X hP hD hS hl (c_J13_bitCount_95d88 l g ((vp_updL v_work_2 (0 : Int32).toNatClampNeg ((v_work_2 (0 : Int32).toNatClampNeg) &&& ((jlshl 1 ((1 : Int32) <<< ((v_names - a3) &&& 31))) - (1 : Int64)))) x6_45.toNatClampNeg) r_24 hf_25) [] rfl rfl rfl [.inl 0, .inl 1, .inl 2, .inl 3] rfl rfl cd_J13_bitCount_95d88 rfl st_J13_bitCount_95d88 ml_X8_51 rfl rfl ⟨(Nat.le_of_ble_eq_true rfl), (Nat.le_of_ble_eq_true rfl)⟩ rfl (Nat.le_of_ble_eq_true rfl) dX8_countOnes_70 ⟨(Nat.le_of_ble_eq_true rfl), (Nat.le_of_ble_eq_true rfl)⟩ (fun H locs hP hD hS => ?_)
            refine lv_iadd hx hb dX8_countOnes_73 ?_
            refine lv_istore (lv' := [(5, .int (x5_45 + r_24)), (0, .ref h), (1, .ref h_p1), (2, .int a2), (3, .int a3), (4, .int ((1 : Int32) <<< ((v_names - a3) &&& 31))), (6, .int x6_45)]) hx hb dX8_countOnes_74 hl (by decide) rfl (fun ls hl => ?_)
            refine lv_iinc (v := x6_45 + 1) (lv' := [(6, .int (x6_45 + 1)), (5, .int (x5_45 + r_24)), (0, .ref h), (1, .ref h_p1), (2, .int a2), (3, .int a3), (4, .int ((1 : Int32) <<< ((v_names - a3) &&& 31)))]) hx hb dX8_countOnes_76 hl (k := 6) rfl rfl (by decide) rfl (fun ls hl => ?_)
            refine lv_goto (tgt := 45) hx hb dX8_countOnes_79 (by decide) ?_
            exact ih_45 (x5_45 + r_24) (x6_45 + 1) H locs ls K_45 hP hD hS (lv_sub hl [2, 3, 4, 5, 6, 1, 0] rfl) hk_45 hf
    refine L_45 _ _ _ _ _ ls _ hP hD hS (lv_sub hl [3, 4, 5, 6, 2, 1, 0] rfl) (fun x5_45_19 x6_45_20 H locs ls hP hD hS hl hf => ?_) hf
    refine lv_iload hx hb dX8_countOnes_82 (lv_at hl 5 rfl) ?_
    cases hf
    exact ret_i X hAe hP hD hS rfl dX8_countOnes_84
