def f_X7_begin (v_end : Int32) (v_next : Int32) (a1 : Int32) : Option (Int32 × Int32) :=
  some (a1, 0)
set_option maxHeartbeats 4000000 in
set_option maxRecDepth 100000 in
theorem c_X7_begin (l : Launch) (g : GT) (h : Nat) (h_tape : Nat) (v_end : Int32) (v_next : Int32) (v_start : Int32) (v_kind : Int32) (v_code : Int32) (a1 : Int32) (u_end : Int32) (u_next : Int32) (hf : f_X7_begin v_end v_next a1 = some (u_end, u_next)) : Con l g yX7_begin cX7_begin 2 none ({ frames := 0, cells := 0, slots := 0, locals := 0 }) [.ref h, .int a1] [oX7 h h_tape v_end v_next v_start v_kind v_code] none [oX7 h h_tape u_end u_next v_start v_kind v_code] := by
  refine Con.of (by decide) (Nat.le_of_ble_eq_true rfl) ?_
  intro p e s m below meth c A ls hAe X hP hD hS hl
  obtain ⟨hx, hb, hml, hr, hown, hts, hlk, hnm, hA, hG, hZ⟩ := id X
  have hown : s.vm.findClass RX7 = some m.cls := hown
  have hl : lv_has ls 2 [(0, .ref h), (1, .int a1)] := hl
  unfold f_X7_begin at hf
  refine lv_aload_n hx hb dX7_begin_0 rfl (lv_at hl 0 rfl) ?_
  refine lv_iload_n hx hb dX7_begin_1 rfl (lv_at hl 1 rfl) ?_
  refine pf_X7_15 X rfl hP hD hS 0 rfl (Nat.le_of_ble_eq_true rfl) dX7_begin_2 (fun H locs hP hD hS => ?_)
  have hP : va_P g.1 vwCl [oX7 h h_tape a1 v_next v_start v_kind v_code] H := hP
  have hD : va_D A [oX7 h h_tape a1 v_next v_start v_kind v_code] := hD
  refine lv_aload_n hx hb dX7_begin_5 rfl (lv_at hl 0 rfl) ?_
  refine lv_iconst (v := 0) hx hb dX7_begin_6 (by decide) ?_
  refine pf_X7_19 X rfl hP hD hS 0 rfl (Nat.le_of_ble_eq_true rfl) dX7_begin_7 (fun H locs hP hD hS => ?_)
  have hP : va_P g.1 vwCl [oX7 h h_tape a1 0 v_start v_kind v_code] H := hP
  have hD : va_D A [oX7 h h_tape a1 0 v_start v_kind v_code] := hD
  cases hf
  exact ret_v X hAe hP hD hS rfl dX7_begin_10
def f_X7_isBlank (a1 : Int32) : Option (Bool) :=
  if a1 = 32 then
  some true
  else
  (if a1 = 10 then
  some true
  else
  some false)
set_option maxHeartbeats 4000000 in
set_option maxRecDepth 100000 in
theorem c_X7_isBlank (l : Launch) (g : GT) (a1 : Int32) (r_ : Bool) (hf : f_X7_isBlank a1 = some r_) : Con l g yX7_isBlank cX7_isBlank 1 (some .boolean) ({ frames := 0, cells := 0, slots := 0, locals := 0 }) [.int a1] [] (some (.int (b2i r_))) [] := by
  refine Con.of (by decide) (Nat.le_of_ble_eq_true rfl) ?_
  intro p e s m below meth c A ls hAe X hP hD hS hl
  obtain ⟨hx, hb, hml, hr, hown, hts, hlk, hnm, hA, hG, hZ⟩ := id X
  have hown : s.vm.findClass RX7 = some m.cls := hown
  have hl : lv_has ls 1 [(0, .int a1)] := hl
  unfold f_X7_isBlank at hf
  refine lv_iload_n hx hb dX7_isBlank_0 rfl (lv_at hl 0 rfl) ?_
  refine lv_bipush (v := 32) hx hb dX7_isBlank_1 (by decide) ?_
  refine lv_icmp_eq (tgt := 12) hx hb dX7_isBlank_3 (by decide) (fun c_1 => ?_) (fun c_1 => ?_)
  · have hf := ift hf c_1
    refine lv_iconst (v := 1) hx hb dX7_isBlank_12 (by decide) ?_
    refine lv_goto (tgt := 17) hx hb dX7_isBlank_13 (by decide) ?_
    cases hf
    exact ret_z (v := true) X hAe hP hD hS rfl dX7_isBlank_17
  · have hf := iff_ hf c_1
    refine lv_iload_n hx hb dX7_isBlank_6 rfl (lv_at hl 0 rfl) ?_
    refine lv_bipush (v := 10) hx hb dX7_isBlank_7 (by decide) ?_
    refine lv_icmp_ne (tgt := 16) hx hb dX7_isBlank_9 (by decide) (fun c_2 => ?_) (fun c_2 => ?_)
    · have hf := iff_ hf c_2
      refine lv_iconst (v := 0) hx hb dX7_isBlank_16 (by decide) ?_
      cases hf
      exact ret_z (v := false) X hAe hP hD hS rfl dX7_isBlank_17
    · have hf := ift hf c_2
      refine lv_iconst (v := 1) hx hb dX7_isBlank_12 (by decide) ?_
      refine lv_goto (tgt := 17) hx hb dX7_isBlank_13 (by decide) ?_
      cases hf
      exact ret_z (v := true) X hAe hP hD hS rfl dX7_isBlank_17
def f_X7_isSmallLetter (a1 : Int32) : Option (Bool) :=
  if a1 < 97 then
  some false
  else
  (if 122 < a1 then
  some false
  else
  some true)
set_option maxHeartbeats 4000000 in
set_option maxRecDepth 100000 in
theorem c_X7_isSmallLetter (l : Launch) (g : GT) (a1 : Int32) (r_ : Bool) (hf : f_X7_isSmallLetter a1 = some r_) : Con l g yX7_isSmallLetter cX7_isSmallLetter 1 (some .boolean) ({ frames := 0, cells := 0, slots := 0, locals := 0 }) [.int a1] [] (some (.int (b2i r_))) [] := by
  refine Con.of (by decide) (Nat.le_of_ble_eq_true rfl) ?_
  intro p e s m below meth c A ls hAe X hP hD hS hl
  obtain ⟨hx, hb, hml, hr, hown, hts, hlk, hnm, hA, hG, hZ⟩ := id X
  have hown : s.vm.findClass RX7 = some m.cls := hown
  have hl : lv_has ls 1 [(0, .int a1)] := hl
  unfold f_X7_isSmallLetter at hf
  refine lv_iload_n hx hb dX7_isSmallLetter_0 rfl (lv_at hl 0 rfl) ?_
  refine lv_bipush (v := 97) hx hb dX7_isSmallLetter_1 (by decide) ?_
  refine lv_icmp_lt (tgt := 16) hx hb dX7_isSmallLetter_3 (by decide) (fun c_1 => ?_) (fun c_1 => ?_)
  · have hf := ift hf c_1
    refine lv_iconst (v := 0) hx hb dX7_isSmallLetter_16 (by decide) ?_
    cases hf
    exact ret_z (v := false) X hAe hP hD hS rfl dX7_isSmallLetter_17
  · have hf := iff_ hf c_1
    refine lv_iload_n hx hb dX7_isSmallLetter_6 rfl (lv_at hl 0 rfl) ?_
    refine lv_bipush (v := 122) hx hb dX7_isSmallLetter_7 (by decide) ?_
    refine lv_icmp_gt (tgt := 16) hx hb dX7_isSmallLetter_9 (by decide) (fun c_2 => ?_) (fun c_2 => ?_)
    · have hf := ift hf c_2
      refine lv_iconst (v := 0) hx hb dX7_isSmallLetter_16 (by decide) ?_
      cases hf
      exact ret_z (v := false) X hAe hP hD hS rfl dX7_isSmallLetter_17
    · have hf := iff_ hf c_2
      refine lv_iconst (v := 1) hx hb dX7_isSmallLetter_12 (by decide) ?_
      refine lv_goto (tgt := 17) hx hb dX7_isSmallLetter_13 (by decide) ?_
      cases hf
      exact ret_z (v := true) X hAe hP hD hS rfl dX7_isSmallLetter_17
def f_X7_isDigit (a1 : Int32) : Option (Bool) :=
  if a1 < 48 then
  some false
  else
  (if 57 < a1 then
  some false
  else
  some true)
set_option maxHeartbeats 4000000 in
set_option maxRecDepth 100000 in
theorem c_X7_isDigit (l : Launch) (g : GT) (a1 : Int32) (r_ : Bool) (hf : f_X7_isDigit a1 = some r_) : Con l g yX7_isDigit cX7_isDigit 1 (some .boolean) ({ frames := 0, cells := 0, slots := 0, locals := 0 }) [.int a1] [] (some (.int (b2i r_))) [] := by
  refine Con.of (by decide) (Nat.le_of_ble_eq_true rfl) ?_
  intro p e s m below meth c A ls hAe X hP hD hS hl
  obtain ⟨hx, hb, hml, hr, hown, hts, hlk, hnm, hA, hG, hZ⟩ := id X
  have hown : s.vm.findClass RX7 = some m.cls := hown
  have hl : lv_has ls 1 [(0, .int a1)] := hl
  unfold f_X7_isDigit at hf
  refine lv_iload_n hx hb dX7_isDigit_0 rfl (lv_at hl 0 rfl) ?_
  refine lv_bipush (v := 48) hx hb dX7_isDigit_1 (by decide) ?_
  refine lv_icmp_lt (tgt := 16) hx hb dX7_isDigit_3 (by decide) (fun c_1 => ?_) (fun c_1 => ?_)
  · have hf := ift hf c_1
    refine lv_iconst (v := 0) hx hb dX7_isDigit_16 (by decide) ?_
    cases hf
    exact ret_z (v := false) X hAe hP hD hS rfl dX7_isDigit_17
  · have hf := iff_ hf c_1
    refine lv_iload_n hx hb dX7_isDigit_6 rfl (lv_at hl 0 rfl) ?_
    refine lv_bipush (v := 57) hx hb dX7_isDigit_7 (by decide) ?_
    refine lv_icmp_gt (tgt := 16) hx hb dX7_isDigit_9 (by decide) (fun c_2 => ?_) (fun c_2 => ?_)
    · have hf := ift hf c_2
      refine lv_iconst (v := 0) hx hb dX7_isDigit_16 (by decide) ?_
      cases hf
      exact ret_z (v := false) X hAe hP hD hS rfl dX7_isDigit_17
    · have hf := iff_ hf c_2
      refine lv_iconst (v := 1) hx hb dX7_isDigit_12 (by decide) ?_
      refine lv_goto (tgt := 17) hx hb dX7_isDigit_13 (by decide) ?_
      cases hf
      exact ret_z (v := true) X hAe hP hD hS rfl dX7_isDigit_17
def f_X7_isLetterOrDigit (a1 : Int32) : Option (Bool) :=
  (f_X7_isSmallLetter a1).bind fun r_1 =>
  if b2i r_1 = 0 then
  (jn (κ := Option (Bool)) ((f_X7_isDigit a1).bind fun r_4 =>
  if b2i r_4 = 0 then
  some false
  else
  some true) fun j_19 =>
  if a1 < 65 then
  j_19
  else
  (if a1 ≤ 90 then
  some true
  else
  j_19))
  else
  some true
set_option maxHeartbeats 4000000 in
set_option maxRecDepth 100000 in
theorem c_X7_isLetterOrDigit (l : Launch) (g : GT) (a1 : Int32) (r_ : Bool) (hf : f_X7_isLetterOrDigit a1 = some r_) : Con l g yX7_isLetterOrDigit cX7_isLetterOrDigit 1 (some .boolean) ({ frames := 1, cells := 0, slots := 0, locals := 20 }) [.int a1] [] (some (.int (b2i r_))) [] := by
  refine Con.of (by decide) (Nat.le_of_ble_eq_true rfl) ?_
  intro p e s m below meth c A ls hAe X hP hD hS hl
  obtain ⟨hx, hb, hml, hr, hown, hts, hlk, hnm, hA, hG, hZ⟩ := id X
  have hown : s.vm.findClass RX7 = some m.cls := hown
  have hl : lv_has ls 1 [(0, .int a1)] := hl
  unfold f_X7_isLetterOrDigit at hf
  refine lv_iload_n hx hb dX7_isLetterOrDigit_0 rfl (lv_at hl 0 rfl) ?_
  obtain ⟨r_1, hf_2, hf⟩ := obind hf
  refine gcS (rest := []) (wn := []) X hP hD hS hl (c_X7_isSmallLetter l g a1 r_1 hf_2) [] rfl rfl rfl [] rfl rfl cd_X7_isSmallLetter rfl st_X7_isSmallLetter ml_X7_47 rfl rfl ⟨(Nat.le_of_ble_eq_true rfl), (Nat.le_of_ble_eq_true rfl)⟩ rfl (Nat.le_of_ble_eq_true rfl) dX7_isLetterOrDigit_1 ⟨(Nat.le_of_ble_eq_true rfl), (Nat.le_of_ble_eq_true rfl)⟩ (fun H locs hP hD hS => ?_)
  refine lv_if_ne (tgt := 26) hx hb dX7_isLetterOrDigit_4 (by decide) (fun c_3 => ?_) (fun c_3 => ?_)
  · have hf := iff_ hf c_3
    refine lv_iconst (v := 1) hx hb dX7_isLetterOrDigit_26 (by decide) ?_
    refine lv_goto (tgt := 31) hx hb dX7_isLetterOrDigit_27 (by decide) ?_
    cases hf
    exact ret_z (v := true) X hAe hP hD hS rfl dX7_isLetterOrDigit_31
  · have hf := ift hf c_3
    refine lv_iload_n hx hb dX7_isLetterOrDigit_7 rfl (lv_at hl 0 rfl) ?_
    refine lv_bipush (v := 65) hx hb dX7_isLetterOrDigit_8 (by decide) ?_
    refine jn_elim hf (fun j_19 hj_19 hf => ?_)
    have J_19 : ∀  (H : Heap) (locs : List Loc) (ls : Array Slot), va_P g.1 vwCl [] H → va_D A [] → va_S A s.heap H locs → lv_has ls 1 [(0, .int a1)] → j_19  = some r_ → W p l e ({ frames := 1, cells := 0, slots := 0, locals := 20 }) s m [.int a1].toArray below meth c H locs 0 0 (MQ below (fun _ => QW g [] s.heap.size (some (.int (b2i r_))) []) [.int a1].toArray s 0 0 (va_A [] s.heap.size)) (F0 m 19 ls []) := by
      intro  H locs ls hP hD hS hl hf
      rw [hj_19] at hf
      refine lv_iload_n hx hb dX7_isLetterOrDigit_19 rfl (lv_at hl 0 rfl) ?_
      obtain ⟨r_4, hf_5, hf⟩ := obind hf
      refine gcS (rest := []) (wn := []) X hP hD hS hl (c_X7_isDigit l g a1 r_4 hf_5) [] rfl rfl rfl [] rfl rfl cd_X7_isDigit rfl st_X7_isDigit ml_X7_50 rfl rfl ⟨(Nat.le_of_ble_eq_true rfl), (Nat.le_of_ble_eq_true rfl)⟩ rfl (Nat.le_of_ble_eq_true rfl) dX7_isLetterOrDigit_20 ⟨(Nat.le_of_ble_eq_true rfl), (Nat.le_of_ble_eq_true rfl)⟩ (fun H locs hP hD hS => ?_)
      refine lv_if_eq (tgt := 30) hx hb dX7_isLetterOrDigit_23 (by decide) (fun c_6 => ?_) (fun c_6 => ?_)
      · have hf := ift hf c_6
        refine lv_iconst (v := 0) hx hb dX7_isLetterOrDigit_30 (by decide) ?_
        cases hf
        exact ret_z (v := false) X hAe hP hD hS rfl dX7_isLetterOrDigit_31
      · have hf := iff_ hf c_6
        refine lv_iconst (v := 1) hx hb dX7_isLetterOrDigit_26 (by decide) ?_
        refine lv_goto (tgt := 31) hx hb dX7_isLetterOrDigit_27 (by decide) ?_
        cases hf
        exact ret_z (v := true) X hAe hP hD hS rfl dX7_isLetterOrDigit_31
    refine lv_icmp_lt (tgt := 19) hx hb dX7_isLetterOrDigit_10 (by decide) (fun c_7 => ?_) (fun c_7 => ?_)
    · have hf := ift hf c_7
      exact J_19  _ _ ls hP hD hS (lv_sub hl [0] rfl) hf
    · have hf := iff_ hf c_7
      refine lv_iload_n hx hb dX7_isLetterOrDigit_13 rfl (lv_at hl 0 rfl) ?_
      refine lv_bipush (v := 90) hx hb dX7_isLetterOrDigit_14 (by decide) ?_
      refine lv_icmp_le (tgt := 26) hx hb dX7_isLetterOrDigit_16 (by decide) (fun c_8 => ?_) (fun c_8 => ?_)
      · have hf := ift hf c_8
        refine lv_iconst (v := 1) hx hb dX7_isLetterOrDigit_26 (by decide) ?_
        refine lv_goto (tgt := 31) hx hb dX7_isLetterOrDigit_27 (by decide) ?_
        cases hf
        exact ret_z (v := true) X hAe hP hD hS rfl dX7_isLetterOrDigit_31
      · have hf := iff_ hf c_8
        exact J_19  _ _ ls hP hD hS (lv_sub hl [0] rfl) hf
def lp_X7_spells_12 (y2_12 : Int32) (v_start_12f : Int32) (v_tape_bytes_12f : Nat → Int32) (a1 : Nat) : Nat → Int32 → (Int32 → Option (Bool)) → Option (Bool)
  | 0, _, _ => none
  | n_12 + 1, x3_12, K_12 =>
    if nI (lenJS.getD a1 0) ≤ x3_12 then
    K_12 x3_12
    else
    ((f_X10_byteAt v_tape_bytes_12f (v_start_12f + x3_12)).bind fun r_3 =>
    if ix x3_12 (lenJS.getD a1 0) then
    if r_3 = (bytJS.getD a1 []).getD x3_12.toNatClampNeg 0 then
    lp_X7_spells_12 y2_12 v_start_12f v_tape_bytes_12f a1 n_12 (x3_12 + 1) K_12
    else
    some false
    else none)
def f_X7_spells (v_start : Int32) (v_tape_bytes : Nat → Int32) (a1 : Nat) (a2 : Int32) : Option (Bool) :=
  if a2 = nI (lenJS.getD a1 0) then
  (lp_X7_spells_12 a2 v_start v_tape_bytes a1 5000 0 (fun x3_12_7 => 
  some true))
  else
  some false
set_option maxHeartbeats 4000000 in
set_option maxRecDepth 100000 in
theorem c_X7_spells (l : Launch) (g : GT) (h : Nat) (h_tape : Nat) (v_end : Int32) (v_next : Int32) (v_start : Int32) (v_kind : Int32) (v_code : Int32) (h_tape_bytes : Nat) (v_tape_size : Int32) (v_tape_bytes : Nat → Int32) (a1 : Nat) (a2 : Int32) (r_ : Bool) (hw_a1 : a1 < 2) (hf : f_X7_spells v_start v_tape_bytes a1 a2 = some r_) : Con l g yX7_spells cX7_spells 4 (some .boolean) ({ frames := 4, cells := 0, slots := 0, locals := 85 }) [.ref h, .ref (g.2.2 (a1 + 1)), .int a2] [oX7 h h_tape v_end v_next v_start v_kind v_code, oX10 h_tape h_tape_bytes v_tape_size, aI g h_tape_bytes 600 v_tape_bytes] (some (.int (b2i r_))) [oX7 h h_tape v_end v_next v_start v_kind v_code, oX10 h_tape h_tape_bytes v_tape_size, aI g h_tape_bytes 600 v_tape_bytes] := by
  refine Con.of (by decide) (Nat.le_of_ble_eq_true rfl) ?_
  intro p e s m below meth c A ls hAe X hP hD hS hl
  obtain ⟨hx, hb, hml, hr, hown, hts, hlk, hnm, hA, hG, hZ⟩ := id X
  have hown : s.vm.findClass RX7 = some m.cls := hown
  have hl : lv_has ls 4 [(0, .ref h), (1, .ref (g.2.2 (a1 + 1))), (2, .int a2)] := hl
  unfold f_X7_spells at hf
  refine lv_iload_n hx hb dX7_spells_0 rfl (lv_at hl 2 rfl) ?_
  refine lv_aload_n hx hb dX7_spells_1 rfl (lv_at hl 1 rfl) ?_
  refine gc_length (rest := [.int a2]) X hP hD hS hl hw_a1 ml_X7_64 (Nat.le_of_ble_eq_true rfl) (Nat.le_of_ble_eq_true rfl) (Nat.le_of_ble_eq_true rfl) dX7_spells_2 ⟨Nat.zero_le _, Nat.zero_le _⟩ (fun H locs hP hD hS => ?_)
  refine lv_icmp_eq (tgt := 10) hx hb dX7_spells_5 (by decide) (fun c_1 => ?_) (fun c_1 => ?_)
  · have hf := ift hf c_1
    refine lv_iconst (v := 0) hx hb dX7_spells_10 (by decide) ?_
    refine lv_istore_n (lv' := [(3, .int 0), (0, .ref h), (1, .ref (g.2.2 (a1 + 1))), (2, .int a2)]) hx hb dX7_spells_11 rfl hl (by decide) rfl (fun ls hl => ?_)
    have L_12 : ∀ (n : Nat) (x3_12 : Int32) (H : Heap) (locs : List Loc) (ls : Array Slot) (K_12 : Int32 → Option (Bool)), va_P g.1 vwCl [oX7 h h_tape v_end v_next v_start v_kind v_code, oX10 h_tape h_tape_bytes v_tape_size, aI g h_tape_bytes 600 v_tape_bytes] H → va_D A [oX7 h h_tape v_end v_next v_start v_kind v_code, oX10 h_tape h_tape_bytes v_tape_size, aI g h_tape_bytes 600 v_tape_bytes] → va_S A s.heap H locs → lv_has ls 4 [(0, .ref h), (1, .ref (g.2.2 (a1 + 1))), (2, .int a2), (3, .int x3_12)] → (∀ (z_x3_12 : Int32) (H : Heap) (locs : List Loc) (ls : Array Slot), va_P g.1 vwCl [oX7 h h_tape v_end v_next v_start v_kind v_code, oX10 h_tape h_tape_bytes v_tape_size, aI g h_tape_bytes 600 v_tape_bytes] H → va_D A [oX7 h h_tape v_end v_next v_start v_kind v_code, oX10 h_tape h_tape_bytes v_tape_size, aI g h_tape_bytes 600 v_tape_bytes] → va_S A s.heap H locs → lv_has ls 4 [(0, .ref h), (1, .ref (g.2.2 (a1 + 1))), (2, .int a2), (3, .int z_x3_12)] → K_12 z_x3_12 = some r_ → W p l e ({ frames := 4, cells := 0, slots := 0, locals := 85 }) s m [.ref h, .ref (g.2.2 (a1 + 1)), .int a2].toArray below meth c H locs 0 0 (MQ below (fun _ => QW g [oX7 h h_tape v_end v_next v_start v_kind v_code, oX10 h_tape h_tape_bytes v_tape_size, aI g h_tape_bytes 600 v_tape_bytes] s.heap.size (some (.int (b2i r_))) [oX7 h h_tape v_end v_next v_start v_kind v_code, oX10 h_tape h_tape_bytes v_tape_size, aI g h_tape_bytes 600 v_tape_bytes]) [.ref h, .ref (g.2.2 (a1 + 1)), .int a2].toArray s 0 0 (va_A [oX7 h h_tape v_end v_next v_start v_kind v_code, oX10 h_tape h_tape_bytes v_tape_size, aI g h_tape_bytes 600 v_tape_bytes] s.heap.size)) (F0 m 49 ls [])) → lp_X7_spells_12 a2 v_start v_tape_bytes a1 n x3_12 K_12 = some r_ → W p l e ({ frames := 4, cells := 0, slots := 0, locals := 85 }) s m [.ref h, .ref (g.2.2 (a1 + 1)), .int a2].toArray below meth c H locs 0 0 (MQ below (fun _ => QW g [oX7 h h_tape v_end v_next v_start v_kind v_code, oX10 h_tape h_tape_bytes v_tape_size, aI g h_tape_bytes 600 v_tape_bytes] s.heap.size (some (.int (b2i r_))) [oX7 h h_tape v_end v_next v_start v_kind v_code, oX10 h_tape h_tape_bytes v_tape_size, aI g h_tape_bytes 600 v_tape_bytes]) [.ref h, .ref (g.2.2 (a1 + 1)), .int a2].toArray s 0 0 (va_A [oX7 h h_tape v_end v_next v_start v_kind v_code, oX10 h_tape h_tape_bytes v_tape_size, aI g h_tape_bytes 600 v_tape_bytes] s.heap.size)) (F0 m 12 ls []) := by
      intro n
      induction n with
      | zero =>
        intro x3_12 H locs ls K_12 hP hD hS hl hk hf
        have hf : (none : Option (Bool)) = some _ := hf
        cases hf
      | succ n_12 ih_12 =>
        intro x3_12 H locs ls K_12 hP hD hS hl hk_12 hf
        refine lv_iload_n hx hb dX7_spells_12 rfl (lv_at hl 3 rfl) ?_
        refine lv_aload_n hx hb dX7_spells_13 rfl (lv_at hl 1 rfl) ?_
        refine gc_length (rest := [.int x3_12]) X hP hD hS hl hw_a1 ml_X7_64 (Nat.le_of_ble_eq_true rfl) (Nat.le_of_ble_eq_true rfl) (Nat.le_of_ble_eq_true rfl) dX7_spells_14 ⟨Nat.zero_le _, Nat.zero_le _⟩ (fun H locs hP hD hS => ?_)
        refine lv_icmp_ge (tgt := 49) hx hb dX7_spells_17 (by decide) (fun c_8 => ?_) (fun c_8 => ?_)
        · have hf := ift hf c_8
          exact hk_12 x3_12 H locs ls hP hD hS (lv_sub hl [0, 1, 2, 3] rfl) hf
        · have hf := iff_ hf c_8
          refine lv_aload_n hx hb dX7_spells_20 rfl (lv_at hl 0 rfl) ?_
          refine gf_X7_9 X rfl hP 0 rfl rfl dX7_spells_21 ?_
          refine lv_aload_n hx hb dX7_spells_24 rfl (lv_at hl 0 rfl) ?_
          refine gf_X7_32 X rfl hP 0 rfl rfl dX7_spells_25 ?_
          refine lv_iload_n hx hb dX7_spells_28 rfl (lv_at hl 3 rfl) ?_
          refine lv_iadd hx hb dX7_spells_29 ?_
          obtain ⟨r_9, hf_10, hf⟩ := obind hf
          refine gcV (rest := []) (wn := [oX7 h h_tape v_end v_next v_start v_kind v_code, oX10 h_tape h_tape_bytes v_tape_size, aI g h_tape_bytes 600 v_tape_bytes]) X hP hD hS hl (c_X10_byteAt l g h_tape h_tape_bytes v_tape_size v_tape_bytes (v_start + x3_12) r_9 hf_10) [1, 2] rfl rfl rfl [.inl 0, .inr 0, .inr 1] rfl rfl cd_X10_byteAt rfl im_X10_byteAt se_X10_byteAt ml_X7_22 1 rfl rfl rfl rfl rfl ⟨(Nat.le_of_ble_eq_true rfl), (Nat.le_of_ble_eq_true rfl)⟩ rfl (Nat.le_of_ble_eq_true rfl) dX7_spells_30 ⟨(Nat.le_of_ble_eq_true rfl), (Nat.le_of_ble_eq_true rfl)⟩ (fun H locs hP hD hS => ?_)
          refine lv_aload_n hx hb dX7_spells_33 rfl (lv_at hl 1 rfl) ?_
          refine lv_iload_n hx hb dX7_spells_34 rfl (lv_at hl 3 rfl) ?_
          obtain ⟨hi_11, hf⟩ := ifs hf
          refine gc_charAt (rest := [.int r_9]) X hP hD hS hl hw_a1 hi_11 ml_X7_70 (Nat.le_of_ble_eq_true rfl) (Nat.le_of_ble_eq_true rfl) (Nat.le_of_ble_eq_true rfl) dX7_spells_35 ⟨Nat.zero_le _, Nat.zero_le _⟩ (fun H locs hP hD hS => ?_)
          refine lv_icmp_eq (tgt := 43) hx hb dX7_spells_38 (by decide) (fun c_12 => ?_) (fun c_12 => ?_)
          · have hf := ift hf c_12
            refine lv_iinc (v := x3_12 + 1) (lv' := [(3, .int (x3_12 + 1)), (0, .ref h), (1, .ref (g.2.2 (a1 + 1))), (2, .int a2)]) hx hb dX7_spells_43 hl (k := 3) rfl rfl (by decide) rfl (fun ls hl => ?_)
            refine lv_goto (tgt := 12) hx hb dX7_spells_46 (by decide) ?_
            exact ih_12 (x3_12 + 1) H locs ls K_12 hP hD hS (lv_sub hl [1, 2, 3, 0] rfl) hk_12 hf
          · have hf := iff_ hf c_12
            refine lv_iconst (v := 0) hx hb dX7_spells_41 (by decide) ?_
            cases hf
            exact ret_z (v := false) X hAe hP hD hS rfl dX7_spells_42
    refine L_12 _ _ _ _ ls _ hP hD hS (lv_sub hl [1, 2, 3, 0] rfl) (fun x3_12_7 H locs ls hP hD hS hl hf => ?_) hf
    refine lv_iconst (v := 1) hx hb dX7_spells_49 (by decide) ?_
    cases hf
    exact ret_z (v := true) X hAe hP hD hS rfl dX7_spells_50
  · have hf := iff_ hf c_1
    refine lv_iconst (v := 0) hx hb dX7_spells_8 (by decide) ?_
    cases hf
    exact ret_z (v := false) X hAe hP hD hS rfl dX7_spells_9
def f_X7_kindOfRun (v_start : Int32) (v_code : Int32) (v_tape_bytes : Nat → Int32) (a1 : Int32) : Option (Int32 × Int32) :=
  (f_X10_byteAt v_tape_bytes v_start).bind fun r_1 =>
  (f_X10_byteAt v_tape_bytes (v_start + (1 : Int32))).bind fun r_3 =>
  jn (κ := Option (Int32 × Int32)) ((f_X7_isSmallLetter r_1).bind fun r_5 =>
  jn (κ := Option (Int32 × Int32)) ((f_X7_spells v_start v_tape_bytes 0 a1).bind fun r_7 =>
  if b2i r_7 = 0 then
  ((f_X7_spells v_start v_tape_bytes 1 a1).bind fun r_10 =>
  if b2i r_10 = 0 then
  some (515, v_code)
  else
  some (513, v_code))
  else
  some (512, v_code)) fun j_98 =>
  if b2i r_5 = 0 then
  j_98
  else
  (jn (κ := Option (Int32 × Int32)) (if a1 = 1 then
  some (256, r_1)
  else
  some (256, r_1 + ((256 : Int32) * ((r_3 - (48 : Int32)) + (1 : Int32))))) fun j_69 =>
  if a1 = 1 then
  j_69
  else
  (if a1 = 2 then
  ((f_X7_isDigit r_3).bind fun r_17 =>
  if b2i r_17 = 0 then
  j_98
  else
  j_69)
  else
  j_98))) fun j_45 =>
  if a1 = 1 then
  (if r_1 = 48 then
  some (r_1, v_code)
  else
  (if r_1 = 49 then
  some (r_1, v_code)
  else
  j_45))
  else
  j_45
set_option maxHeartbeats 4000000 in
set_option maxRecDepth 100000 in
theorem c_X7_kindOfRun (l : Launch) (g : GT) (h : Nat) (h_tape : Nat) (v_end : Int32) (v_next : Int32) (v_start : Int32) (v_kind : Int32) (v_code : Int32) (h_tape_bytes : Nat) (v_tape_size : Int32) (v_tape_bytes : Nat → Int32) (a1 : Int32) (r_ : Int32) (u_code : Int32) (hf : f_X7_kindOfRun v_start v_code v_tape_bytes a1 = some (r_, u_code)) : Con l g yX7_kindOfRun cX7_kindOfRun 4 (some .int) ({ frames := 5, cells := 0, slots := 0, locals := 108 }) [.ref h, .int a1] [oX7 h h_tape v_end v_next v_start v_kind v_code, oX10 h_tape h_tape_bytes v_tape_size, aI g h_tape_bytes 600 v_tape_bytes] (some (.int r_)) [oX7 h h_tape v_end v_next v_start v_kind u_code, oX10 h_tape h_tape_bytes v_tape_size, aI g h_tape_bytes 600 v_tape_bytes] := by
  refine Con.of (by decide) (Nat.le_of_ble_eq_true rfl) ?_
  intro p e s m below meth c A ls hAe X hP hD hS hl
  obtain ⟨hx, hb, hml, hr, hown, hts, hlk, hnm, hA, hG, hZ⟩ := id X
  have hown : s.vm.findClass RX7 = some m.cls := hown
  have hl : lv_has ls 4 [(0, .ref h), (1, .int a1)] := hl
  unfold f_X7_kindOfRun at hf
  refine lv_aload_n hx hb dX7_kindOfRun_0 rfl (lv_at hl 0 rfl) ?_
  refine gf_X7_9 X rfl hP 0 rfl rfl dX7_kindOfRun_1 ?_
  refine lv_aload_n hx hb dX7_kindOfRun_4 rfl (lv_at hl 0 rfl) ?_
  refine gf_X7_32 X rfl hP 0 rfl rfl dX7_kindOfRun_5 ?_
  obtain ⟨r_1, hf_2, hf⟩ := obind hf
  refine gcV (rest := []) (wn := [oX7 h h_tape v_end v_next v_start v_kind v_code, oX10 h_tape h_tape_bytes v_tape_size, aI g h_tape_bytes 600 v_tape_bytes]) X hP hD hS hl (c_X10_byteAt l g h_tape h_tape_bytes v_tape_size v_tape_bytes v_start r_1 hf_2) [1, 2] rfl rfl rfl [.inl 0, .inr 0, .inr 1] rfl rfl cd_X10_byteAt rfl im_X10_byteAt se_X10_byteAt ml_X7_22 1 rfl rfl rfl rfl rfl ⟨(Nat.le_of_ble_eq_true rfl), (Nat.le_of_ble_eq_true rfl)⟩ rfl (Nat.le_of_ble_eq_true rfl) dX7_kindOfRun_8 ⟨(Nat.le_of_ble_eq_true rfl), (Nat.le_of_ble_eq_true rfl)⟩ (fun H locs hP hD hS => ?_)
  refine lv_istore_n (lv' := [(2, .int r_1), (0, .ref h), (1, .int a1)]) hx hb dX7_kindOfRun_11 rfl hl (by decide) rfl (fun ls hl => ?_)
  refine lv_aload_n hx hb dX7_kindOfRun_12 rfl (lv_at hl 1 rfl) ?_
  refine gf_X7_9 X rfl hP 0 rfl rfl dX7_kindOfRun_13 ?_
  refine lv_aload_n hx hb dX7_kindOfRun_16 rfl (lv_at hl 1 rfl) ?_
  refine gf_X7_32 X rfl hP 0 rfl rfl dX7_kindOfRun_17 ?_
  refine lv_iconst (v := 1) hx hb dX7_kindOfRun_20 (by decide) ?_
  refine lv_iadd hx hb dX7_kindOfRun_21 ?_
  obtain ⟨r_3, hf_4, hf⟩ := obind hf
  refine gcV (rest := []) (wn := [oX7 h h_tape v_end v_next v_start v_kind v_code, oX10 h_tape h_tape_bytes v_tape_size, aI g h_tape_bytes 600 v_tape_bytes]) X hP hD hS hl (c_X10_byteAt l g h_tape h_tape_bytes v_tape_size v_tape_bytes (v_start + (1 : Int32)) r_3 hf_4) [1, 2] rfl rfl rfl [.inl 0, .inr 0, .inr 1] rfl rfl cd_X10_byteAt rfl im_X10_byteAt se_X10_byteAt ml_X7_22 1 rfl rfl rfl rfl rfl ⟨(Nat.le_of_ble_eq_true rfl), (Nat.le_of_ble_eq_true rfl)⟩ rfl (Nat.le_of_ble_eq_true rfl) dX7_kindOfRun_22 ⟨(Nat.le_of_ble_eq_true rfl), (Nat.le_of_ble_eq_true rfl)⟩ (fun H locs hP hD hS => ?_)
  refine lv_istore_n (lv' := [(3, .int r_3), (2, .int r_1), (0, .ref h), (1, .int a1)]) hx hb dX7_kindOfRun_25 rfl hl (by decide) rfl (fun ls hl => ?_)
  refine lv_iload_n hx hb dX7_kindOfRun_26 rfl (lv_at hl 3 rfl) ?_
  refine lv_iconst (v := 1) hx hb dX7_kindOfRun_27 (by decide) ?_
  refine jn_elim hf (fun j_45 hj_45 hf => ?_)
  have J_45 : ∀  (H : Heap) (locs : List Loc) (ls : Array Slot), va_P g.1 vwCl [oX7 h h_tape v_end v_next v_start v_kind v_code, oX10 h_tape h_tape_bytes v_tape_size, aI g h_tape_bytes 600 v_tape_bytes] H → va_D A [oX7 h h_tape v_end v_next v_start v_kind v_code, oX10 h_tape h_tape_bytes v_tape_size, aI g h_tape_bytes 600 v_tape_bytes] → va_S A s.heap H locs → lv_has ls 4 [(0, .ref h), (1, .int a1), (2, .int r_1), (3, .int r_3)] → j_45  = some (r_, u_code) → W p l e ({ frames := 5, cells := 0, slots := 0, locals := 108 }) s m [.ref h, .int a1].toArray below meth c H locs 0 0 (MQ below (fun _ => QW g [oX7 h h_tape v_end v_next v_start v_kind v_code, oX10 h_tape h_tape_bytes v_tape_size, aI g h_tape_bytes 600 v_tape_bytes] s.heap.size (some (.int r_)) [oX7 h h_tape v_end v_next v_start v_kind u_code, oX10 h_tape h_tape_bytes v_tape_size, aI g h_tape_bytes 600 v_tape_bytes]) [.ref h, .int a1].toArray s 0 0 (va_A [oX7 h h_tape v_end v_next v_start v_kind v_code, oX10 h_tape h_tape_bytes v_tape_size, aI g h_tape_bytes 600 v_tape_bytes] s.heap.size)) (F0 m 45 ls []) := by
    intro  H locs ls hP hD hS hl hf
    rw [hj_45] at hf
    refine lv_iload_n hx hb dX7_kindOfRun_45 rfl (lv_at hl 2 rfl) ?_
    obtain ⟨r_5, hf_6, hf⟩ := obind hf
    refine gcS (rest := []) (wn := [oX7 h h_tape v_end v_next v_start v_kind v_code, oX10 h_tape h_tape_bytes v_tape_size, aI g h_tape_bytes 600 v_tape_bytes]) X hP hD hS hl (c_X7_isSmallLetter l g r_1 r_5 hf_6) [] rfl rfl rfl [.inl 0, .inl 1, .inl 2] rfl rfl cd_X7_isSmallLetter rfl st_X7_isSmallLetter ml_X7_47 rfl rfl ⟨(Nat.le_of_ble_eq_true rfl), (Nat.le_of_ble_eq_true rfl)⟩ rfl (Nat.le_of_ble_eq_true rfl) dX7_kindOfRun_46 ⟨(Nat.le_of_ble_eq_true rfl), (Nat.le_of_ble_eq_true rfl)⟩ (fun H locs hP hD hS => ?_)
    refine jn_elim hf (fun j_98 hj_98 hf => ?_)
    have J_98 : ∀  (H : Heap) (locs : List Loc) (ls : Array Slot), va_P g.1 vwCl [oX7 h h_tape v_end v_next v_start v_kind v_code, oX10 h_tape h_tape_bytes v_tape_size, aI g h_tape_bytes 600 v_tape_bytes] H → va_D A [oX7 h h_tape v_end v_next v_start v_kind v_code, oX10 h_tape h_tape_bytes v_tape_size, aI g h_tape_bytes 600 v_tape_bytes] → va_S A s.heap H locs → lv_has ls 4 [(0, .ref h), (1, .int a1), (2, .int r_1), (3, .int r_3)] → j_98  = some (r_, u_code) → W p l e ({ frames := 5, cells := 0, slots := 0, locals := 108 }) s m [.ref h, .int a1].toArray below meth c H locs 0 0 (MQ below (fun _ => QW g [oX7 h h_tape v_end v_next v_start v_kind v_code, oX10 h_tape h_tape_bytes v_tape_size, aI g h_tape_bytes 600 v_tape_bytes] s.heap.size (some (.int r_)) [oX7 h h_tape v_end v_next v_start v_kind u_code, oX10 h_tape h_tape_bytes v_tape_size, aI g h_tape_bytes 600 v_tape_bytes]) [.ref h, .int a1].toArray s 0 0 (va_A [oX7 h h_tape v_end v_next v_start v_kind v_code, oX10 h_tape h_tape_bytes v_tape_size, aI g h_tape_bytes 600 v_tape_bytes] s.heap.size)) (F0 m 98 ls []) := by
      intro  H locs ls hP hD hS hl hf
      rw [hj_98] at hf
      refine lv_aload_n hx hb dX7_kindOfRun_98 rfl (lv_at hl 0 rfl) ?_
      refine va_ldcS hx hb hown hG.2.2.1 dX7_kindOfRun_99 ?_
      refine lv_iload_n hx hb dX7_kindOfRun_101 rfl (lv_at hl 1 rfl) ?_
      obtain ⟨r_7, hf_8, hf⟩ := obind hf
      refine gcV (rest := []) (wn := [oX7 h h_tape v_end v_next v_start v_kind v_code, oX10 h_tape h_tape_bytes v_tape_size, aI g h_tape_bytes 600 v_tape_bytes]) X hP hD hS hl (c_X7_spells l g h h_tape v_end v_next v_start v_kind v_code h_tape_bytes v_tape_size v_tape_bytes 0 a1 r_7 (by decide) hf_8) [0, 1, 2] rfl rfl rfl [.inr 0, .inr 1, .inr 2] rfl rfl cd_X7_spells rfl im_X7_spells se_X7_spells ml_X7_58 0 rfl rfl rfl rfl rfl ⟨(Nat.le_of_ble_eq_true rfl), (Nat.le_of_ble_eq_true rfl)⟩ rfl (Nat.le_of_ble_eq_true rfl) dX7_kindOfRun_102 ⟨(Nat.le_of_ble_eq_true rfl), (Nat.le_of_ble_eq_true rfl)⟩ (fun H locs hP hD hS => ?_)
      refine lv_if_eq (tgt := 112) hx hb dX7_kindOfRun_105 (by decide) (fun c_9 => ?_) (fun c_9 => ?_)
      · have hf := ift hf c_9
        refine lv_aload_n hx hb dX7_kindOfRun_112 rfl (lv_at hl 0 rfl) ?_
        refine va_ldcS hx hb hown hG.2.2.2 dX7_kindOfRun_113 ?_
        refine lv_iload_n hx hb dX7_kindOfRun_115 rfl (lv_at hl 1 rfl) ?_
        obtain ⟨r_10, hf_11, hf⟩ := obind hf
        refine gcV (rest := []) (wn := [oX7 h h_tape v_end v_next v_start v_kind v_code, oX10 h_tape h_tape_bytes v_tape_size, aI g h_tape_bytes 600 v_tape_bytes]) X hP hD hS hl (c_X7_spells l g h h_tape v_end v_next v_start v_kind v_code h_tape_bytes v_tape_size v_tape_bytes 1 a1 r_10 (by decide) hf_11) [0, 1, 2] rfl rfl rfl [.inr 0, .inr 1, .inr 2] rfl rfl cd_X7_spells rfl im_X7_spells se_X7_spells ml_X7_58 0 rfl rfl rfl rfl rfl ⟨(Nat.le_of_ble_eq_true rfl), (Nat.le_of_ble_eq_true rfl)⟩ rfl (Nat.le_of_ble_eq_true rfl) dX7_kindOfRun_116 ⟨(Nat.le_of_ble_eq_true rfl), (Nat.le_of_ble_eq_true rfl)⟩ (fun H locs hP hD hS => ?_)
        refine lv_if_eq (tgt := 128) hx hb dX7_kindOfRun_119 (by decide) (fun c_12 => ?_) (fun c_12 => ?_)
        · have hf := ift hf c_12
          refine lv_sipush (v := 515) hx hb dX7_kindOfRun_128 (by decide) ?_
          cases hf
          exact ret_i X hAe hP hD hS rfl dX7_kindOfRun_131
        · have hf := iff_ hf c_12
          refine lv_sipush (v := 513) hx hb dX7_kindOfRun_122 (by decide) ?_
          refine lv_goto (tgt := 131) hx hb dX7_kindOfRun_125 (by decide) ?_
          cases hf
          exact ret_i X hAe hP hD hS rfl dX7_kindOfRun_131
      · have hf := iff_ hf c_9
        refine lv_sipush (v := 512) hx hb dX7_kindOfRun_108 (by decide) ?_
        cases hf
        exact ret_i X hAe hP hD hS rfl dX7_kindOfRun_111
    refine lv_if_eq (tgt := 98) hx hb dX7_kindOfRun_49 (by decide) (fun c_13 => ?_) (fun c_13 => ?_)
    · have hf := ift hf c_13
      exact J_98  _ _ ls hP hD hS (lv_sub hl [0, 1, 2, 3] rfl) hf
    · have hf := iff_ hf c_13
      refine lv_iload_n hx hb dX7_kindOfRun_52 rfl (lv_at hl 1 rfl) ?_
      refine lv_iconst (v := 1) hx hb dX7_kindOfRun_53 (by decide) ?_
      refine jn_elim hf (fun j_69 hj_69 hf => ?_)
      have J_69 : ∀  (H : Heap) (locs : List Loc) (ls : Array Slot), va_P g.1 vwCl [oX7 h h_tape v_end v_next v_start v_kind v_code, oX10 h_tape h_tape_bytes v_tape_size, aI g h_tape_bytes 600 v_tape_bytes] H → va_D A [oX7 h h_tape v_end v_next v_start v_kind v_code, oX10 h_tape h_tape_bytes v_tape_size, aI g h_tape_bytes 600 v_tape_bytes] → va_S A s.heap H locs → lv_has ls 4 [(0, .ref h), (1, .int a1), (2, .int r_1), (3, .int r_3)] → j_69  = some (r_, u_code) → W p l e ({ frames := 5, cells := 0, slots := 0, locals := 108 }) s m [.ref h, .int a1].toArray below meth c H locs 0 0 (MQ below (fun _ => QW g [oX7 h h_tape v_end v_next v_start v_kind v_code, oX10 h_tape h_tape_bytes v_tape_size, aI g h_tape_bytes 600 v_tape_bytes] s.heap.size (some (.int r_)) [oX7 h h_tape v_end v_next v_start v_kind u_code, oX10 h_tape h_tape_bytes v_tape_size, aI g h_tape_bytes 600 v_tape_bytes]) [.ref h, .int a1].toArray s 0 0 (va_A [oX7 h h_tape v_end v_next v_start v_kind v_code, oX10 h_tape h_tape_bytes v_tape_size, aI g h_tape_bytes 600 v_tape_bytes] s.heap.size)) (F0 m 69 ls []) := by
        intro  H locs ls hP hD hS hl hf
        rw [hj_69] at hf
        refine lv_aload_n hx hb dX7_kindOfRun_69 rfl (lv_at hl 0 rfl) ?_
        refine lv_iload_n hx hb dX7_kindOfRun_70 rfl (lv_at hl 1 rfl) ?_
        refine lv_iconst (v := 1) hx hb dX7_kindOfRun_71 (by decide) ?_
        refine lv_icmp_ne (tgt := 79) hx hb dX7_kindOfRun_72 (by decide) (fun c_14 => ?_) (fun c_14 => ?_)
        · have hf := iff_ hf c_14
          refine lv_iload_n hx hb dX7_kindOfRun_79 rfl (lv_at hl 2 rfl) ?_
          refine lv_sipush (v := 256) hx hb dX7_kindOfRun_80 (by decide) ?_
          refine lv_iload_n hx hb dX7_kindOfRun_83 rfl (lv_at hl 3 rfl) ?_
          refine lv_bipush (v := 48) hx hb dX7_kindOfRun_84 (by decide) ?_
          refine lv_isub hx hb dX7_kindOfRun_86 ?_
          refine lv_iconst (v := 1) hx hb dX7_kindOfRun_87 (by decide) ?_
          refine lv_iadd hx hb dX7_kindOfRun_88 ?_
          refine lv_imul hx hb dX7_kindOfRun_89 ?_
          refine lv_iadd hx hb dX7_kindOfRun_90 ?_
          refine pf_X7_53 X rfl hP hD hS 0 rfl (Nat.le_of_ble_eq_true rfl) dX7_kindOfRun_91 (fun H locs hP hD hS => ?_)
          have hP : va_P g.1 vwCl [oX7 h h_tape v_end v_next v_start v_kind (r_1 + ((256 : Int32) * ((r_3 - (48 : Int32)) + (1 : Int32)))), oX10 h_tape h_tape_bytes v_tape_size, aI g h_tape_bytes 600 v_tape_bytes] H := hP
          have hD : va_D A [oX7 h h_tape v_end v_next v_start v_kind (r_1 + ((256 : Int32) * ((r_3 - (48 : Int32)) + (1 : Int32)))), oX10 h_tape h_tape_bytes v_tape_size, aI g h_tape_bytes 600 v_tape_bytes] := hD
          refine lv_sipush (v := 256) hx hb dX7_kindOfRun_94 (by decide) ?_
          cases hf
          exact ret_i X hAe hP hD hS rfl dX7_kindOfRun_97
        · have hf := ift hf c_14
          refine lv_iload_n hx hb dX7_kindOfRun_75 rfl (lv_at hl 2 rfl) ?_
          refine lv_goto (tgt := 91) hx hb dX7_kindOfRun_76 (by decide) ?_
          refine pf_X7_53 X rfl hP hD hS 0 rfl (Nat.le_of_ble_eq_true rfl) dX7_kindOfRun_91 (fun H locs hP hD hS => ?_)
          have hP : va_P g.1 vwCl [oX7 h h_tape v_end v_next v_start v_kind r_1, oX10 h_tape h_tape_bytes v_tape_size, aI g h_tape_bytes 600 v_tape_bytes] H := hP
          have hD : va_D A [oX7 h h_tape v_end v_next v_start v_kind r_1, oX10 h_tape h_tape_bytes v_tape_size, aI g h_tape_bytes 600 v_tape_bytes] := hD
          refine lv_sipush (v := 256) hx hb dX7_kindOfRun_94 (by decide) ?_
          cases hf
          exact ret_i X hAe hP hD hS rfl dX7_kindOfRun_97
      refine lv_icmp_eq (tgt := 69) hx hb dX7_kindOfRun_54 (by decide) (fun c_15 => ?_) (fun c_15 => ?_)
      · have hf := ift hf c_15
        exact J_69  _ _ ls hP hD hS (lv_sub hl [0, 1, 2, 3] rfl) hf
      · have hf := iff_ hf c_15
        refine lv_iload_n hx hb dX7_kindOfRun_57 rfl (lv_at hl 1 rfl) ?_
        refine lv_iconst (v := 2) hx hb dX7_kindOfRun_58 (by decide) ?_
        refine lv_icmp_ne (tgt := 98) hx hb dX7_kindOfRun_59 (by decide) (fun c_16 => ?_) (fun c_16 => ?_)
        · have hf := iff_ hf c_16
          exact J_98  _ _ ls hP hD hS (lv_sub hl [0, 1, 2, 3] rfl) hf
        · have hf := ift hf c_16
          refine lv_iload_n hx hb dX7_kindOfRun_62 rfl (lv_at hl 3 rfl) ?_
          obtain ⟨r_17, hf_18, hf⟩ := obind hf
          refine gcS (rest := []) (wn := [oX7 h h_tape v_end v_next v_start v_kind v_code, oX10 h_tape h_tape_bytes v_tape_size, aI g h_tape_bytes 600 v_tape_bytes]) X hP hD hS hl (c_X7_isDigit l g r_3 r_17 hf_18) [] rfl rfl rfl [.inl 0, .inl 1, .inl 2] rfl rfl cd_X7_isDigit rfl st_X7_isDigit ml_X7_50 rfl rfl ⟨(Nat.le_of_ble_eq_true rfl), (Nat.le_of_ble_eq_true rfl)⟩ rfl (Nat.le_of_ble_eq_true rfl) dX7_kindOfRun_63 ⟨(Nat.le_of_ble_eq_true rfl), (Nat.le_of_ble_eq_true rfl)⟩ (fun H locs hP hD hS => ?_)
          refine lv_if_eq (tgt := 98) hx hb dX7_kindOfRun_66 (by decide) (fun c_19 => ?_) (fun c_19 => ?_)
          · have hf := ift hf c_19
            exact J_98  _ _ ls hP hD hS (lv_sub hl [0, 1, 2, 3] rfl) hf
          · have hf := iff_ hf c_19
            exact J_69  _ _ ls hP hD hS (lv_sub hl [0, 1, 2, 3] rfl) hf
  refine lv_icmp_ne (tgt := 45) hx hb dX7_kindOfRun_28 (by decide) (fun c_20 => ?_) (fun c_20 => ?_)
  · have hf := iff_ hf c_20
    exact J_45  _ _ ls hP hD hS (lv_sub hl [2, 3, 1, 0] rfl) hf
  · have hf := ift hf c_20
    refine lv_iload_n hx hb dX7_kindOfRun_31 rfl (lv_at hl 1 rfl) ?_
    refine lv_bipush (v := 48) hx hb dX7_kindOfRun_32 (by decide) ?_
    refine lv_icmp_eq (tgt := 43) hx hb dX7_kindOfRun_34 (by decide) (fun c_21 => ?_) (fun c_21 => ?_)
    · have hf := ift hf c_21
      refine lv_iload_n hx hb dX7_kindOfRun_43 rfl (lv_at hl 1 rfl) ?_
      cases hf
      exact ret_i X hAe hP hD hS rfl dX7_kindOfRun_44
    · have hf := iff_ hf c_21
      refine lv_iload_n hx hb dX7_kindOfRun_37 rfl (lv_at hl 1 rfl) ?_
      refine lv_bipush (v := 49) hx hb dX7_kindOfRun_38 (by decide) ?_
      refine lv_icmp_ne (tgt := 45) hx hb dX7_kindOfRun_40 (by decide) (fun c_22 => ?_) (fun c_22 => ?_)
      · have hf := iff_ hf c_22
        exact J_45  _ _ ls hP hD hS (lv_sub hl [2, 3, 1, 0] rfl) hf
      · have hf := ift hf c_22
        refine lv_iload_n hx hb dX7_kindOfRun_43 rfl (lv_at hl 1 rfl) ?_
        cases hf
        exact ret_i X hAe hP hD hS rfl dX7_kindOfRun_44
def f_X7_kindOfSign (a1 : Int32) : Option (Int32) :=
  (f_X11_levelOf a1).bind fun r_1 =>
  jn (κ := Int32 → Option (Int32)) (fun (s0_36 : Int32) =>
  if s0_36 = 0 then
  some 515
  else
  some a1) fun j_36 =>
  jn (κ := Option (Int32)) (j_36 1) fun j_31 =>
  if 0 < r_1 then
  j_31
  else
  (if a1 = 40 then
  j_31
  else
  (if a1 = 41 then
  j_31
  else
  (if a1 = 59 then
  j_31
  else
  (if a1 = 58 then
  j_31
  else
  j_36 0))))
set_option maxHeartbeats 4000000 in
set_option maxRecDepth 100000 in
theorem c_X7_kindOfSign (l : Launch) (g : GT) (a1 : Int32) (r_ : Int32) (hf : f_X7_kindOfSign a1 = some r_) : Con l g yX7_kindOfSign cX7_kindOfSign 2 (some .int) ({ frames := 1, cells := 0, slots := 0, locals := 20 }) [.int a1] [] (some (.int r_)) [] := by
  refine Con.of (by decide) (Nat.le_of_ble_eq_true rfl) ?_
  intro p e s m below meth c A ls hAe X hP hD hS hl
  obtain ⟨hx, hb, hml, hr, hown, hts, hlk, hnm, hA, hG, hZ⟩ := id X
  have hown : s.vm.findClass RX7 = some m.cls := hown
  have hl : lv_has ls 2 [(0, .int a1)] := hl
  unfold f_X7_kindOfSign at hf
  refine lv_iload_n hx hb dX7_kindOfSign_0 rfl (lv_at hl 0 rfl) ?_
  obtain ⟨r_1, hf_2, hf⟩ := obind hf
  refine gcSN (rest := []) (wn := []) X hP hD hS hl (c_X11_levelOf l g a1 r_1 hf_2) [] rfl rfl rfl [] rfl rfl cd_X11_levelOf rfl st_X11_levelOf ml_X7_74 rfl rfl ⟨(Nat.le_of_ble_eq_true rfl), (Nat.le_of_ble_eq_true rfl)⟩ rfl (Nat.le_of_ble_eq_true rfl) dX7_kindOfSign_1 ⟨(Nat.le_of_ble_eq_true rfl), (Nat.le_of_ble_eq_true rfl)⟩ (fun H locs hP hD hS => ?_)
  refine jn_elim hf (fun j_36 hj_36 hf => ?_)
  have J_36 : ∀ (s0_36 : Int32) (H : Heap) (locs : List Loc) (ls : Array Slot), va_P g.1 vwCl [] H → va_D A [] → va_S A s.heap H locs → lv_has ls 2 [(0, .int a1)] → j_36 s0_36 = some r_ → W p l e ({ frames := 1, cells := 0, slots := 0, locals := 20 }) s m [.int a1].toArray below meth c H locs 0 0 (MQ below (fun _ => QW g [] s.heap.size (some (.int r_)) []) [.int a1].toArray s 0 0 (va_A [] s.heap.size)) (F0 m 36 ls [.int s0_36]) := by
    intro s0_36 H locs ls hP hD hS hl hf
    rw [hj_36] at hf
    refine lv_istore_n (lv' := [(1, .int s0_36), (0, .int a1)]) hx hb dX7_kindOfSign_36 rfl hl (by decide) rfl (fun ls hl => ?_)
    refine lv_iload_n hx hb dX7_kindOfSign_37 rfl (lv_at hl 0 rfl) ?_
    refine lv_if_eq (tgt := 45) hx hb dX7_kindOfSign_38 (by decide) (fun c_3 => ?_) (fun c_3 => ?_)
    · have hf := ift hf c_3
      refine lv_sipush (v := 515) hx hb dX7_kindOfSign_45 (by decide) ?_
      cases hf
      exact ret_i X hAe hP hD hS rfl dX7_kindOfSign_48
    · have hf := iff_ hf c_3
      refine lv_iload_n hx hb dX7_kindOfSign_41 rfl (lv_at hl 1 rfl) ?_
      refine lv_goto (tgt := 48) hx hb dX7_kindOfSign_42 (by decide) ?_
      cases hf
      exact ret_i X hAe hP hD hS rfl dX7_kindOfSign_48
  refine jn_elim hf (fun j_31 hj_31 hf => ?_)
  have J_31 : ∀  (H : Heap) (locs : List Loc) (ls : Array Slot), va_P g.1 vwCl [] H → va_D A [] → va_S A s.heap H locs → lv_has ls 2 [(0, .int a1)] → j_31  = some r_ → W p l e ({ frames := 1, cells := 0, slots := 0, locals := 20 }) s m [.int a1].toArray below meth c H locs 0 0 (MQ below (fun _ => QW g [] s.heap.size (some (.int r_)) []) [.int a1].toArray s 0 0 (va_A [] s.heap.size)) (F0 m 31 ls []) := by
    intro  H locs ls hP hD hS hl hf
    rw [hj_31] at hf
    refine lv_iconst (v := 1) hx hb dX7_kindOfSign_31 (by decide) ?_
    refine lv_goto (tgt := 36) hx hb dX7_kindOfSign_32 (by decide) ?_
    exact J_36 1 _ _ ls hP hD hS (lv_sub hl [0] rfl) hf
  refine lv_if_gt (tgt := 31) hx hb dX7_kindOfSign_4 (by decide) (fun c_4 => ?_) (fun c_4 => ?_)
  · have hf := ift hf c_4
    exact J_31  _ _ ls hP hD hS (lv_sub hl [0] rfl) hf
  · have hf := iff_ hf c_4
    refine lv_iload_n hx hb dX7_kindOfSign_7 rfl (lv_at hl 0 rfl) ?_
    refine lv_bipush (v := 40) hx hb dX7_kindOfSign_8 (by decide) ?_
    refine lv_icmp_eq (tgt := 31) hx hb dX7_kindOfSign_10 (by decide) (fun c_5 => ?_) (fun c_5 => ?_)
    · have hf := ift hf c_5
      exact J_31  _ _ ls hP hD hS (lv_sub hl [0] rfl) hf
    · have hf := iff_ hf c_5
      refine lv_iload_n hx hb dX7_kindOfSign_13 rfl (lv_at hl 0 rfl) ?_
      refine lv_bipush (v := 41) hx hb dX7_kindOfSign_14 (by decide) ?_
      refine lv_icmp_eq (tgt := 31) hx hb dX7_kindOfSign_16 (by decide) (fun c_6 => ?_) (fun c_6 => ?_)
      · have hf := ift hf c_6
        exact J_31  _ _ ls hP hD hS (lv_sub hl [0] rfl) hf
      · have hf := iff_ hf c_6
        refine lv_iload_n hx hb dX7_kindOfSign_19 rfl (lv_at hl 0 rfl) ?_
        refine lv_bipush (v := 59) hx hb dX7_kindOfSign_20 (by decide) ?_
        refine lv_icmp_eq (tgt := 31) hx hb dX7_kindOfSign_22 (by decide) (fun c_7 => ?_) (fun c_7 => ?_)
        · have hf := ift hf c_7
          exact J_31  _ _ ls hP hD hS (lv_sub hl [0] rfl) hf
        · have hf := iff_ hf c_7
          refine lv_iload_n hx hb dX7_kindOfSign_25 rfl (lv_at hl 0 rfl) ?_
          refine lv_bipush (v := 58) hx hb dX7_kindOfSign_26 (by decide) ?_
          refine lv_icmp_ne (tgt := 35) hx hb dX7_kindOfSign_28 (by decide) (fun c_8 => ?_) (fun c_8 => ?_)
          · have hf := iff_ hf c_8
            refine lv_iconst (v := 0) hx hb dX7_kindOfSign_35 (by decide) ?_
            exact J_36 0 _ _ ls hP hD hS (lv_sub hl [0] rfl) hf
          · have hf := ift hf c_8
            exact J_31  _ _ ls hP hD hS (lv_sub hl [0] rfl) hf
def lp_X7_advance_0 (v_end_0f : Int32) (v_start_0f : Int32) (v_kind_0f : Int32) (v_code_0f : Int32) (v_tape_bytes_0f : Nat → Int32) : Nat → Int32 → (Int32 → Option (Int32 × Int32 × Int32 × Int32)) → Option (Int32 × Int32 × Int32 × Int32)
  | 0, _, _ => none
  | n_0 + 1, v_next_0, K_0 =>
    if v_end_0f ≤ v_next_0 then
    K_0 v_next_0
    else
    ((f_X10_byteAt v_tape_bytes_0f v_next_0).bind fun r_2 =>
    (f_X7_isBlank r_2).bind fun r_4 =>
    if b2i r_4 = 0 then
    K_0 v_next_0
    else
    lp_X7_advance_0 v_end_0f v_start_0f v_kind_0f v_code_0f v_tape_bytes_0f n_0 (v_next_0 + (1 : Int32)) K_0)
def lp_X7_advance_49 (v_end_49f : Int32) (v_start_49f : Int32) (v_kind_49f : Int32) (v_code_49f : Int32) (v_tape_bytes_49f : Nat → Int32) : Nat → Int32 → (Int32 → Option (Int32 × Int32 × Int32 × Int32)) → Option (Int32 × Int32 × Int32 × Int32)
  | 0, _, _ => none
  | n_49 + 1, v_next_49, K_49 =>
    if v_end_49f ≤ v_next_49 then
    K_49 v_next_49
    else
    ((f_X10_byteAt v_tape_bytes_49f v_next_49).bind fun r_15 =>
    (f_X7_isLetterOrDigit r_15).bind fun r_17 =>
    if b2i r_17 = 0 then
    K_49 v_next_49
    else
    lp_X7_advance_49 v_end_49f v_start_49f v_kind_49f v_code_49f v_tape_bytes_49f n_49 (v_next_49 + (1 : Int32)) K_49)
def f_X7_advance (v_end : Int32) (v_next : Int32) (v_start : Int32) (v_kind : Int32) (v_code : Int32) (v_tape_bytes : Nat → Int32) : Option (Int32 × Int32 × Int32 × Int32) :=
  lp_X7_advance_0 v_end v_start v_kind v_code v_tape_bytes 5000 v_next (fun v_next_0_7 => 
  lp_X7_advance_49 v_end v_next_0_7 v_kind v_code v_tape_bytes 5000 v_next_0_7 (fun v_next_49_20 => 
  if v_next_49_20 ≤ v_next_0_7 then
  (if v_end ≤ v_next_49_20 then
  some (v_next_49_20, v_next_0_7, 514, v_code)
  else
  ((f_X10_byteAt v_tape_bytes v_next_49_20).bind fun r_29 =>
  (f_X7_kindOfSign r_29).bind fun r_31 =>
  some (v_next_49_20 + (1 : Int32), v_next_0_7, r_31, v_code)))
  else
  ((f_X7_kindOfRun v_next_0_7 v_code v_tape_bytes (v_next_49_20 - v_next_0_7)).bind fun (r_33, v_code_34) =>
  some (v_next_49_20, v_next_0_7, r_33, v_code_34))))
set_option maxHeartbeats 4000000 in
set_option maxRecDepth 100000 in
theorem c_X7_advance (l : Launch) (g : GT) (h : Nat) (h_tape : Nat) (v_end : Int32) (v_next : Int32) (v_start : Int32) (v_kind : Int32) (v_code : Int32) (h_tape_bytes : Nat) (v_tape_size : Int32) (v_tape_bytes : Nat → Int32) (u_next : Int32) (u_start : Int32) (u_kind : Int32) (u_code : Int32) (hf : f_X7_advance v_end v_next v_start v_kind v_code v_tape_bytes = some (u_next, u_start, u_kind, u_code)) : Con l g yX7_advance cX7_advance 1 none ({ frames := 6, cells := 0, slots := 0, locals := 131 }) [.ref h] [oX7 h h_tape v_end v_next v_start v_kind v_code, oX10 h_tape h_tape_bytes v_tape_size, aI g h_tape_bytes 600 v_tape_bytes] none [oX7 h h_tape v_end u_next u_start u_kind u_code, oX10 h_tape h_tape_bytes v_tape_size, aI g h_tape_bytes 600 v_tape_bytes] := by
  refine Con.of (by decide) (Nat.le_of_ble_eq_true rfl) ?_
  intro p e s m below meth c A ls hAe X hP hD hS hl
  obtain ⟨hx, hb, hml, hr, hown, hts, hlk, hnm, hA, hG, hZ⟩ := id X
  have hown : s.vm.findClass RX7 = some m.cls := hown
  have hl : lv_has ls 1 [(0, .ref h)] := hl
  unfold f_X7_advance at hf
  have L_0 : ∀ (n : Nat) (v_next_0 : Int32) (H : Heap) (locs : List Loc) (ls : Array Slot) (K_0 : Int32 → Option (Int32 × Int32 × Int32 × Int32)), va_P g.1 vwCl [oX7 h h_tape v_end v_next_0 v_start v_kind v_code, oX10 h_tape h_tape_bytes v_tape_size, aI g h_tape_bytes 600 v_tape_bytes] H → va_D A [oX7 h h_tape v_end v_next_0 v_start v_kind v_code, oX10 h_tape h_tape_bytes v_tape_size, aI g h_tape_bytes 600 v_tape_bytes] → va_S A s.heap H locs → lv_has ls 1 [(0, .ref h)] → (∀ (z_v_next_0 : Int32) (H : Heap) (locs : List Loc) (ls : Array Slot), va_P g.1 vwCl [oX7 h h_tape v_end z_v_next_0 v_start v_kind v_code, oX10 h_tape h_tape_bytes v_tape_size, aI g h_tape_bytes 600 v_tape_bytes] H → va_D A [oX7 h h_tape v_end z_v_next_0 v_start v_kind v_code, oX10 h_tape h_tape_bytes v_tape_size, aI g h_tape_bytes 600 v_tape_bytes] → va_S A s.heap H locs → lv_has ls 1 [(0, .ref h)] → K_0 z_v_next_0 = some (u_next, u_start, u_kind, u_code) → W p l e ({ frames := 6, cells := 0, slots := 0, locals := 131 }) s m [.ref h].toArray below meth c H locs 0 0 (MQ below (fun _ => QW g [oX7 h h_tape v_end v_next v_start v_kind v_code, oX10 h_tape h_tape_bytes v_tape_size, aI g h_tape_bytes 600 v_tape_bytes] s.heap.size none [oX7 h h_tape v_end u_next u_start u_kind u_code, oX10 h_tape h_tape_bytes v_tape_size, aI g h_tape_bytes 600 v_tape_bytes]) [.ref h].toArray s 0 0 (va_A [oX7 h h_tape v_end v_next v_start v_kind v_code, oX10 h_tape h_tape_bytes v_tape_size, aI g h_tape_bytes 600 v_tape_bytes] s.heap.size)) (F0 m 41 ls [])) → lp_X7_advance_0 v_end v_start v_kind v_code v_tape_bytes n v_next_0 K_0 = some (u_next, u_start, u_kind, u_code) → W p l e ({ frames := 6, cells := 0, slots := 0, locals := 131 }) s m [.ref h].toArray below meth c H locs 0 0 (MQ below (fun _ => QW g [oX7 h h_tape v_end v_next v_start v_kind v_code, oX10 h_tape h_tape_bytes v_tape_size, aI g h_tape_bytes 600 v_tape_bytes] s.heap.size none [oX7 h h_tape v_end u_next u_start u_kind u_code, oX10 h_tape h_tape_bytes v_tape_size, aI g h_tape_bytes 600 v_tape_bytes]) [.ref h].toArray s 0 0 (va_A [oX7 h h_tape v_end v_next v_start v_kind v_code, oX10 h_tape h_tape_bytes v_tape_size, aI g h_tape_bytes 600 v_tape_bytes] s.heap.size)) (F0 m 0 ls []) := by
    intro n
    induction n with
    | zero =>
      intro v_next_0 H locs ls K_0 hP hD hS hl hk hf
      have hf : (none : Option (Int32 × Int32 × Int32 × Int32)) = some _ := hf
      cases hf
    | succ n_0 ih_0 =>
      intro v_next_0 H locs ls K_0 hP hD hS hl hk_0 hf
      refine lv_aload_n hx hb dX7_advance_0 rfl (lv_at hl 0 rfl) ?_
      refine gf_X7_19 X rfl hP 0 rfl rfl dX7_advance_1 ?_
      refine lv_aload_n hx hb dX7_advance_4 rfl (lv_at hl 0 rfl) ?_
      refine gf_X7_15 X rfl hP 0 rfl rfl dX7_advance_5 ?_
      refine lv_icmp_ge (tgt := 41) hx hb dX7_advance_8 (by decide) (fun c_8 => ?_) (fun c_8 => ?_)
      · have hf := ift hf c_8
        exact hk_0 v_next_0 H locs ls hP hD hS (lv_sub hl [0] rfl) hf
      · have hf := iff_ hf c_8
        refine lv_aload_n hx hb dX7_advance_11 rfl (lv_at hl 0 rfl) ?_
        refine gf_X7_9 X rfl hP 0 rfl rfl dX7_advance_12 ?_
        refine lv_aload_n hx hb dX7_advance_15 rfl (lv_at hl 0 rfl) ?_
        refine gf_X7_19 X rfl hP 0 rfl rfl dX7_advance_16 ?_
        obtain ⟨r_9, hf_10, hf⟩ := obind hf
        refine gcV (rest := []) (wn := [oX7 h h_tape v_end v_next_0 v_start v_kind v_code, oX10 h_tape h_tape_bytes v_tape_size, aI g h_tape_bytes 600 v_tape_bytes]) X hP hD hS hl (c_X10_byteAt l g h_tape h_tape_bytes v_tape_size v_tape_bytes v_next_0 r_9 hf_10) [1, 2] rfl rfl rfl [.inl 0, .inr 0, .inr 1] rfl rfl cd_X10_byteAt rfl im_X10_byteAt se_X10_byteAt ml_X7_22 1 rfl rfl rfl rfl rfl ⟨(Nat.le_of_ble_eq_true rfl), (Nat.le_of_ble_eq_true rfl)⟩ rfl (Nat.le_of_ble_eq_true rfl) dX7_advance_19 ⟨(Nat.le_of_ble_eq_true rfl), (Nat.le_of_ble_eq_true rfl)⟩ (fun H locs hP hD hS => ?_)
        obtain ⟨r_11, hf_12, hf⟩ := obind hf
        refine gcS (rest := []) (wn := [oX7 h h_tape v_end v_next_0 v_start v_kind v_code, oX10 h_tape h_tape_bytes v_tape_size, aI g h_tape_bytes 600 v_tape_bytes]) X hP hD hS hl (c_X7_isBlank l g r_9 r_11 hf_12) [] rfl rfl rfl [.inl 0, .inl 1, .inl 2] rfl rfl cd_X7_isBlank rfl st_X7_isBlank ml_X7_28 rfl rfl ⟨(Nat.le_of_ble_eq_true rfl), (Nat.le_of_ble_eq_true rfl)⟩ rfl (Nat.le_of_ble_eq_true rfl) dX7_advance_22 ⟨(Nat.le_of_ble_eq_true rfl), (Nat.le_of_ble_eq_true rfl)⟩ (fun H locs hP hD hS => ?_)
        refine lv_if_eq (tgt := 41) hx hb dX7_advance_25 (by decide) (fun c_13 => ?_) (fun c_13 => ?_)
        · have hf := ift hf c_13
          exact hk_0 v_next_0 H locs ls hP hD hS (lv_sub hl [0] rfl) hf
        · have hf := iff_ hf c_13
          refine lv_aload_n hx hb dX7_advance_28 rfl (lv_at hl 0 rfl) ?_
          refine lv_dup hx hb dX7_advance_29 rfl ?_
          refine gf_X7_19 X rfl hP 0 rfl rfl dX7_advance_30 ?_
          refine lv_iconst (v := 1) hx hb dX7_advance_33 (by decide) ?_
          refine lv_iadd hx hb dX7_advance_34 ?_
          refine pf_X7_19 X rfl hP hD hS 0 rfl (Nat.le_of_ble_eq_true rfl) dX7_advance_35 (fun H locs hP hD hS => ?_)
          have hP : va_P g.1 vwCl [oX7 h h_tape v_end (v_next_0 + (1 : Int32)) v_start v_kind v_code, oX10 h_tape h_tape_bytes v_tape_size, aI g h_tape_bytes 600 v_tape_bytes] H := hP
          have hD : va_D A [oX7 h h_tape v_end (v_next_0 + (1 : Int32)) v_start v_kind v_code, oX10 h_tape h_tape_bytes v_tape_size, aI g h_tape_bytes 600 v_tape_bytes] := hD
          refine lv_goto (tgt := 0) hx hb dX7_advance_38 (by decide) ?_
          exact ih_0 (v_next_0 + (1 : Int32)) H locs ls K_0 hP hD hS (lv_sub hl [0] rfl) hk_0 hf
  refine L_0 _ _ _ _ ls _ hP hD hS (lv_sub hl [0] rfl) (fun v_next_0_7 H locs ls hP hD hS hl hf => ?_) hf
  refine lv_aload_n hx hb dX7_advance_41 rfl (lv_at hl 0 rfl) ?_
  refine lv_aload_n hx hb dX7_advance_42 rfl (lv_at hl 0 rfl) ?_
  refine gf_X7_19 X rfl hP 0 rfl rfl dX7_advance_43 ?_
  refine pf_X7_32 X rfl hP hD hS 0 rfl (Nat.le_of_ble_eq_true rfl) dX7_advance_46 (fun H locs hP hD hS => ?_)
  have hP : va_P g.1 vwCl [oX7 h h_tape v_end v_next_0_7 v_next_0_7 v_kind v_code, oX10 h_tape h_tape_bytes v_tape_size, aI g h_tape_bytes 600 v_tape_bytes] H := hP
  have hD : va_D A [oX7 h h_tape v_end v_next_0_7 v_next_0_7 v_kind v_code, oX10 h_tape h_tape_bytes v_tape_size, aI g h_tape_bytes 600 v_tape_bytes] := hD
  have L_49 : ∀ (n : Nat) (v_next_49 : Int32) (H : Heap) (locs : List Loc) (ls : Array Slot) (K_49 : Int32 → Option (Int32 × Int32 × Int32 × Int32)), va_P g.1 vwCl [oX7 h h_tape v_end v_next_49 v_next_0_7 v_kind v_code, oX10 h_tape h_tape_bytes v_tape_size, aI g h_tape_bytes 600 v_tape_bytes] H → va_D A [oX7 h h_tape v_end v_next_49 v_next_0_7 v_kind v_code, oX10 h_tape h_tape_bytes v_tape_size, aI g h_tape_bytes 600 v_tape_bytes] → va_S A s.heap H locs → lv_has ls 1 [(0, .ref h)] → (∀ (z_v_next_49 : Int32) (H : Heap) (locs : List Loc) (ls : Array Slot), va_P g.1 vwCl [oX7 h h_tape v_end z_v_next_49 v_next_0_7 v_kind v_code, oX10 h_tape h_tape_bytes v_tape_size, aI g h_tape_bytes 600 v_tape_bytes] H → va_D A [oX7 h h_tape v_end z_v_next_49 v_next_0_7 v_kind v_code, oX10 h_tape h_tape_bytes v_tape_size, aI g h_tape_bytes 600 v_tape_bytes] → va_S A s.heap H locs → lv_has ls 1 [(0, .ref h)] → K_49 z_v_next_49 = some (u_next, u_start, u_kind, u_code) → W p l e ({ frames := 6, cells := 0, slots := 0, locals := 131 }) s m [.ref h].toArray below meth c H locs 0 0 (MQ below (fun _ => QW g [oX7 h h_tape v_end v_next v_start v_kind v_code, oX10 h_tape h_tape_bytes v_tape_size, aI g h_tape_bytes 600 v_tape_bytes] s.heap.size none [oX7 h h_tape v_end u_next u_start u_kind u_code, oX10 h_tape h_tape_bytes v_tape_size, aI g h_tape_bytes 600 v_tape_bytes]) [.ref h].toArray s 0 0 (va_A [oX7 h h_tape v_end v_next v_start v_kind v_code, oX10 h_tape h_tape_bytes v_tape_size, aI g h_tape_bytes 600 v_tape_bytes] s.heap.size)) (F0 m 90 ls [])) → lp_X7_advance_49 v_end v_next_0_7 v_kind v_code v_tape_bytes n v_next_49 K_49 = some (u_next, u_start, u_kind, u_code) → W p l e ({ frames := 6, cells := 0, slots := 0, locals := 131 }) s m [.ref h].toArray below meth c H locs 0 0 (MQ below (fun _ => QW g [oX7 h h_tape v_end v_next v_start v_kind v_code, oX10 h_tape h_tape_bytes v_tape_size, aI g h_tape_bytes 600 v_tape_bytes] s.heap.size none [oX7 h h_tape v_end u_next u_start u_kind u_code, oX10 h_tape h_tape_bytes v_tape_size, aI g h_tape_bytes 600 v_tape_bytes]) [.ref h].toArray s 0 0 (va_A [oX7 h h_tape v_end v_next v_start v_kind v_code, oX10 h_tape h_tape_bytes v_tape_size, aI g h_tape_bytes 600 v_tape_bytes] s.heap.size)) (F0 m 49 ls []) := by
    intro n
    induction n with
    | zero =>
      intro v_next_49 H locs ls K_49 hP hD hS hl hk hf
      have hf : (none : Option (Int32 × Int32 × Int32 × Int32)) = some _ := hf
      cases hf
    | succ n_49 ih_49 =>
      intro v_next_49 H locs ls K_49 hP hD hS hl hk_49 hf
      refine lv_aload_n hx hb dX7_advance_49 rfl (lv_at hl 0 rfl) ?_
      refine gf_X7_19 X rfl hP 0 rfl rfl dX7_advance_50 ?_
      refine lv_aload_n hx hb dX7_advance_53 rfl (lv_at hl 0 rfl) ?_
      refine gf_X7_15 X rfl hP 0 rfl rfl dX7_advance_54 ?_
      refine lv_icmp_ge (tgt := 90) hx hb dX7_advance_57 (by decide) (fun c_21 => ?_) (fun c_21 => ?_)
      · have hf := ift hf c_21
        exact hk_49 v_next_49 H locs ls hP hD hS (lv_sub hl [0] rfl) hf
      · have hf := iff_ hf c_21
        refine lv_aload_n hx hb dX7_advance_60 rfl (lv_at hl 0 rfl) ?_
        refine gf_X7_9 X rfl hP 0 rfl rfl dX7_advance_61 ?_
        refine lv_aload_n hx hb dX7_advance_64 rfl (lv_at hl 0 rfl) ?_
        refine gf_X7_19 X rfl hP 0 rfl rfl dX7_advance_65 ?_
        obtain ⟨r_22, hf_23, hf⟩ := obind hf
        refine gcV (rest := []) (wn := [oX7 h h_tape v_end v_next_49 v_next_0_7 v_kind v_code, oX10 h_tape h_tape_bytes v_tape_size, aI g h_tape_bytes 600 v_tape_bytes]) X hP hD hS hl (c_X10_byteAt l g h_tape h_tape_bytes v_tape_size v_tape_bytes v_next_49 r_22 hf_23) [1, 2] rfl rfl rfl [.inl 0, .inr 0, .inr 1] rfl rfl cd_X10_byteAt rfl im_X10_byteAt se_X10_byteAt ml_X7_22 1 rfl rfl rfl rfl rfl ⟨(Nat.le_of_ble_eq_true rfl), (Nat.le_of_ble_eq_true rfl)⟩ rfl (Nat.le_of_ble_eq_true rfl) dX7_advance_68 ⟨(Nat.le_of_ble_eq_true rfl), (Nat.le_of_ble_eq_true rfl)⟩ (fun H locs hP hD hS => ?_)
        obtain ⟨r_24, hf_25, hf⟩ := obind hf
        refine gcS (rest := []) (wn := [oX7 h h_tape v_end v_next_49 v_next_0_7 v_kind v_code, oX10 h_tape h_tape_bytes v_tape_size, aI g h_tape_bytes 600 v_tape_bytes]) X hP hD hS hl (c_X7_isLetterOrDigit l g r_22 r_24 hf_25) [] rfl rfl rfl [.inl 0, .inl 1, .inl 2] rfl rfl cd_X7_isLetterOrDigit rfl st_X7_isLetterOrDigit ml_X7_35 rfl rfl ⟨(Nat.le_of_ble_eq_true rfl), (Nat.le_of_ble_eq_true rfl)⟩ rfl (Nat.le_of_ble_eq_true rfl) dX7_advance_71 ⟨(Nat.le_of_ble_eq_true rfl), (Nat.le_of_ble_eq_true rfl)⟩ (fun H locs hP hD hS => ?_)
        refine lv_if_eq (tgt := 90) hx hb dX7_advance_74 (by decide) (fun c_26 => ?_) (fun c_26 => ?_)
        · have hf := ift hf c_26
          exact hk_49 v_next_49 H locs ls hP hD hS (lv_sub hl [0] rfl) hf
        · have hf := iff_ hf c_26
          refine lv_aload_n hx hb dX7_advance_77 rfl (lv_at hl 0 rfl) ?_
          refine lv_dup hx hb dX7_advance_78 rfl ?_
          refine gf_X7_19 X rfl hP 0 rfl rfl dX7_advance_79 ?_
          refine lv_iconst (v := 1) hx hb dX7_advance_82 (by decide) ?_
          refine lv_iadd hx hb dX7_advance_83 ?_
          refine pf_X7_19 X rfl hP hD hS 0 rfl (Nat.le_of_ble_eq_true rfl) dX7_advance_84 (fun H locs hP hD hS => ?_)
          have hP : va_P g.1 vwCl [oX7 h h_tape v_end (v_next_49 + (1 : Int32)) v_next_0_7 v_kind v_code, oX10 h_tape h_tape_bytes v_tape_size, aI g h_tape_bytes 600 v_tape_bytes] H := hP
          have hD : va_D A [oX7 h h_tape v_end (v_next_49 + (1 : Int32)) v_next_0_7 v_kind v_code, oX10 h_tape h_tape_bytes v_tape_size, aI g h_tape_bytes 600 v_tape_bytes] := hD
          refine lv_goto (tgt := 49) hx hb dX7_advance_87 (by decide) ?_
          exact ih_49 (v_next_49 + (1 : Int32)) H locs ls K_49 hP hD hS (lv_sub hl [0] rfl) hk_49 hf
  refine L_49 _ _ _ _ ls _ hP hD hS (lv_sub hl [0] rfl) (fun v_next_49_20 H locs ls hP hD hS hl hf => ?_) hf
  refine lv_aload_n hx hb dX7_advance_90 rfl (lv_at hl 0 rfl) ?_
  refine gf_X7_19 X rfl hP 0 rfl rfl dX7_advance_91 ?_
  refine lv_aload_n hx hb dX7_advance_94 rfl (lv_at hl 0 rfl) ?_
  refine gf_X7_32 X rfl hP 0 rfl rfl dX7_advance_95 ?_
  refine lv_icmp_le (tgt := 121) hx hb dX7_advance_98 (by decide) (fun c_27 => ?_) (fun c_27 => ?_)
  · have hf := ift hf c_27
    refine lv_aload_n hx hb dX7_advance_121 rfl (lv_at hl 0 rfl) ?_
    refine gf_X7_19 X rfl hP 0 rfl rfl dX7_advance_122 ?_
    refine lv_aload_n hx hb dX7_advance_125 rfl (lv_at hl 0 rfl) ?_
    refine gf_X7_15 X rfl hP 0 rfl rfl dX7_advance_126 ?_
    refine lv_icmp_ge (tgt := 163) hx hb dX7_advance_129 (by decide) (fun c_28 => ?_) (fun c_28 => ?_)
    · have hf := ift hf c_28
      refine lv_aload_n hx hb dX7_advance_163 rfl (lv_at hl 0 rfl) ?_
      refine lv_sipush (v := 514) hx hb dX7_advance_164 (by decide) ?_
      refine pf_X7_41 X rfl hP hD hS 0 rfl (Nat.le_of_ble_eq_true rfl) dX7_advance_167 (fun H locs hP hD hS => ?_)
      have hP : va_P g.1 vwCl [oX7 h h_tape v_end v_next_49_20 v_next_0_7 514 v_code, oX10 h_tape h_tape_bytes v_tape_size, aI g h_tape_bytes 600 v_tape_bytes] H := hP
      have hD : va_D A [oX7 h h_tape v_end v_next_49_20 v_next_0_7 514 v_code, oX10 h_tape h_tape_bytes v_tape_size, aI g h_tape_bytes 600 v_tape_bytes] := hD
      cases hf
      exact ret_v X hAe hP hD hS rfl dX7_advance_170
    · have hf := iff_ hf c_28
      refine lv_aload_n hx hb dX7_advance_132 rfl (lv_at hl 0 rfl) ?_
      refine lv_aload_n hx hb dX7_advance_133 rfl (lv_at hl 0 rfl) ?_
      refine gf_X7_9 X rfl hP 0 rfl rfl dX7_advance_134 ?_
      refine lv_aload_n hx hb dX7_advance_137 rfl (lv_at hl 0 rfl) ?_
      refine gf_X7_19 X rfl hP 0 rfl rfl dX7_advance_138 ?_
      obtain ⟨r_29, hf_30, hf⟩ := obind hf
      refine gcV (rest := [.ref h]) (wn := [oX7 h h_tape v_end v_next_49_20 v_next_0_7 v_kind v_code, oX10 h_tape h_tape_bytes v_tape_size, aI g h_tape_bytes 600 v_tape_bytes]) X hP hD hS hl (c_X10_byteAt l g h_tape h_tape_bytes v_tape_size v_tape_bytes v_next_49_20 r_29 hf_30) [1, 2] rfl rfl rfl [.inl 0, .inr 0, .inr 1] rfl rfl cd_X10_byteAt rfl im_X10_byteAt se_X10_byteAt ml_X7_22 1 rfl rfl rfl rfl rfl ⟨(Nat.le_of_ble_eq_true rfl), (Nat.le_of_ble_eq_true rfl)⟩ rfl (Nat.le_of_ble_eq_true rfl) dX7_advance_141 ⟨(Nat.le_of_ble_eq_true rfl), (Nat.le_of_ble_eq_true rfl)⟩ (fun H locs hP hD hS => ?_)
      obtain ⟨r_31, hf_32, hf⟩ := obind hf
      refine gcS (rest := [.ref h]) (wn := [oX7 h h_tape v_end v_next_49_20 v_next_0_7 v_kind v_code, oX10 h_tape h_tape_bytes v_tape_size, aI g h_tape_bytes 600 v_tape_bytes]) X hP hD hS hl (c_X7_kindOfSign l g r_29 r_31 hf_32) [] rfl rfl rfl [.inl 0, .inl 1, .inl 2] rfl rfl cd_X7_kindOfSign rfl st_X7_kindOfSign ml_X7_44 rfl rfl ⟨(Nat.le_of_ble_eq_true rfl), (Nat.le_of_ble_eq_true rfl)⟩ rfl (Nat.le_of_ble_eq_true rfl) dX7_advance_144 ⟨(Nat.le_of_ble_eq_true rfl), (Nat.le_of_ble_eq_true rfl)⟩ (fun H locs hP hD hS => ?_)
      refine pf_X7_41 X rfl hP hD hS 0 rfl (Nat.le_of_ble_eq_true rfl) dX7_advance_147 (fun H locs hP hD hS => ?_)
      have hP : va_P g.1 vwCl [oX7 h h_tape v_end v_next_49_20 v_next_0_7 r_31 v_code, oX10 h_tape h_tape_bytes v_tape_size, aI g h_tape_bytes 600 v_tape_bytes] H := hP
      have hD : va_D A [oX7 h h_tape v_end v_next_49_20 v_next_0_7 r_31 v_code, oX10 h_tape h_tape_bytes v_tape_size, aI g h_tape_bytes 600 v_tape_bytes] := hD
      refine lv_aload_n hx hb dX7_advance_150 rfl (lv_at hl 0 rfl) ?_
      refine lv_dup hx hb dX7_advance_151 rfl ?_
      refine gf_X7_19 X rfl hP 0 rfl rfl dX7_advance_152 ?_
      refine lv_iconst (v := 1) hx hb dX7_advance_155 (by decide) ?_
      refine lv_iadd hx hb dX7_advance_156 ?_
      refine pf_X7_19 X rfl hP hD hS 0 rfl (Nat.le_of_ble_eq_true rfl) dX7_advance_157 (fun H locs hP hD hS => ?_)
      have hP : va_P g.1 vwCl [oX7 h h_tape v_end (v_next_49_20 + (1 : Int32)) v_next_0_7 r_31 v_code, oX10 h_tape h_tape_bytes v_tape_size, aI g h_tape_bytes 600 v_tape_bytes] H := hP
      have hD : va_D A [oX7 h h_tape v_end (v_next_49_20 + (1 : Int32)) v_next_0_7 r_31 v_code, oX10 h_tape h_tape_bytes v_tape_size, aI g h_tape_bytes 600 v_tape_bytes] := hD
      refine lv_goto (tgt := 170) hx hb dX7_advance_160 (by decide) ?_
      cases hf
      exact ret_v X hAe hP hD hS rfl dX7_advance_170
  · have hf := iff_ hf c_27
    refine lv_aload_n hx hb dX7_advance_101 rfl (lv_at hl 0 rfl) ?_
    refine lv_aload_n hx hb dX7_advance_102 rfl (lv_at hl 0 rfl) ?_
    refine lv_aload_n hx hb dX7_advance_103 rfl (lv_at hl 0 rfl) ?_
    refine gf_X7_19 X rfl hP 0 rfl rfl dX7_advance_104 ?_
    refine lv_aload_n hx hb dX7_advance_107 rfl (lv_at hl 0 rfl) ?_
    refine gf_X7_32 X rfl hP 0 rfl rfl dX7_advance_108 ?_
    refine lv_isub hx hb dX7_advance_111 ?_
    obtain ⟨⟨r_33, v_code_34⟩, hf_35, hf⟩ := obind hf
    refine gcV (rest := [.ref h]) (wn := [oX7 h h_tape v_end v_next_49_20 v_next_0_7 v_kind v_code_34, oX10 h_tape h_tape_bytes v_tape_size, aI g h_tape_bytes 600 v_tape_bytes]) X hP hD hS hl (c_X7_kindOfRun l g h h_tape v_end v_next_49_20 v_next_0_7 v_kind v_code h_tape_bytes v_tape_size v_tape_bytes (v_next_49_20 - v_next_0_7) r_33 v_code_34 hf_35) [0, 1, 2] rfl rfl rfl [.inr 0, .inr 1, .inr 2] rfl rfl cd_X7_kindOfRun rfl im_X7_kindOfRun se_X7_kindOfRun ml_X7_38 0 rfl rfl rfl rfl rfl ⟨(Nat.le_of_ble_eq_true rfl), (Nat.le_of_ble_eq_true rfl)⟩ rfl (Nat.le_of_ble_eq_true rfl) dX7_advance_112 ⟨(Nat.le_of_ble_eq_true rfl), (Nat.le_of_ble_eq_true rfl)⟩ (fun H locs hP hD hS => ?_)
    refine pf_X7_41 X rfl hP hD hS 0 rfl (Nat.le_of_ble_eq_true rfl) dX7_advance_115 (fun H locs hP hD hS => ?_)
    have hP : va_P g.1 vwCl [oX7 h h_tape v_end v_next_49_20 v_next_0_7 r_33 v_code_34, oX10 h_tape h_tape_bytes v_tape_size, aI g h_tape_bytes 600 v_tape_bytes] H := hP
    have hD : va_D A [oX7 h h_tape v_end v_next_49_20 v_next_0_7 r_33 v_code_34, oX10 h_tape h_tape_bytes v_tape_size, aI g h_tape_bytes 600 v_tape_bytes] := hD
    refine lv_goto (tgt := 170) hx hb dX7_advance_118 (by decide) ?_
    cases hf
    exact ret_v X hAe hP hD hS rfl dX7_advance_170
