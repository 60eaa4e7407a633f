set_option maxRecDepth 100000 in
def P_init (Inv : InvT) : Prop := ∃ (z_1 : Int32) (z_2 : Int32) (z_3 : Nat → Int32) (z_4 : Nat → Int32) (z_5 : Nat → Int32) (z_6 : Nat → Int32) (z_7 : Int32) (z_8 : Nat → Int64) (z_9 : Nat → Int64) (z_10 : Int32) (z_11 : Int32) (z_12 : Nat → Int32) (z_13 : Nat → Int32) (z_14 : Nat → Int32) (z_15 : Nat → Int32) (z_16 : Int32) (z_17 : Nat → Int64) (z_18 : Nat → Int64) (z_20 : Nat → Int32) (z_21 : Nat → Int32) (z_22 : Nat → Int32) (z_23 : Nat → Int32) (z_24 : Nat → Int32), f_X11_init = some (z_1, z_2, z_3, z_4, z_5, z_6, z_7, z_8, z_9, z_10, z_11, z_12, z_13, z_14, z_15, z_16, z_17, z_18) ∧ f_X12_init = some (z_20, z_21, z_22, z_23, z_24) ∧ Inv 0 (fun _ => 0) 0 0 (fun _ => 0) (fun _ => 0) (fun _ => 0) (fun _ => 0) z_10 z_11 z_12 z_13 z_14 z_15 z_17 0 0 0 (fun _ => 0) 0 (fun _ => 0) 0 (-1) 0 (fun _ => 0) 0 0 (fun _ => 0) (fun _ => 0) (fun _ => 0) (fun _ => 0) 1 0 z_20 (fun _ => 0) (fun _ => 0) z_21 z_23 0 0 0 (fun _ => 0) 0 (fun _ => 0) 0 (-1)
theorem law_cmp {L i : Nat} (hL : L ≤ 3072) (hi : i ≤ L + 6) : Int32.ofNat L - 6 < nI i ↔ L < i + 6 := by
  rw [Int32.lt_iff_toInt_lt]
  have h1 : (Int32.ofNat L - 6).toInt = (L : Int) - 6 := pk_sub_toInt (a := L) (b := 6) (by omega) (by omega)
  rw [h1, nI_toInt (by omega)]
  omega
set_option maxHeartbeats 8000000 in
set_option maxRecDepth 100000 in
theorem law_loop {Inv : InvT} (hp_feed : P_feed Inv) (hp_read : P_read Inv) (hp_fault : P_fault Inv) (hp_truth : P_truth Inv) (hp_turn : P_turn Inv) (hp_move : P_move Inv) (hp_wins : P_wins Inv) (hp_moves : P_moves Inv) (hp_play : P_play Inv) (hp_undo : P_undo Inv) (hp_fixed : P_fixed Inv) (hp_turned : P_turned Inv) (hp_models : P_models Inv) (hp_write : P_write Inv) (hp_octet : P_octet Inv) (hp_look : P_look Inv) {p : Program} {l : Launch} {e : Env} {s : State} {m : MethodId} {below : List Frame} {meth : Method} {c : Code} {b L : Nat} {xs : Nat → Int32} {g : GT} (hL : L ≤ 3072) (X : CX g (fun q : Nat => s.heap.size ≤ q) p s m #[Value.ref b] meth c code 4 ret ⟨RL, meth.name, ""⟩) (hX : va_X b L xs s s.heap) (hbl : b < s.heap.size) {xq mq : Nat} : ∀ (n i : Nat) (H : Heap) (locs : List Loc) (ls : Array Slot), i ≤ L + 6 → L < i + 6 * n → LI Inv g (fun q : Nat => s.heap.size ≤ q) xq mq H → va_S (fun q : Nat => s.heap.size ≤ q) s.heap H locs → lv_has ls 4 [(0, .ref b), (1, .ref xq), (2, .ref mq), (3, .int (nI i))] → W p l e room_1 s m #[Value.ref b] below meth c H locs 72 28185 (lw_Z below #[Value.ref b] s) (F0 m 18 ls []) := by
  obtain ⟨hx, hb, hml, hr, hown, hts, hlk, hnm, hA, hG, hZ⟩ := id X
  have hbA : ¬ (fun q : Nat => s.heap.size ≤ q) b := Nat.not_le.mpr hbl
  intro n
  induction n with
  | zero =>
    intro i H locs ls h1 h2 hLI hS hl
    refine lv_iload_n hx hb dL_law_18 rfl (lv_at hl 3 rfl) ?_
    refine lv_aload_n hx hb dL_law_19 rfl (lv_at hl 0 rfl) ?_
    refine va_slen hx hb hX hbl hbA hS dL_law_20 ?_
    refine lv_bipush (v := 6) hx hb dL_law_21 (by decide) ?_
    refine lv_isub hx hb dL_law_23 ?_
    refine lv_icmp_gt (tgt := 466) hx hb dL_law_24 (by decide) (fun c_1 => ?_) (fun c_1 => absurd ((law_cmp hL h1).mpr (by omega)) c_1)
    refine lv_iconst (v := 1) hx hb dL_law_466 (by decide) ?_
    refine va_forget (fun q hq => hS.2.2 q hq) ?_
    exact lw_ret hx hb hr hlk dL_law_467
  | succ n ih =>
    intro i H locs ls h1 h2 hLI hS hl
    refine lv_iload_n hx hb dL_law_18 rfl (lv_at hl 3 rfl) ?_
    refine lv_aload_n hx hb dL_law_19 rfl (lv_at hl 0 rfl) ?_
    refine va_slen hx hb hX hbl hbA hS dL_law_20 ?_
    refine lv_bipush (v := 6) hx hb dL_law_21 (by decide) ?_
    refine lv_isub hx hb dL_law_23 ?_
    refine lv_icmp_gt (tgt := 466) hx hb dL_law_24 (by decide) (fun c_1 => ?_) (fun c_1 => ?_)
    · refine lv_iconst (v := 1) hx hb dL_law_466 (by decide) ?_
      refine va_forget (fun q hq => hS.2.2 q hq) ?_
      exact lw_ret hx hb hr hlk dL_law_467
    · have hi : i + 6 ≤ L := by
        rcases Nat.lt_or_ge L (i + 6) with q | q
        · exact absurd ((law_cmp hL h1).mpr q) c_1
        · exact q
      have h0 : vp_in (nI i) L := vp_in_nI (by omega) (by omega)
      have g1 : vp_in (nI i + 1) L := by rw [show nI i + 1 = nI (i + 1) from nI_add i 1]; exact vp_in_nI (by omega) (by omega)
      have g2 : vp_in (nI i + 2) L := by rw [show nI i + 2 = nI (i + 2) from nI_add i 2]; exact vp_in_nI (by omega) (by omega)
      have g3 : vp_in (nI i + 3) L := by rw [show nI i + 3 = nI (i + 3) from nI_add i 3]; exact vp_in_nI (by omega) (by omega)
      have g4 : vp_in (nI i + 4) L := by rw [show nI i + 4 = nI (i + 4) from nI_add i 4]; exact vp_in_nI (by omega) (by omega)
      have g5 : vp_in (nI i + 5) L := by rw [show nI i + 5 = nI (i + 5) from nI_add i 5]; exact vp_in_nI (by omega) (by omega)
      have hk : ∀ (H : Heap) (locs : List Loc), va_S (fun q : Nat => s.heap.size ≤ q) s.heap H locs → LI Inv g (fun q : Nat => s.heap.size ≤ q) xq mq H → W p l e room_1 s m #[Value.ref b] below meth c H locs 72 28185 (lw_Z below #[Value.ref b] s) (F0 m 460 ls []) := by
        intro H locs hS hLI
        refine lv_iinc (v := nI i + 6) (lv' := [(3, .int (nI i + 6)), (0, .ref b), (1, .ref xq), (2, .ref mq)]) hx hb dL_law_460 hl (k := 3) rfl rfl (by decide) rfl (fun ls hl => ?_)
        refine lv_goto (tgt := 18) hx hb dL_law_463 (by decide) ?_
        have e6 : nI i + 6 = nI (i + 6) := nI_add i 6
        rw [e6] at hl
        exact ih (i + 6) H locs ls (by omega) (by omega) hLI hS (lv_sub hl [1, 2, 3, 0] rfl)
      refine lv_aload_n hx hb dL_law_27 rfl (lv_at hl 0 rfl) ?_
      refine lv_iload_n hx hb dL_law_28 rfl (lv_at hl 3 rfl) ?_
      refine va_sld hx hb hX hbl hbA hS h0 dL_law_29 ?_
      refine lv_bipush (v := 15) hx hb dL_law_30 (by decide) ?_
      refine lv_iand hx hb dL_law_32 ?_
      generalize xs (nI i).toNatClampNeg &&& 15 = z
      by_cases e_0 : z = 0
      · refine lv_tableIn hx hb dL_law_33 (off := 79) (by rw [e_0] <;> decide) (by rw [e_0] <;> decide) (by rw [e_0] <;> rfl) (by decide) ?_ (tgt := 112)
        exact law_feed hp_feed X hX hbl hbA g1 g2 g3 g4 g5 hl hS hLI hk
      by_cases e_1 : z = 1
      · refine lv_tableIn hx hb dL_law_33 (off := 142) (by rw [e_1] <;> decide) (by rw [e_1] <;> decide) (by rw [e_1] <;> rfl) (by decide) ?_ (tgt := 175)
        exact law_read hp_read X hX hbl hbA g1 g2 g3 g4 g5 hl hS hLI hk
      by_cases e_2 : z = 2
      · refine lv_tableIn hx hb dL_law_33 (off := 165) (by rw [e_2] <;> decide) (by rw [e_2] <;> decide) (by rw [e_2] <;> rfl) (by decide) ?_ (tgt := 198)
        exact law_fault hp_fault X hX hbl hbA g1 g2 g3 g4 g5 hl hS hLI hk
      by_cases e_3 : z = 3
      · refine lv_tableIn hx hb dL_law_33 (off := 188) (by rw [e_3] <;> decide) (by rw [e_3] <;> decide) (by rw [e_3] <;> rfl) (by decide) ?_ (tgt := 221)
        exact law_truth hp_truth X hX hbl hbA g1 g2 g3 g4 g5 hl hS hLI hk
      by_cases e_4 : z = 4
      · refine lv_tableIn hx hb dL_law_33 (off := 201) (by rw [e_4] <;> decide) (by rw [e_4] <;> decide) (by rw [e_4] <;> rfl) (by decide) ?_ (tgt := 234)
        exact law_turn hp_turn X hX hbl hbA g1 g2 g3 g4 g5 hl hS hLI hk
      by_cases e_5 : z = 5
      · refine lv_tableIn hx hb dL_law_33 (off := 214) (by rw [e_5] <;> decide) (by rw [e_5] <;> decide) (by rw [e_5] <;> rfl) (by decide) ?_ (tgt := 247)
        exact law_move hp_move X hX hbl hbA g1 g2 g3 g4 g5 hl hS hLI hk
      by_cases e_6 : z = 6
      · refine lv_tableIn hx hb dL_law_33 (off := 227) (by rw [e_6] <;> decide) (by rw [e_6] <;> decide) (by rw [e_6] <;> rfl) (by decide) ?_ (tgt := 260)
        exact law_wins hp_wins X hX hbl hbA g1 g2 g3 g4 g5 hl hS hLI hk
      by_cases e_7 : z = 7
      · refine lv_tableIn hx hb dL_law_33 (off := 250) (by rw [e_7] <;> decide) (by rw [e_7] <;> decide) (by rw [e_7] <;> rfl) (by decide) ?_ (tgt := 283)
        exact law_moves hp_moves X hX hbl hbA g1 g2 g3 g4 g5 hl hS hLI hk
      by_cases e_8 : z = 8
      · refine lv_tableIn hx hb dL_law_33 (off := 263) (by rw [e_8] <;> decide) (by rw [e_8] <;> decide) (by rw [e_8] <;> rfl) (by decide) ?_ (tgt := 296)
        exact law_play hp_play X hX hbl hbA g1 g2 g3 g4 g5 hl hS hLI hk
      by_cases e_9 : z = 9
      · refine lv_tableIn hx hb dL_law_33 (off := 286) (by rw [e_9] <;> decide) (by rw [e_9] <;> decide) (by rw [e_9] <;> rfl) (by decide) ?_ (tgt := 319)
        exact law_undo hp_undo X hX hbl hbA g1 g2 g3 g4 g5 hl hS hLI hk
      by_cases e_10 : z = 10
      · refine lv_tableIn hx hb dL_law_33 (off := 299) (by rw [e_10] <;> decide) (by rw [e_10] <;> decide) (by rw [e_10] <;> rfl) (by decide) ?_ (tgt := 332)
        exact law_fixed hp_fixed X hX hbl hbA g1 g2 g3 g4 g5 hl hS hLI hk
      by_cases e_11 : z = 11
      · refine lv_tableIn hx hb dL_law_33 (off := 332) (by rw [e_11] <;> decide) (by rw [e_11] <;> decide) (by rw [e_11] <;> rfl) (by decide) ?_ (tgt := 365)
        exact law_turned hp_turned X hX hbl hbA g1 g2 g3 g4 g5 hl hS hLI hk
      by_cases e_12 : z = 12
      · refine lv_tableIn hx hb dL_law_33 (off := 355) (by rw [e_12] <;> decide) (by rw [e_12] <;> decide) (by rw [e_12] <;> rfl) (by decide) ?_ (tgt := 388)
        exact law_models hp_models X hX hbl hbA g1 g2 g3 g4 g5 hl hS hLI hk
      by_cases e_13 : z = 13
      · refine lv_tableIn hx hb dL_law_33 (off := 368) (by rw [e_13] <;> decide) (by rw [e_13] <;> decide) (by rw [e_13] <;> rfl) (by decide) ?_ (tgt := 401)
        exact law_write hp_write X hX hbl hbA g1 g2 g3 g4 g5 hl hS hLI hk
      by_cases e_14 : z = 14
      · refine lv_tableIn hx hb dL_law_33 (off := 381) (by rw [e_14] <;> decide) (by rw [e_14] <;> decide) (by rw [e_14] <;> rfl) (by decide) ?_ (tgt := 414)
        exact law_octet hp_octet X hX hbl hbA g1 g2 g3 g4 g5 hl hS hLI hk
      by_cases e_15 : z = 15
      · refine lv_tableIn hx hb dL_law_33 (off := 404) (by rw [e_15] <;> decide) (by rw [e_15] <;> decide) (by rw [e_15] <;> rfl) (by decide) ?_ (tgt := 437)
        exact law_look hp_look X hX hbl hbA g1 g2 g3 g4 g5 hl hS hLI hk
      have n_0 := lv_neT e_0 (a := 0) rfl
      have n_1 := lv_neT e_1 (a := 1) rfl
      have n_2 := lv_neT e_2 (a := 2) rfl
      have n_3 := lv_neT e_3 (a := 3) rfl
      have n_4 := lv_neT e_4 (a := 4) rfl
      have n_5 := lv_neT e_5 (a := 5) rfl
      have n_6 := lv_neT e_6 (a := 6) rfl
      have n_7 := lv_neT e_7 (a := 7) rfl
      have n_8 := lv_neT e_8 (a := 8) rfl
      have n_9 := lv_neT e_9 (a := 9) rfl
      have n_10 := lv_neT e_10 (a := 10) rfl
      have n_11 := lv_neT e_11 (a := 11) rfl
      have n_12 := lv_neT e_12 (a := 12) rfl
      have n_13 := lv_neT e_13 (a := 13) rfl
      have n_14 := lv_neT e_14 (a := 14) rfl
      have n_15 := lv_neT e_15 (a := 15) rfl
      refine lv_tableOut hx hb dL_law_33 (by omega) (by decide) ?_ (tgt := 460)
      exact hk H locs hS hLI
set_option maxHeartbeats 8000000 in
set_option maxRecDepth 100000 in
theorem whole_of {Inv : InvT} (hp_init : P_init Inv) (hp_feed : P_feed Inv) (hp_read : P_read Inv) (hp_fault : P_fault Inv) (hp_truth : P_truth Inv) (hp_turn : P_turn Inv) (hp_move : P_move Inv) (hp_wins : P_wins Inv) (hp_moves : P_moves Inv) (hp_play : P_play Inv) (hp_undo : P_undo Inv) (hp_fixed : P_fixed Inv) (hp_turned : P_turned Inv) (hp_models : P_models Inv) (hp_write : P_write Inv) (hp_octet : P_octet Inv) (hp_look : P_look Inv) {p : Program} {e : Env} {s : State} {m : MethodId} {below : List Frame} {meth : Method} {c : Code} (l : Launch) {b L : Nat} {xs : Nat → Int32} (hL : L ≤ 3072) (C0 : lw_At p s m meth c b L xs) : W p l e room_1 s m #[Value.ref b] below meth c s.heap [] 0 0 (lw_Z below #[Value.ref b] s) (entryFrame m ([Value.ref b] : List Value).toArray 4) := by
  obtain ⟨g, hG, hZ⟩ := law_G C0
  obtain ⟨hx, hb, hr, hml, hown, hts0, hX, hbl, hlocks, hgv⟩ := id C0
  obtain ⟨A, hAd⟩ : ∃ A : Nat → Prop, A = (fun q : Nat => s.heap.size ≤ q) := ⟨_, rfl⟩
  have X : CX g (fun q : Nat => s.heap.size ≤ q) p s m #[Value.ref b] meth c code 4 ret ⟨RL, meth.name, ""⟩ := ⟨hx, hb, hml, hr, hown, fun w hw => hts0 w (TG_tbl hw), hlocks, rfl, fun q h => h, hG, hZ⟩
  rw [← hAd] at X
  have hS : va_S A s.heap s.heap [] := va_S.rf
  have hP : va_P g.1 vwCl [] s.heap := fun k q h => by simp at h
  have hD : va_D A [] := ⟨fun i j p q h => by simp at h, fun k q h => by simp at h⟩
  have hl := lv_entry ([.ref b]) (n := 4) (Nat.le_of_ble_eq_true rfl)
  rw [lg_entry_eq]
  generalize (lg_sl ([.ref b]) ++ List.replicate (4 - (lg_sl ([.ref b])).length) Slot.unset).toArray = ls at hl ⊢
  have hl : lv_has ls 4 [(0, .ref b)] := hl
  obtain ⟨z_1, z_2, z_3, z_4, z_5, z_6, z_7, z_8, z_9, z_10, z_11, z_12, z_13, z_14, z_15, z_16, z_17, z_18, z_20, z_21, z_22, z_23, z_24, hf_19, hf_25, hI⟩ := hp_init
  refine nwo_X11 X cl_L_7 (Nat.le_of_ble_eq_true rfl) (Nat.le_of_ble_eq_true rfl) dL_law_0 hP hD hS (fun q1 H hP hD hS => ?_)
  refine W.widen (k := 1) (n := 8) (by decide) (by decide) ?_
  have hP : va_P g.1 vwCl [(q1, .inr (11, [.null, .null, .null, .null, .null, .null, .int 0, .int 0]))] H := hP
  have hD : va_D A [(q1, .inr (11, [.null, .null, .null, .null, .null, .null, .int 0, .int 0]))] := hD
  refine lv_dup hx hb dL_law_3 rfl ?_
  refine gcI (rest := [.ref q1]) (wr := []) X hP hD hS hl (c_X11_init l g q1 z_1 z_2 z_3 z_4 z_5 z_6 z_7 z_8 z_9 z_10 z_11 z_12 z_13 z_14 z_15 z_16 z_17 z_18 hf_19) [0] rfl rfl cd_X11_init rfl im_X11_init rfl ml_L_9 rfl rfl ⟨(Nat.le_of_ble_eq_true rfl), (Nat.le_of_ble_eq_true rfl)⟩ rfl (Nat.le_of_ble_eq_true rfl) dL_law_4 ⟨(Nat.le_of_ble_eq_true rfl), (Nat.le_of_ble_eq_true rfl)⟩ [] rfl rfl (by decide) (fun H locs w9 hw9 hP hD hS => ?_)
  obtain ⟨q2, q3, q4, q5, q6, q7, q8, q9, q10, q11, q12, q13, q14, q15, q16, q17, q18, q19, q20, q21, q22, q23, q24, q25, q26, q27, q28, q29, q30, q31, q32, q33, q34, q35, q36, q37, q38, q39, q40, q41, q42, q43, q44, q45, q46, rfl⟩ := hw9
  refine W.widen (k := 46) (n := 3527) (by decide) (by decide) ?_
  have hP : va_P g.1 vwCl [oX11 q1 q2 q4 q26 q28 q31 q33 0 (-1), oX10 q2 q3 0, aI g q3 600 (fun _ => 0), oX6 q4 q5 q20 q6 0, oX7 q5 q2 0 0 0 0 0, oX3 q6 q7 q12 q17, oX0 q7 q8 q9 q10 q11 0 0 0, aI g q8 6 (fun _ => 0), aI g q9 6 (fun _ => 0), aI g q10 10 (fun _ => 0), aI g q11 10 (fun _ => 0), oX2 q12 q13 q14 q15 q16 z_1 z_2, aI g q13 160 z_3, aI g q14 160 z_4, aI g q15 160 z_5, aI g q16 160 z_6, oX9 q17 q18 q19 z_7, aJ g q18 16 z_8, aJ g q19 160 z_9, oX1 q20 q21 q22 q23 q24 q25 q12 0 0 0 0, aI g q21 160 (fun _ => 0), aI g q22 160 (fun _ => 0), aI g q23 160 (fun _ => 0), aI g q24 160 (fun _ => 0), aI g q25 160 (fun _ => 0), oX4 q26 q27 0 0 0, aI g q27 6 (fun _ => 0), oX8 q28 q29 q30 0 0 0, aJ g q29 16 (fun _ => 0), aI g q30 10 (fun _ => 0), oX5 q31 q32 0, aI g q32 320 (fun _ => 0), oX3 q33 q34 q39 q44, oX0 q34 q35 q36 q37 q38 0 0 0, aI g q35 6 (fun _ => 0), aI g q36 6 (fun _ => 0), aI g q37 10 (fun _ => 0), aI g q38 10 (fun _ => 0), oX2 q39 q40 q41 q42 q43 z_10 z_11, aI g q40 160 z_12, aI g q41 160 z_13, aI g q42 160 z_14, aI g q43 160 z_15, oX9 q44 q45 q46 z_16, aJ g q45 16 z_17, aJ g q46 160 z_18] H := hP
  have hD : va_D A [oX11 q1 q2 q4 q26 q28 q31 q33 0 (-1), oX10 q2 q3 0, aI g q3 600 (fun _ => 0), oX6 q4 q5 q20 q6 0, oX7 q5 q2 0 0 0 0 0, oX3 q6 q7 q12 q17, oX0 q7 q8 q9 q10 q11 0 0 0, aI g q8 6 (fun _ => 0), aI g q9 6 (fun _ => 0), aI g q10 10 (fun _ => 0), aI g q11 10 (fun _ => 0), oX2 q12 q13 q14 q15 q16 z_1 z_2, aI g q13 160 z_3, aI g q14 160 z_4, aI g q15 160 z_5, aI g q16 160 z_6, oX9 q17 q18 q19 z_7, aJ g q18 16 z_8, aJ g q19 160 z_9, oX1 q20 q21 q22 q23 q24 q25 q12 0 0 0 0, aI g q21 160 (fun _ => 0), aI g q22 160 (fun _ => 0), aI g q23 160 (fun _ => 0), aI g q24 160 (fun _ => 0), aI g q25 160 (fun _ => 0), oX4 q26 q27 0 0 0, aI g q27 6 (fun _ => 0), oX8 q28 q29 q30 0 0 0, aJ g q29 16 (fun _ => 0), aI g q30 10 (fun _ => 0), oX5 q31 q32 0, aI g q32 320 (fun _ => 0), oX3 q33 q34 q39 q44, oX0 q34 q35 q36 q37 q38 0 0 0, aI g q35 6 (fun _ => 0), aI g q36 6 (fun _ => 0), aI g q37 10 (fun _ => 0), aI g q38 10 (fun _ => 0), oX2 q39 q40 q41 q42 q43 z_10 z_11, aI g q40 160 z_12, aI g q41 160 z_13, aI g q42 160 z_14, aI g q43 160 z_15, oX9 q44 q45 q46 z_16, aJ g q45 16 z_17, aJ g q46 160 z_18] := hD
  refine lv_astore_n (lv' := [(1, .ref q1), (0, .ref b)]) hx hb dL_law_7 rfl hl (by decide) rfl (fun ls hl => ?_)
  refine nwo_X12 X cl_L_10 (Nat.le_of_ble_eq_true rfl) (Nat.le_of_ble_eq_true rfl) dL_law_8 hP hD hS (fun q47 H hP hD hS => ?_)
  refine W.widen (k := 47) (n := 3577) (by decide) (by decide) ?_
  have hP : va_P g.1 vwCl [oX11 q1 q2 q4 q26 q28 q31 q33 0 (-1), oX10 q2 q3 0, aI g q3 600 (fun _ => 0), oX6 q4 q5 q20 q6 0, oX7 q5 q2 0 0 0 0 0, oX3 q6 q7 q12 q17, oX0 q7 q8 q9 q10 q11 0 0 0, aI g q8 6 (fun _ => 0), aI g q9 6 (fun _ => 0), aI g q10 10 (fun _ => 0), aI g q11 10 (fun _ => 0), oX2 q12 q13 q14 q15 q16 z_1 z_2, aI g q13 160 z_3, aI g q14 160 z_4, aI g q15 160 z_5, aI g q16 160 z_6, oX9 q17 q18 q19 z_7, aJ g q18 16 z_8, aJ g q19 160 z_9, oX1 q20 q21 q22 q23 q24 q25 q12 0 0 0 0, aI g q21 160 (fun _ => 0), aI g q22 160 (fun _ => 0), aI g q23 160 (fun _ => 0), aI g q24 160 (fun _ => 0), aI g q25 160 (fun _ => 0), oX4 q26 q27 0 0 0, aI g q27 6 (fun _ => 0), oX8 q28 q29 q30 0 0 0, aJ g q29 16 (fun _ => 0), aI g q30 10 (fun _ => 0), oX5 q31 q32 0, aI g q32 320 (fun _ => 0), oX3 q33 q34 q39 q44, oX0 q34 q35 q36 q37 q38 0 0 0, aI g q35 6 (fun _ => 0), aI g q36 6 (fun _ => 0), aI g q37 10 (fun _ => 0), aI g q38 10 (fun _ => 0), oX2 q39 q40 q41 q42 q43 z_10 z_11, aI g q40 160 z_12, aI g q41 160 z_13, aI g q42 160 z_14, aI g q43 160 z_15, oX9 q44 q45 q46 z_16, aJ g q45 16 z_17, aJ g q46 160 z_18, (q47, .inr (12, [.null, .int 0, .null, .int 0, .int 0, .int 0, .int 0, .int 0, .int 0, .int 0, .int 0, .int 0, .int 0, .null, .null, .null, .null, .int 0, .int 0, .null, .null, .null, .int 0, .int 0, .int 0, .int 0, .null, .null, .null, .null, .null, .null, .null, .null, .null, .int 0, .int 0, .int 0, .null, .null, .null, .null, .int 0, .int 0, .int 0, .null, .null, .int 0, .null, .int 0]))] H := hP
  have hD : va_D A [oX11 q1 q2 q4 q26 q28 q31 q33 0 (-1), oX10 q2 q3 0, aI g q3 600 (fun _ => 0), oX6 q4 q5 q20 q6 0, oX7 q5 q2 0 0 0 0 0, oX3 q6 q7 q12 q17, oX0 q7 q8 q9 q10 q11 0 0 0, aI g q8 6 (fun _ => 0), aI g q9 6 (fun _ => 0), aI g q10 10 (fun _ => 0), aI g q11 10 (fun _ => 0), oX2 q12 q13 q14 q15 q16 z_1 z_2, aI g q13 160 z_3, aI g q14 160 z_4, aI g q15 160 z_5, aI g q16 160 z_6, oX9 q17 q18 q19 z_7, aJ g q18 16 z_8, aJ g q19 160 z_9, oX1 q20 q21 q22 q23 q24 q25 q12 0 0 0 0, aI g q21 160 (fun _ => 0), aI g q22 160 (fun _ => 0), aI g q23 160 (fun _ => 0), aI g q24 160 (fun _ => 0), aI g q25 160 (fun _ => 0), oX4 q26 q27 0 0 0, aI g q27 6 (fun _ => 0), oX8 q28 q29 q30 0 0 0, aJ g q29 16 (fun _ => 0), aI g q30 10 (fun _ => 0), oX5 q31 q32 0, aI g q32 320 (fun _ => 0), oX3 q33 q34 q39 q44, oX0 q34 q35 q36 q37 q38 0 0 0, aI g q35 6 (fun _ => 0), aI g q36 6 (fun _ => 0), aI g q37 10 (fun _ => 0), aI g q38 10 (fun _ => 0), oX2 q39 q40 q41 q42 q43 z_10 z_11, aI g q40 160 z_12, aI g q41 160 z_13, aI g q42 160 z_14, aI g q43 160 z_15, oX9 q44 q45 q46 z_16, aJ g q45 16 z_17, aJ g q46 160 z_18, (q47, .inr (12, [.null, .int 0, .null, .int 0, .int 0, .int 0, .int 0, .int 0, .int 0, .int 0, .int 0, .int 0, .int 0, .null, .null, .null, .null, .int 0, .int 0, .null, .null, .null, .int 0, .int 0, .int 0, .int 0, .null, .null, .null, .null, .null, .null, .null, .null, .null, .int 0, .int 0, .int 0, .null, .null, .null, .null, .int 0, .int 0, .int 0, .null, .null, .int 0, .null, .int 0]))] := hD
  refine lv_dup hx hb dL_law_11 rfl ?_
  refine gcI (rest := [.ref q47]) (wr := [oX11 q1 q2 q4 q26 q28 q31 q33 0 (-1), oX10 q2 q3 0, aI g q3 600 (fun _ => 0), oX6 q4 q5 q20 q6 0, oX7 q5 q2 0 0 0 0 0, oX3 q6 q7 q12 q17, oX0 q7 q8 q9 q10 q11 0 0 0, aI g q8 6 (fun _ => 0), aI g q9 6 (fun _ => 0), aI g q10 10 (fun _ => 0), aI g q11 10 (fun _ => 0), oX2 q12 q13 q14 q15 q16 z_1 z_2, aI g q13 160 z_3, aI g q14 160 z_4, aI g q15 160 z_5, aI g q16 160 z_6, oX9 q17 q18 q19 z_7, aJ g q18 16 z_8, aJ g q19 160 z_9, oX1 q20 q21 q22 q23 q24 q25 q12 0 0 0 0, aI g q21 160 (fun _ => 0), aI g q22 160 (fun _ => 0), aI g q23 160 (fun _ => 0), aI g q24 160 (fun _ => 0), aI g q25 160 (fun _ => 0), oX4 q26 q27 0 0 0, aI g q27 6 (fun _ => 0), oX8 q28 q29 q30 0 0 0, aJ g q29 16 (fun _ => 0), aI g q30 10 (fun _ => 0), oX5 q31 q32 0, aI g q32 320 (fun _ => 0), oX3 q33 q34 q39 q44, oX0 q34 q35 q36 q37 q38 0 0 0, aI g q35 6 (fun _ => 0), aI g q36 6 (fun _ => 0), aI g q37 10 (fun _ => 0), aI g q38 10 (fun _ => 0), oX2 q39 q40 q41 q42 q43 z_10 z_11, aI g q40 160 z_12, aI g q41 160 z_13, aI g q42 160 z_14, aI g q43 160 z_15, oX9 q44 q45 q46 z_16, aJ g q45 16 z_17, aJ g q46 160 z_18]) X hP hD hS hl (c_X12_init l g q47 z_20 z_21 z_22 z_23 z_24 hf_25) [46] rfl rfl cd_X12_init rfl im_X12_init rfl ml_L_12 rfl rfl ⟨(Nat.le_of_ble_eq_true rfl), (Nat.le_of_ble_eq_true rfl)⟩ rfl (Nat.le_of_ble_eq_true rfl) dL_law_12 ⟨(Nat.le_of_ble_eq_true rfl), (Nat.le_of_ble_eq_true rfl)⟩ [0, 1, 2, 3, 4, 5, 6, 7, 8, 9, 10, 11, 12, 13, 14, 15, 16, 17, 18, 19, 20, 21, 22, 23, 24, 25, 26, 27, 28, 29, 30, 31, 32, 33, 34, 35, 36, 37, 38, 39, 40, 41, 42, 43, 44, 45] rfl rfl (by decide) (fun H locs w9 hw9 hP hD hS => ?_)
  obtain ⟨q48, q49, q50, q51, q52, q53, q54, q55, q56, q57, q58, q59, q60, q61, q62, q63, q64, q65, q66, q67, q68, q69, q70, q71, q72, rfl⟩ := hw9
  refine W.widen (k := 72) (n := 28185) (by decide) (by decide) ?_
  have hP : va_P g.1 vwCl [oX11 q1 q2 q4 q26 q28 q31 q33 0 (-1), oX10 q2 q3 0, aI g q3 600 (fun _ => 0), oX6 q4 q5 q20 q6 0, oX7 q5 q2 0 0 0 0 0, oX3 q6 q7 q12 q17, oX0 q7 q8 q9 q10 q11 0 0 0, aI g q8 6 (fun _ => 0), aI g q9 6 (fun _ => 0), aI g q10 10 (fun _ => 0), aI g q11 10 (fun _ => 0), oX2 q12 q13 q14 q15 q16 z_1 z_2, aI g q13 160 z_3, aI g q14 160 z_4, aI g q15 160 z_5, aI g q16 160 z_6, oX9 q17 q18 q19 z_7, aJ g q18 16 z_8, aJ g q19 160 z_9, oX1 q20 q21 q22 q23 q24 q25 q12 0 0 0 0, aI g q21 160 (fun _ => 0), aI g q22 160 (fun _ => 0), aI g q23 160 (fun _ => 0), aI g q24 160 (fun _ => 0), aI g q25 160 (fun _ => 0), oX4 q26 q27 0 0 0, aI g q27 6 (fun _ => 0), oX8 q28 q29 q30 0 0 0, aJ g q29 16 (fun _ => 0), aI g q30 10 (fun _ => 0), oX5 q31 q32 0, aI g q32 320 (fun _ => 0), oX3 q33 q34 q39 q44, oX0 q34 q35 q36 q37 q38 0 0 0, aI g q35 6 (fun _ => 0), aI g q36 6 (fun _ => 0), aI g q37 10 (fun _ => 0), aI g q38 10 (fun _ => 0), oX2 q39 q40 q41 q42 q43 z_10 z_11, aI g q40 160 z_12, aI g q41 160 z_13, aI g q42 160 z_14, aI g q43 160 z_15, oX9 q44 q45 q46 z_16, aJ g q45 16 z_17, aJ g q46 160 z_18, oX12 q47 q48 0 q49 0 0 0 0 0 0 0 (-1) 0 0 q50 q51 q52 q53 1 0 q54 q55 q56 0 0 0 0 q57 q58 q59 q60 q61 q62 q63 q64 q65 0 0 0 q66 q67 q68 q69 0 0 0 q70 q71 0 q72 0, aB g q48 600 (fun _ => 0), aB g q49 601 (fun _ => 0), aI g q50 12 (fun _ => 0), aI g q51 12 (fun _ => 0), aI g q52 6 (fun _ => 0), aZ g q53 6 (fun _ => 0), aI g q54 161 z_20, aI g q55 161 (fun _ => 0), aI g q56 161 (fun _ => 0), aI g q57 12 (fun _ => 0), aI g q58 12 (fun _ => 0), aI g q59 6 (fun _ => 0), aZ g q60 6 (fun _ => 0), aI g q61 161 (fun _ => 0), aI g q62 161 (fun _ => 0), aI g q63 161 (fun _ => 0), aI g q64 161 (fun _ => 0), aI g q65 161 (fun _ => 0), aZ g q66 4096 z_21, aZ g q67 8192 z_22, aZ g q68 8192 z_23, aZ g q69 161 z_24, aI g q70 6 (fun _ => 0), aB g q71 700 (fun _ => 0), aI g q72 700 (fun _ => 0)] H := hP
  have hD : va_D A [oX11 q1 q2 q4 q26 q28 q31 q33 0 (-1), oX10 q2 q3 0, aI g q3 600 (fun _ => 0), oX6 q4 q5 q20 q6 0, oX7 q5 q2 0 0 0 0 0, oX3 q6 q7 q12 q17, oX0 q7 q8 q9 q10 q11 0 0 0, aI g q8 6 (fun _ => 0), aI g q9 6 (fun _ => 0), aI g q10 10 (fun _ => 0), aI g q11 10 (fun _ => 0), oX2 q12 q13 q14 q15 q16 z_1 z_2, aI g q13 160 z_3, aI g q14 160 z_4, aI g q15 160 z_5, aI g q16 160 z_6, oX9 q17 q18 q19 z_7, aJ g q18 16 z_8, aJ g q19 160 z_9, oX1 q20 q21 q22 q23 q24 q25 q12 0 0 0 0, aI g q21 160 (fun _ => 0), aI g q22 160 (fun _ => 0), aI g q23 160 (fun _ => 0), aI g q24 160 (fun _ => 0), aI g q25 160 (fun _ => 0), oX4 q26 q27 0 0 0, aI g q27 6 (fun _ => 0), oX8 q28 q29 q30 0 0 0, aJ g q29 16 (fun _ => 0), aI g q30 10 (fun _ => 0), oX5 q31 q32 0, aI g q32 320 (fun _ => 0), oX3 q33 q34 q39 q44, oX0 q34 q35 q36 q37 q38 0 0 0, aI g q35 6 (fun _ => 0), aI g q36 6 (fun _ => 0), aI g q37 10 (fun _ => 0), aI g q38 10 (fun _ => 0), oX2 q39 q40 q41 q42 q43 z_10 z_11, aI g q40 160 z_12, aI g q41 160 z_13, aI g q42 160 z_14, aI g q43 160 z_15, oX9 q44 q45 q46 z_16, aJ g q45 16 z_17, aJ g q46 160 z_18, oX12 q47 q48 0 q49 0 0 0 0 0 0 0 (-1) 0 0 q50 q51 q52 q53 1 0 q54 q55 q56 0 0 0 0 q57 q58 q59 q60 q61 q62 q63 q64 q65 0 0 0 q66 q67 q68 q69 0 0 0 q70 q71 0 q72 0, aB g q48 600 (fun _ => 0), aB g q49 601 (fun _ => 0), aI g q50 12 (fun _ => 0), aI g q51 12 (fun _ => 0), aI g q52 6 (fun _ => 0), aZ g q53 6 (fun _ => 0), aI g q54 161 z_20, aI g q55 161 (fun _ => 0), aI g q56 161 (fun _ => 0), aI g q57 12 (fun _ => 0), aI g q58 12 (fun _ => 0), aI g q59 6 (fun _ => 0), aZ g q60 6 (fun _ => 0), aI g q61 161 (fun _ => 0), aI g q62 161 (fun _ => 0), aI g q63 161 (fun _ => 0), aI g q64 161 (fun _ => 0), aI g q65 161 (fun _ => 0), aZ g q66 4096 z_21, aZ g q67 8192 z_22, aZ g q68 8192 z_23, aZ g q69 161 z_24, aI g q70 6 (fun _ => 0), aB g q71 700 (fun _ => 0), aI g q72 700 (fun _ => 0)] := hD
  refine lv_astore_n (lv' := [(2, .ref q47), (1, .ref q1), (0, .ref b)]) hx hb dL_law_15 rfl hl (by decide) rfl (fun ls hl => ?_)
  refine lv_iconst (v := 0) hx hb dL_law_16 (by decide) ?_
  refine lv_istore_n (lv' := [(3, .int 0), (2, .ref q47), (1, .ref q1), (0, .ref b)]) hx hb dL_law_17 rfl hl (by decide) rfl (fun ls hl => ?_)
  have hLI : LI Inv g A q1 q47 H := ⟨fun k => [q2, q4, q26, q28, q31, q33, q3, q5, q20, q6, q21, q22, q23, q24, q25, q12, q7, q12, q17, q8, q9, q10, q11, q13, q14, q15, q16, q18, q19, q27, q29, q30, q32, q34, q39, q44, q35, q36, q37, q38, q40, q41, q42, q43, q45, q46, q48, q49, q50, q51, q52, q53, q54, q55, q56, q57, q58, q59, q60, q61, q62, q63, q64, q65, q66, q67, q68, q69, q70, q71, q72].getD k 0, fun k => [0, (-1), 0, 0, 0, 0, 0, 0, 0, 0, 0, 0, 0, 0, 0, 0, z_1, z_2, z_7, 0, 0, 0, 0, 0, 0, 0, 0, 0, 0, z_10, z_11, z_16, 0, 0, 0, 0, 0, 0, 0, 0, (-1), 0, 0, 1, 0, 0, 0, 0, 0, 0, 0, 0, 0, 0, 0, 0, 0].getD k 0, fun k => [(fun _ => 0), (fun _ => 0), (fun _ => 0), (fun _ => 0), (fun _ => 0), (fun _ => 0), (fun _ => 0), (fun _ => 0), (fun _ => 0), (fun _ => 0), z_3, z_4, z_5, z_6, (fun _ => 0), (fun _ => 0), (fun _ => 0), (fun _ => 0), (fun _ => 0), (fun _ => 0), (fun _ => 0), z_12, z_13, z_14, z_15, (fun _ => 0), (fun _ => 0), (fun _ => 0), (fun _ => 0), (fun _ => 0), (fun _ => 0), z_20, (fun _ => 0), (fun _ => 0), (fun _ => 0), (fun _ => 0), (fun _ => 0), (fun _ => 0), (fun _ => 0), (fun _ => 0), (fun _ => 0), (fun _ => 0), (fun _ => 0), z_21, z_22, z_23, z_24, (fun _ => 0), (fun _ => 0), (fun _ => 0)].getD k (fun _ => 0), fun k => [z_8, z_9, (fun _ => 0), z_17, z_18].getD k (fun _ => 0), hP.sub [0, 1, 2, 3, 4, 19, 20, 21, 22, 23, 24, 5, 6, 7, 8, 9, 10, 11, 12, 13, 14, 15, 16, 17, 18, 25, 26, 27, 28, 29, 30, 31, 32, 33, 34, 35, 36, 37, 38, 39, 40, 41, 42, 43, 44, 45, 46, 47, 48, 49, 50, 51, 52, 53, 54, 55, 56, 57, 58, 59, 60, 61, 62, 63, 64, 65, 66, 67, 68, 69, 70, 71] rfl, hD.sub [0, 1, 2, 3, 4, 19, 20, 21, 22, 23, 24, 5, 6, 7, 8, 9, 10, 11, 12, 13, 14, 15, 16, 17, 18, 25, 26, 27, 28, 29, 30, 31, 32, 33, 34, 35, 36, 37, 38, 39, 40, 41, 42, 43, 44, 45, 46, 47, 48, 49, 50, 51, 52, 53, 54, 55, 56, 57, 58, 59, 60, 61, 62, 63, 64, 65, 66, 67, 68, 69, 70, 71] (by decide) rfl, hI⟩
  subst hAd
  refine W.widen (k := 72) (n := 28185) (Nat.le_refl _) (Nat.le_refl _) ?_
  exact law_loop hp_feed hp_read hp_fault hp_truth hp_turn hp_move hp_wins hp_moves hp_play hp_undo hp_fixed hp_turned hp_models hp_write hp_octet hp_look hL X hX hbl (L + 1) 0 _ _ ls (by omega) (by omega) hLI hS (lv_sub hl [3, 2, 1, 0] rfl)
