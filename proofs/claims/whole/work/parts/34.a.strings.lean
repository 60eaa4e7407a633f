theorem js_len : ∀ w, w < 2 → lenJS.getD w 0 < 100 := by decide
section STR
variable {p : Program} {l : Launch} {e : Env} {R : Room} {s : State} {m : MethodId} {args : Array Value} {below : List Frame} {meth : Method} {c : Code} {H : Heap} {locs : List Loc} {cells slots : Nat} {Q : State → Prop}
variable {g : GT} {A : Nat → Prop} {bc : ByteArray} {nL : Nat} {rt : Option FieldType} {y0 : MethodName} {pc : Nat} {ls : Array Slot} {ws : va_W} {lv : List (Nat × Value)}
theorem ret_n {w w' : va_W} {v : Int32} {ty : FieldType} (X : CX g A p s m args meth c bc nL rt y0) (hAe : va_A w s.heap.size = A) (hP : va_P g.1 vwCl w' H) (hD : va_D A w') (hS : va_S A s.heap H locs) (hrt : rt = some ty) (hn : narrow ty (.int v) = .int v) (hdg : decode bc pc = .ok (.ireturn, 1)) : W p l e R s m args below meth c H locs 0 0 (MQ below (fun _ => QW g w s.heap.size (some (.int v)) w') args s 0 0 (va_A w s.heap.size)) (F0 m pc ls [.int v]) := by
  obtain ⟨hx, hb, hml, hr, hown, hts, hlo, hnm, hA, hG, hZ⟩ := X
  subst hAe
  exact W.zret (v := v) hx hb (hr.trans hrt) hn (fun t ht hW => ⟨rfl, ⟨by rw [ht]; exact hP, hD⟩, hS.F ht⟩) hS.2.2 hdg hlo
/-- a call of a method of an object that nobody writes -/
theorem gcO {y : MethodName} {b2 : ByteArray} {n2 k : Nat} {r2 : Option FieldType} {rm : Room} {index : Nat} {a : Nat} {As rest : List Value} {ov : Option Value} {st0 : List Value} (X : CX g A p s m args meth c bc nL rt y0) (hP : va_P g.1 vwCl ws H) (hD : va_D A ws) (hS : va_S A s.heap H locs) (hl : lv_has ls nL lv)
    (K : Con l g y b2 n2 r2 rm (.ref a :: As) [] ov [])
    (cd : Card y b2 n2 r2 k) (hk : As.length = k) (hin : Cond.instanceMethod y ∈ TG) (hse : Cond.selects y.cls y y ∈ TG) (hlk : Cond.methodLink y0.cls index y ∈ TG) (hrec : ∃ cell : Cell, H[a]? = some cell ∧ cell.vm.isStatics = false ∧ s.vm.findClass y.cls = some cell.cls)
    (hc : rm.cells = 0) (hs : rm.slots = 0) (hR : rm.frames + 1 ≤ R.frames ∧ 8 + (n2 + 11) + rm.locals ≤ R.locals) (hst : st0 = As.reverse ++ .ref a :: rest) (hrest : (rest.map fun v => v.category).sum ≤ 8) (hdg : decode bc pc = .ok (.invokevirtual index, 3)) (hf : cells ≤ R.cells ∧ slots ≤ R.slots)
    (kk : ∀ (H1 : Heap) (locs1 : List Loc), va_P g.1 vwCl ws H1 → va_D A ws → va_S A s.heap H1 locs1 → W p l e R s m args below meth c H1 locs1 cells slots Q (F0 m (pc + 3) ls (ov.toList ++ rest))) :
    W p l e R s m args below meth c H locs cells slots Q (F0 m pc ls st0) := by
  obtain ⟨hx, hb, hml, hr, hown, hts, hlo, hnm, hA, hG, hZ⟩ := id X
  have hF := va_free (wc := []) hD hS hA [] rfl
  exact call_on (y := y) hP hD hS [] rfl rfl hF (va_runV (As := As) (rest := rest) ⟨hx, hb, hml, hown, hts⟩ (K H.size) ⟨card_B X cd hlk hc hs hR, hts _ hin, hts _ hse⟩ ⟨PW_blind, hrec, pre_call X hP hD hS [] rfl rfl hF⟩ rfl hk hl.1 hst (lv_room hrest) hdg hf) kk
theorem str_rec (hZ : ZS g A s s.heap) (hS : va_S A s.heap H locs) {w : Nat} (hw : w < 2) : ∃ cell : Cell, H[g.2.2 (w + 1)]? = some cell ∧ cell.vm.isStatics = false ∧ s.vm.findClass "java/lang/String" = some cell.cls := by
  obtain ⟨cell, h1, h2, h3, -⟩ := ((hZ.2.2.2.1.1 w hw).1).kept hS.2.1
  exact ⟨cell, h1, h2, h3⟩
end STR
theorem c_J0_coder (l : Launch) (g : GT) (w : Nat) (hw : w < 2) : Con l g yJ0_coder_7d493 cJ0_coder_7d493 1 (some .byte) ({ frames := 0, cells := 0, slots := 0, locals := 0 }) [.ref (g.2.2 (w + 1))] [] (some (.int 0)) [] := by
  refine Con.of (by decide) (Nat.le_of_ble_eq_true rfl) ?_
  intro p e s m below meth c A ls hAe X hP hD hS hl
  obtain ⟨hx, hb, hml, hr, hown, hts, hlk, hnm, hA, hG, hZ⟩ := id X
  have hown : s.vm.findClass RJ0 = some m.cls := hown
  have hl : lv_has ls 1 [(0, .ref (g.2.2 (w + 1)))] := hl
  refine va_gets hx hb hZ.2.2.1 hS hown (hts _ fl_J0_38) (fun _ h9 => h9) dJ0_coder_7d493_0 ?_
  refine lv_if_eq (tgt := 13) hx hb dJ0_coder_7d493_3 (by decide) (fun c_1 => absurd c_1 (by decide)) (fun c_1 => ?_)
  refine lv_aload_n hx hb dJ0_coder_7d493_6 rfl (lv_at hl 0 rfl) ?_
  refine vk_getf hx hb (hZ.2.2.2.1.1 w hw).2.1 hS hown (hts _ fl_J0_15) (fun _ h9 => h9) dJ0_coder_7d493_7 ?_
  refine lv_goto (tgt := 14) hx hb dJ0_coder_7d493_10 (by decide) ?_
  exact ret_n X hAe hP hD hS rfl rfl dJ0_coder_7d493_14
theorem c_J0_isLatin1 (l : Launch) (g : GT) (w : Nat) (hw : w < 2) : Con l g yJ0_isLatin1_aae02 cJ0_isLatin1_aae02 1 (some .boolean) ({ frames := 0, cells := 0, slots := 0, locals := 0 }) [.ref (g.2.2 (w + 1))] [] (some (.int 1)) [] := by
  refine Con.of (by decide) (Nat.le_of_ble_eq_true rfl) ?_
  intro p e s m below meth c A ls hAe X hP hD hS hl
  obtain ⟨hx, hb, hml, hr, hown, hts, hlk, hnm, hA, hG, hZ⟩ := id X
  have hown : s.vm.findClass RJ0 = some m.cls := hown
  have hl : lv_has ls 1 [(0, .ref (g.2.2 (w + 1)))] := hl
  refine va_gets hx hb hZ.2.2.1 hS hown (hts _ fl_J0_38) (fun _ h9 => h9) dJ0_isLatin1_aae02_0 ?_
  refine lv_if_eq (tgt := 17) hx hb dJ0_isLatin1_aae02_3 (by decide) (fun c_1 => absurd c_1 (by decide)) (fun c_1 => ?_)
  refine lv_aload_n hx hb dJ0_isLatin1_aae02_6 rfl (lv_at hl 0 rfl) ?_
  refine vk_getf hx hb (hZ.2.2.2.1.1 w hw).2.1 hS hown (hts _ fl_J0_15) (fun _ h9 => h9) dJ0_isLatin1_aae02_7 ?_
  refine lv_if_ne (tgt := 17) hx hb dJ0_isLatin1_aae02_10 (by decide) (fun c_1 => absurd rfl c_1) (fun c_1 => ?_)
  refine lv_iconst (v := 1) hx hb dJ0_isLatin1_aae02_13 (by decide) ?_
  refine lv_goto (tgt := 18) hx hb dJ0_isLatin1_aae02_14 (by decide) ?_
  exact ret_n X hAe hP hD hS rfl rfl dJ0_isLatin1_aae02_18
theorem c_J0_length (l : Launch) (g : GT) (w : Nat) (hw : w < 2) : Con l g yJ0_length_8abf5 cJ0_length_8abf5 1 (some .int) ({ frames := 1, cells := 0, slots := 0, locals := 20 }) [.ref (g.2.2 (w + 1))] [] (some (.int (nI (lenJS.getD w 0)))) [] := by
  refine Con.of (by decide) (Nat.le_of_ble_eq_true rfl) ?_
  intro p e s m below meth c A ls hAe X hP hD hS hl
  obtain ⟨hx, hb, hml, hr, hown, hts, hlk, hnm, hA, hG, hZ⟩ := id X
  have hown : s.vm.findClass RJ0 = some m.cls := hown
  have hl : lv_has ls 1 [(0, .ref (g.2.2 (w + 1)))] := hl
  refine lv_aload_n hx hb dJ0_length_8abf5_0 rfl (lv_at hl 0 rfl) ?_
  refine vk_getf hx hb (hZ.2.2.2.1.1 w hw).2.2.1 hS hown (hts _ fl_J0_9) (fun _ h9 => h9) dJ0_length_8abf5_1 ?_
  refine va_tlen (v := nI (lenJS.getD w 0)) hx hb (hZ.2.2.2.1.1 w hw).2.2.2 hS rfl dJ0_length_8abf5_4 ?_
  refine lv_aload_n hx hb dJ0_length_8abf5_5 rfl (lv_at hl 0 rfl) ?_
  refine gcO (rest := [.int (nI (lenJS.getD w 0))]) X hP hD hS hl (c_J0_coder l g w hw) cd_J0_coder_7d493 rfl im_J0_coder_7d493 se_J0_coder_7d493 ml_J0_335 (str_rec hZ hS hw) rfl rfl ⟨(Nat.le_of_ble_eq_true rfl), (Nat.le_of_ble_eq_true rfl)⟩ rfl (Nat.le_of_ble_eq_true rfl) dJ0_length_8abf5_6 ⟨Nat.zero_le _, Nat.zero_le _⟩ (fun H locs hP hD hS => ?_)
  refine lv_ishr hx hb dJ0_length_8abf5_9 ?_
  have hz : nI (lenJS.getD w 0) >>> ((0 : Int32) &&& 31) = nI (lenJS.getD w 0) := sc_shr0 (by have := js_len w hw; omega)
  rw [hz]
  exact ret_i X hAe hP hD hS rfl dJ0_length_8abf5_10
theorem c_J3_checkIndex (l : Launch) (g : GT) (i n : Int32) (v : Value) (hv : v = .null ∨ ∃ a, v = .ref a) (h0 : ¬ i < 0) (h1 : i < n) : Con l g yJ3_checkIndex_8e157 cJ3_checkIndex_8e157 3 (some .int) ({ frames := 0, cells := 0, slots := 0, locals := 0 }) [.int i, .int n, v] [] (some (.int i)) [] := by
  have hcat : v.category = 1 := by rcases hv with rfl | ⟨a, rfl⟩ <;> rfl
  refine Con.of (by decide) ?_ ?_
  · rcases hv with rfl | ⟨a, rfl⟩ <;> exact Nat.le_of_ble_eq_true rfl
  intro p e s m below meth c A ls hAe X hP hD hS hl
  obtain ⟨hx, hb, hml, hr, hown, hts, hlk, hnm, hA, hG, hZ⟩ := id X
  have hl : lv_has ls 3 [(0, .int i), (1, .int n)] := lv_sub hl [0, 1] rfl
  refine lv_iload_n hx hb dJ3_checkIndex_8e157_0 rfl (lv_at hl 0 rfl) ?_
  refine lv_if_lt (tgt := 9) hx hb dJ3_checkIndex_8e157_1 (by decide) (fun c_1 => absurd c_1 h0) (fun c_1 => ?_)
  refine lv_iload_n hx hb dJ3_checkIndex_8e157_4 rfl (lv_at hl 0 rfl) ?_
  refine lv_iload_n hx hb dJ3_checkIndex_8e157_5 rfl (lv_at hl 1 rfl) ?_
  refine lv_icmp_lt (tgt := 16) hx hb dJ3_checkIndex_8e157_6 (by decide) (fun c_1 => ?_) (fun c_1 => absurd h1 c_1)
  refine lv_iload_n hx hb dJ3_checkIndex_8e157_16 rfl (lv_at hl 0 rfl) ?_
  exact ret_i X hAe hP hD hS rfl dJ3_checkIndex_8e157_17
theorem c_J0_checkIndex (l : Launch) (g : GT) (i n : Int32) (h0 : ¬ i < 0) (h1 : i < n) : Con l g yJ0_checkIndex_df160 cJ0_checkIndex_df160 2 none ({ frames := 1, cells := 0, slots := 0, locals := 22 }) [.int i, .int n] [] none [] := by
  refine Con.of (by decide) (Nat.le_of_ble_eq_true rfl) ?_
  intro p e s m below meth c A ls hAe X hP hD hS hl
  obtain ⟨hx, hb, hml, hr, hown, hts, hlk, hnm, hA, hG, hZ⟩ := id X
  have hown : s.vm.findClass RJ0 = some m.cls := hown
  have hl : lv_has ls 2 [(0, .int i), (1, .int n)] := hl
  refine lv_iload_n hx hb dJ0_checkIndex_df160_0 rfl (lv_at hl 0 rfl) ?_
  refine lv_iload_n hx hb dJ0_checkIndex_df160_1 rfl (lv_at hl 1 rfl) ?_
  rcases hZ.2.2.2.2 with hz | ⟨t, hz⟩
  · refine va_gets hx hb hz hS hown (hts _ fl_J0_1053) (fun _ h9 => h9) dJ0_checkIndex_df160_2 ?_
    refine gcS (rest := []) (wn := []) X hP hD hS hl (c_J3_checkIndex l g i n .null (Or.inl rfl) h0 h1) [] rfl rfl rfl [] rfl rfl cd_J3_checkIndex_8e157 rfl st_J3_checkIndex_8e157 ml_J0_1059 rfl rfl ⟨(Nat.le_of_ble_eq_true rfl), (Nat.le_of_ble_eq_true rfl)⟩ rfl (Nat.le_of_ble_eq_true rfl) dJ0_checkIndex_df160_5 ⟨Nat.zero_le _, Nat.zero_le _⟩ (fun H locs hP hD hS => ?_)
    refine lv_pop hx hb dJ0_checkIndex_df160_8 rfl ?_
    exact ret_v X hAe hP hD hS rfl dJ0_checkIndex_df160_9
  · refine va_gets hx hb hz hS hown (hts _ fl_J0_1053) (fun _ h9 => h9) dJ0_checkIndex_df160_2 ?_
    refine gcS (rest := []) (wn := []) X hP hD hS hl (c_J3_checkIndex l g i n (.ref t) (Or.inr ⟨t, rfl⟩) h0 h1) [] rfl rfl rfl [] rfl rfl cd_J3_checkIndex_8e157 rfl st_J3_checkIndex_8e157 ml_J0_1059 rfl rfl ⟨(Nat.le_of_ble_eq_true rfl), (Nat.le_of_ble_eq_true rfl)⟩ rfl (Nat.le_of_ble_eq_true rfl) dJ0_checkIndex_df160_5 ⟨Nat.zero_le _, Nat.zero_le _⟩ (fun H locs hP hD hS => ?_)
    refine lv_pop hx hb dJ0_checkIndex_df160_8 rfl ?_
    exact ret_v X hAe hP hD hS rfl dJ0_checkIndex_df160_9
theorem js_char : ∀ w, w < 2 → ∀ j, j < lenJS.getD w 0 → ((((bytJS.getD w []).getD j 0) &&& 255).toUInt32 % 65536).toInt32 = (bytJS.getD w []).getD j 0 ∧ narrow .char (.int ((bytJS.getD w []).getD j 0)) = .int ((bytJS.getD w []).getD j 0) := by decide +kernel
theorem ix_lt {i : Int32} {n : Nat} (h : ix i n = true) (hn : n < 2 ^ 31) : ¬ i < 0 ∧ i < nI n ∧ i.toNatClampNeg < n := by
  obtain ⟨j, hj, rfl⟩ := vp_in_of (ix_in h) hn
  exact ⟨nI_pos (by omega), nI_lt hj hn, by rw [nI_clamp (by omega)]; exact hj⟩
theorem c_J1_charAt (l : Launch) (g : GT) (w : Nat) (hw : w < 2) (i : Int32) (hi : ix i (lenJS.getD w 0) = true) : Con l g yJ1_charAt_3b067 cJ1_charAt_3b067 2 (some .char) ({ frames := 2, cells := 0, slots := 0, locals := 43 }) [.ref (g.2.2 (w + 3)), .int i] [] (some (.int ((bytJS.getD w []).getD i.toNatClampNeg 0))) [] := by
  obtain ⟨i0, i1, i2⟩ := ix_lt hi (by have := js_len w hw; omega)
  obtain ⟨k1, k2⟩ := js_char w hw _ i2
  refine Con.of (by decide) (Nat.le_of_ble_eq_true rfl) ?_
  intro p e s m below meth c A ls hAe X hP hD hS hl
  obtain ⟨hx, hb, hml, hr, hown, hts, hlk, hnm, hA, hG, hZ⟩ := id X
  have hown : s.vm.findClass RJ1 = some m.cls := hown
  have hl : lv_has ls 2 [(0, .ref (g.2.2 (w + 3))), (1, .int i)] := hl
  refine lv_iload_n hx hb dJ1_charAt_3b067_0 rfl (lv_at hl 1 rfl) ?_
  refine lv_aload_n hx hb dJ1_charAt_3b067_1 rfl (lv_at hl 0 rfl) ?_
  refine va_tlen (v := nI (lenJS.getD w 0)) hx hb (hZ.2.2.2.1.1 w hw).2.2.2 hS rfl dJ1_charAt_3b067_2 ?_
  refine gcS (rest := []) (wn := []) X hP hD hS hl (c_J0_checkIndex l g i (nI (lenJS.getD w 0)) i0 i1) [] rfl rfl rfl [] rfl rfl cd_J0_checkIndex_df160 rfl st_J0_checkIndex_df160 ml_J1_9 rfl rfl ⟨(Nat.le_of_ble_eq_true rfl), (Nat.le_of_ble_eq_true rfl)⟩ rfl (Nat.le_of_ble_eq_true rfl) dJ1_charAt_3b067_3 ⟨Nat.zero_le _, Nat.zero_le _⟩ (fun H locs hP hD hS => ?_)
  refine lv_aload_n hx hb dJ1_charAt_3b067_6 rfl (lv_at hl 0 rfl) ?_
  refine lv_iload_n hx hb dJ1_charAt_3b067_7 rfl (lv_at hl 1 rfl) ?_
  refine va_tb hx hb (hZ.2.2.2.1.1 w hw).2.2.2 hS (ix_in hi) (v := .int ((bytJS.getD w []).getD i.toNatClampNeg 0)) rfl dJ1_charAt_3b067_8 ?_
  refine lv_sipush (v := 255) hx hb dJ1_charAt_3b067_9 (by decide) ?_
  refine lv_iand hx hb dJ1_charAt_3b067_12 ?_
  refine lv_i2c hx hb dJ1_charAt_3b067_13 k1 ?_
  exact ret_n X hAe hP hD hS rfl k2 dJ1_charAt_3b067_14
theorem c_J0_charAt (l : Launch) (g : GT) (w : Nat) (hw : w < 2) (i : Int32) (hi : ix i (lenJS.getD w 0) = true) : Con l g yJ0_charAt_5068e cJ0_charAt_5068e 2 (some .char) ({ frames := 3, cells := 0, slots := 0, locals := 64 }) [.ref (g.2.2 (w + 1)), .int i] [] (some (.int ((bytJS.getD w []).getD i.toNatClampNeg 0))) [] := by
  obtain ⟨i0, i1, i2⟩ := ix_lt hi (by have := js_len w hw; omega)
  obtain ⟨k1, k2⟩ := js_char w hw _ i2
  refine Con.of (by decide) (Nat.le_of_ble_eq_true rfl) ?_
  intro p e s m below meth c A ls hAe X hP hD hS hl
  obtain ⟨hx, hb, hml, hr, hown, hts, hlk, hnm, hA, hG, hZ⟩ := id X
  have hown : s.vm.findClass RJ0 = some m.cls := hown
  have hl : lv_has ls 2 [(0, .ref (g.2.2 (w + 1))), (1, .int i)] := hl
  refine lv_aload_n hx hb dJ0_charAt_5068e_0 rfl (lv_at hl 0 rfl) ?_
  refine gcO (rest := []) X hP hD hS hl (c_J0_isLatin1 l g w hw) cd_J0_isLatin1_aae02 rfl im_J0_isLatin1_aae02 se_J0_isLatin1_aae02 ml_J0_492 (str_rec hZ hS hw) rfl rfl ⟨(Nat.le_of_ble_eq_true rfl), (Nat.le_of_ble_eq_true rfl)⟩ rfl (Nat.le_of_ble_eq_true rfl) dJ0_charAt_5068e_1 ⟨Nat.zero_le _, Nat.zero_le _⟩ (fun H locs hP hD hS => ?_)
  refine lv_if_eq (tgt := 16) hx hb dJ0_charAt_5068e_4 (by decide) (fun c_1 => absurd c_1 (by decide)) (fun c_1 => ?_)
  refine lv_aload_n hx hb dJ0_charAt_5068e_7 rfl (lv_at hl 0 rfl) ?_
  refine vk_getf hx hb (hZ.2.2.2.1.1 w hw).2.2.1 hS hown (hts _ fl_J0_9) (fun _ h9 => h9) dJ0_charAt_5068e_8 ?_
  refine lv_iload_n hx hb dJ0_charAt_5068e_11 rfl (lv_at hl 1 rfl) ?_
  refine gcS (rest := []) (wn := []) X hP hD hS hl (c_J1_charAt l g w hw i hi) [] rfl rfl rfl [] rfl rfl cd_J1_charAt_3b067 rfl st_J1_charAt_3b067 ml_J0_495 rfl rfl ⟨(Nat.le_of_ble_eq_true rfl), (Nat.le_of_ble_eq_true rfl)⟩ rfl (Nat.le_of_ble_eq_true rfl) dJ0_charAt_5068e_12 ⟨Nat.zero_le _, Nat.zero_le _⟩ (fun H locs hP hD hS => ?_)
  exact ret_n X hAe hP hD hS rfl k2 dJ0_charAt_5068e_15
section STR2
variable {p : Program} {l : Launch} {e : Env} {R : Room} {s : State} {m : MethodId} {args : Array Value} {below : List Frame} {meth : Method} {c : Code} {H : Heap} {locs : List Loc} {cells slots : Nat} {Q : State → Prop}
variable {g : GT} {A : Nat → Prop} {bc : ByteArray} {nL : Nat} {rt : Option FieldType} {y0 : MethodName} {pc : Nat} {ls : Array Slot} {ws : va_W} {lv : List (Nat × Value)}
theorem gc_length {w index : Nat} {rest : List Value} (X : CX g A p s m args meth c bc nL rt y0) (hP : va_P g.1 vwCl ws H) (hD : va_D A ws) (hS : va_S A s.heap H locs) (hl : lv_has ls nL lv) (hw : w < 2) (hlk : Cond.methodLink y0.cls index yJ0_length_8abf5 ∈ TG) (h1 : 1 + 1 ≤ R.frames) (h2 : 8 + (1 + 11) + 20 ≤ R.locals) (hrest : (rest.map fun v => v.category).sum ≤ 8) (hdg : decode bc pc = .ok (.invokevirtual index, 3)) (hf : cells ≤ R.cells ∧ slots ≤ R.slots)
    (kk : ∀ (H1 : Heap) (locs1 : List Loc), va_P g.1 vwCl ws H1 → va_D A ws → va_S A s.heap H1 locs1 → W p l e R s m args below meth c H1 locs1 cells slots Q (F0 m (pc + 3) ls (.int (nI (lenJS.getD w 0)) :: rest))) :
    W p l e R s m args below meth c H locs cells slots Q (F0 m pc ls (.ref (g.2.2 (w + 1)) :: rest)) :=
  gcO (rest := rest) X hP hD hS hl (c_J0_length l g w hw) cd_J0_length_8abf5 rfl im_J0_length_8abf5 se_J0_length_8abf5 hlk (str_rec X.2.2.2.2.2.2.2.2.2.2 hS hw) rfl rfl ⟨h1, h2⟩ rfl hrest hdg hf kk
theorem gc_charAt {w index : Nat} {i : Int32} {rest : List Value} (X : CX g A p s m args meth c bc nL rt y0) (hP : va_P g.1 vwCl ws H) (hD : va_D A ws) (hS : va_S A s.heap H locs) (hl : lv_has ls nL lv) (hw : w < 2) (hi : ix i (lenJS.getD w 0) = true) (hlk : Cond.methodLink y0.cls index yJ0_charAt_5068e ∈ TG) (h1 : 3 + 1 ≤ R.frames) (h2 : 8 + (2 + 11) + 64 ≤ R.locals) (hrest : (rest.map fun v => v.category).sum ≤ 8) (hdg : decode bc pc = .ok (.invokevirtual index, 3)) (hf : cells ≤ R.cells ∧ slots ≤ R.slots)
    (kk : ∀ (H1 : Heap) (locs1 : List Loc), va_P g.1 vwCl ws H1 → va_D A ws → va_S A s.heap H1 locs1 → W p l e R s m args below meth c H1 locs1 cells slots Q (F0 m (pc + 3) ls (.int ((bytJS.getD w []).getD i.toNatClampNeg 0) :: rest))) :
    W p l e R s m args below meth c H locs cells slots Q (F0 m pc ls (.int i :: .ref (g.2.2 (w + 1)) :: rest)) :=
  gcO (rest := rest) X hP hD hS hl (c_J0_charAt l g w hw i hi) cd_J0_charAt_5068e rfl im_J0_charAt_5068e se_J0_charAt_5068e hlk (str_rec X.2.2.2.2.2.2.2.2.2.2 hS hw) rfl rfl ⟨h1, h2⟩ rfl hrest hdg hf kk
end STR2
