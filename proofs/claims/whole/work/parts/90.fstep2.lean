theorem nI_neL {t c : Nat} {k : Int32} (ht : t < 2 ^ 31) (hc : c < 2 ^ 31) (h : t ≠ c) (hk : k = nI c := by rfl) : ¬ nI t = k := fun q => h ((nI_eq ht hc).1 (q.trans hk))
theorem layB_lt {W : List (Nat × Nat)} {D : List Ent} {e : Nat} (h : layB W D e) : (∀ x ∈ D, eF x ≤ eL x ∧ eL x < e) ∧ ∀ y ∈ W, y.1 ≠ 40 → y.2 < e := by
  obtain ⟨a, D', rfl, h1, h2, -, h4⟩ := h
  obtain ⟨l1, l2⟩ := lay_lt h4
  refine ⟨fun x hx => ?_, fun y hy q => ?_⟩
  · rcases List.mem_cons.1 hx with rfl | hx
    · omega
    · have := l1 x hx; omega
  · have := l2 y hy q; omega
def setC : List Ent → List Ent
  | [] => []
  | a :: D => (a.1, a.2.1, a.2.2.1, a.2.2.2.1, true, a.2.2.2.2.2) :: D
section FST2
variable {N : Nat} {nmb : Nat → List Nat}
theorem rc_close {y : Nat × Nat} {W : List (Nat × Nat)} {D : List Ent} {M e : Nat} {sym op cl steps ops levels firsts lasts places : Nat → Int32} (h : RC N nmb (y :: W) D M e sym op cl steps ops levels firsts lasts places) : RC N nmb W (setC D) M e sym op cl steps ops levels firsts lasts places := by
  obtain ⟨r1, r2, ⟨o', c', s', t1, t2, t3⟩, r4⟩ := h
  have t3' : ∀ y ∈ W, y.1 ≠ 40 → rnd nmb o' c' s' y.2 = [y.1] := fun z hz => t3 z (List.mem_cons_of_mem _ hz)
  cases D with
  | nil => exact ⟨r1.2, r2, ⟨o', c', s', t1, t2, t3'⟩, r4⟩
  | cons a D =>
    refine ⟨r1.2, r2, ⟨o', c', s', t1, fun x hx => ?_, t3'⟩, r4⟩
    rcases List.mem_cons.1 hx with rfl | hx
    · exact t2 a (List.mem_cons_self ..)
    · exact t2 x (List.mem_cons_of_mem _ hx)
theorem setC_len (D : List Ent) : (setC D).length = D.length := by cases D <;> rfl
theorem setC_ev {D : List Ent} (h : ∀ x ∈ D, eV x ≤ 6) : ∀ x ∈ setC D, eV x ≤ 6 := by
  cases D with
  | nil => exact h
  | cons a D =>
    intro x hx
    rcases List.mem_cons.1 hx with rfl | hx
    · exact h a (List.mem_cons_self ..)
    · exact h x (List.mem_cons_of_mem _ hx)
theorem xb_op {W W1 : List (Nat × Nat)} {D D1 : List Ent} {M M1 e t : Nat} {T T1 : TT} {sym op cl steps ops levels firsts lasts places : Nat → Int32} (ht : isB t) (hr : red (reqL t) W D M T = (W1, D1, M1, T1)) (hw : W.length ≤ 160) (hB : layB W D e) (he : e < 160) (hM : M + W.length ≤ 160) (hD : D.length ≤ 160) (h6 : ∀ x ∈ D, eV x ≤ 6) (hB1 : layB W1 D1 e) (hw1 : W1.length < 160) (hR : RC N nmb W D M e sym op cl steps ops levels firsts lasts places) :
    ∃ ops' steps' levels' firsts' lasts' op' cl' pls' sym', f_X6_takeOperator 5 (nI t) (nI W.length) (nI D.length) (nI (oc W)) (nI (pc W)) ops (nI e) (nI M) steps levels firsts lasts op cl places sym = some (0, 4, nI ((t, e) :: W1).length, nI D1.length, nI (oc ((t, e) :: W1)), nI (pc W), ops', nI (e + 1), nI M1, steps', levels', firsts', lasts', op', cl', pls', sym') ∧ RC N nmb ((t, e) :: W1) D1 M1 (e + 1) sym' op' cl' steps' ops' levels' firsts' lasts' pls' := by
  have hl := isB_lev ht
  have hL : 1 ≤ reqL t ∧ reqL t ≤ 6 := by rcases ht with rfl | rfl | rfl | rfl | rfl <;> decide
  obtain ⟨s', l', f', la', o', c', q1, q2⟩ := apply_ok hL.1 hL.2 T hw hB (by omega) hM hD h6 hR
  rw [hr] at q1 q2
  dsimp only at q1 q2
  have hll := layB_lt hB1
  have hT := txt_push (nmb := nmb) (a := t) (by omega) hll.1 hll.2 q2.2.2.1
  have hR' := rc_push (b := nI e) (s := t) (p := e) q2 (fun _ => rfl) hT
  have e1 : oc ((t, e) :: W1) = oc W1 := by rw [oc_cons, if_neg (show ¬ (t = 33 ∨ t = 40) by omega), Nat.zero_add]
  have ha : f_X1_addOperator (nI W.length) (nI D.length) (nI (oc W)) ops (nI e) (nI M) steps levels firsts lasts op cl places sym (nI t) = some (nI (W1.length + 1), nI D1.length, nI (oc W1), upd ops W1.length (nI t), nI (e + 1), nI M1, s', l', f', la', upd o' e 0, upd c' e 0, upd places W1.length (nI e), upd sym e (nI t)) := by
    unfold f_X1_addOperator jn
    dsimp only
    have hc : (if nI t = 62 then (some 3 : Option Int32) else f_X11_levelOf (nI t)) = some (nI (reqL t)) := by
      by_cases h62 : t = 62
      · subst h62; rfl
      · rw [if_neg (nI_neL (k := 62) (c := 62) (by omega) (by omega) h62), lev_x (by omega)]
        unfold reqL
        rw [if_neg h62]
    by_cases h62 : t = 62
    · rw [if_pos (show nI t = 62 by rw [h62]; rfl), show (3 : Int32) = nI (reqL t) by rw [h62]; rfl, q1, Option.bind_some]
      dsimp only
      rw [addSymbol_ok he, Option.bind_some]
      dsimp only
      rw [pushOp_ok hw1, Option.bind_some]
    · rw [if_neg (nI_neL (k := 62) (c := 62) (by omega) (by omega) h62), lev_x (by omega), Option.bind_some, show clev t = reqL t from (if_neg h62).symm, q1, Option.bind_some]
      dsimp only
      rw [addSymbol_ok he, Option.bind_some]
      dsimp only
      rw [pushOp_ok hw1, Option.bind_some]
  unfold f_X6_takeOperator
  rw [if_neg (nI_neL (k := 514) (c := 514) (by omega) (by omega) (by omega)), if_neg (nI_neL (k := 41) (c := 41) (by omega) (by omega) (by rcases ht with rfl | rfl | rfl | rfl | rfl <;> decide)), lev_x (by omega), Option.bind_some, if_neg (nI_ne0 (by omega) (by omega)), if_neg (nI_neL (k := 33) (c := 33) (by omega) (by omega) (by omega)), ha, Option.bind_some, e1]
  exact ⟨_, _, _, _, _, _, _, _, _, rfl, hR'⟩
theorem xb_else {w d o p e M : Int32} {k : Nat} (hk : k < 2 ^ 31) (h1 : k ≠ 514) (h2 : k ≠ 41) (h3 : clev k = 0 ∨ k = 33) {sym op cl steps ops levels firsts lasts places : Nat → Int32} : f_X6_takeOperator 5 (nI k) w d o p ops e M steps levels firsts lasts op cl places sym = some (1, 5, w, d, o, p, ops, e, M, steps, levels, firsts, lasts, op, cl, places, sym) := by
  unfold f_X6_takeOperator
  rw [if_neg (nI_neL (k := 514) (c := 514) hk (by omega) h1), if_neg (nI_neL (k := 41) (c := 41) hk (by omega) h2), lev_x hk, Option.bind_some]
  rcases h3 with h3 | h3
  · rw [h3, if_pos (c := nI 0 = 0) rfl]
  · rw [h3, if_neg (c := nI (clev 33) = 0) (by decide), if_pos (c := nI 33 = 33) rfl]
theorem xb_end {W W1 : List (Nat × Nat)} {D D1 : List Ent} {M M1 e : Nat} {T T1 : TT} {sym op cl steps ops levels firsts lasts places : Nat → Int32} (hr : red 1 W D M T = (W1, D1, M1, T1)) (hp : pc W = 0) (hw : W.length ≤ 160) (hB : layB W D e) (he : e ≤ 160) (hM : M + W.length ≤ 160) (hD : D.length ≤ 160) (h6 : ∀ x ∈ D, eV x ≤ 6) (hR : RC N nmb W D M e sym op cl steps ops levels firsts lasts places) :
    ∃ steps' levels' firsts' lasts' op' cl', f_X6_takeOperator 5 514 (nI W.length) (nI D.length) (nI (oc W)) (nI (pc W)) ops (nI e) (nI M) steps levels firsts lasts op cl places sym = some (0, 5, nI W1.length, nI D1.length, nI (oc W1), nI (pc W), ops, nI e, nI M1, steps', levels', firsts', lasts', op', cl', places, sym) ∧ RC N nmb W1 D1 M1 e sym op' cl' steps' ops levels' firsts' lasts' places := by
  obtain ⟨s', l', f', la', o', c', q1, q2⟩ := apply_ok (L := 1) (by omega) (by omega) T hw hB he hM hD h6 hR
  rw [hr] at q1 q2
  dsimp only at q1 q2
  unfold f_X6_takeOperator f_X1_finish
  rw [if_pos (c := (514 : Int32) = 514) rfl, if_pos (show nI (pc W) = 0 by rw [hp]; rfl), show (1 : Int32) = nI 1 from rfl, q1, Option.bind_some, Option.bind_some]
  dsimp only
  rw [if_neg (c := b2i true = 0) (by decide)]
  exact ⟨_, _, _, _, _, _, rfl, q2⟩
theorem xb_end_no {w d o e M : Int32} {p : Nat} (hp : p ≠ 0) (hp2 : p < 2 ^ 31) {sym op cl steps ops levels firsts lasts places : Nat → Int32} : f_X6_takeOperator 5 514 w d o (nI p) ops e M steps levels firsts lasts op cl places sym = some (1, 5, w, d, o, nI p, ops, e, M, steps, levels, firsts, lasts, op, cl, places, sym) := by
  unfold f_X6_takeOperator f_X1_finish
  rw [if_pos (c := (514 : Int32) = 514) rfl, if_neg (nI_ne0 (by omega) hp2), Option.bind_some]
  dsimp only
  rw [if_pos (c := b2i false = 0) (by decide)]
theorem xb_close_no {w d o e M : Int32} {sym op cl steps ops levels firsts lasts places : Nat → Int32} : f_X6_takeOperator 5 41 w d o (nI 0) ops e M steps levels firsts lasts op cl places sym = some (1, 5, w, d, o, nI 0, ops, e, M, steps, levels, firsts, lasts, op, cl, places, sym) := by
  unfold f_X6_takeOperator f_X1_closeParen
  rw [if_neg (c := (41 : Int32) = 514) (by decide), if_pos (c := (41 : Int32) = 41) rfl, if_pos (c := nI 0 = 0) rfl, Option.bind_some]
  dsimp only
  rw [if_pos (c := b2i false = 0) (by decide)]
theorem xb_close {W W2 W3 : List (Nat × Nat)} {D D1 D3 : List Ent} {M M1 M3 e p : Nat} {T T1 T3 : TT} {sym op cl steps ops levels firsts lasts places : Nat → Int32} (hr : red 1 W D M T = ((40, p) :: W2, D1, M1, T1)) (hr3 : red 6 W2 (setC D1) M1 T1 = (W3, D3, M3, T3)) (hp : pc W = pc W2 + 1) (hp2 : pc W2 < 160) (hw : W.length ≤ 160) (hB : layB W D e) (he : e ≤ 160) (hM : M + W.length ≤ 160) (hD : D.length ≤ 160) (h6 : ∀ x ∈ D, eV x ≤ 6) (hB2 : layB W2 (setC D1) e) (hM2 : M1 + W2.length ≤ 160) (hD2 : D1.length ≤ 160) (h62 : ∀ x ∈ D1, eV x ≤ 6) (hR : RC N nmb W D M e sym op cl steps ops levels firsts lasts places) :
    ∃ steps' levels' firsts' lasts' op' cl', f_X6_takeOperator 5 41 (nI W.length) (nI D.length) (nI (oc W)) (nI (pc W)) ops (nI e) (nI M) steps levels firsts lasts op cl places sym = some (0, 5, nI W3.length, nI D3.length, nI (oc W3), nI (pc W2), ops, nI e, nI M3, steps', levels', firsts', lasts', op', cl', places, sym) ∧ RC N nmb W3 D3 M3 e sym op' cl' steps' ops levels' firsts' lasts' places := by
  obtain ⟨s', l', f', la', o', c', q1, q2⟩ := apply_ok (L := 1) (by omega) (by omega) T hw hB he hM hD h6 hR
  rw [hr] at q1 q2
  dsimp only at q1 q2
  obtain ⟨s2, l2, f2, la2, o2, c2, v1, v2⟩ := apply_ok (L := 6) (by omega) (by omega) T1 (by omega) hB2 he hM2 (by rw [setC_len]; exact hD2) (setC_ev h62) (rc_close q2)
  rw [hr3] at v1 v2
  dsimp only at v1 v2
  rw [setC_len] at v1
  have e1 : nI (oc ((40, p) :: W2)) - (1 : Int32) = nI (oc W2) := by rw [oc_cons, if_pos (Or.inr rfl), Nat.add_comm, nI_pred]
  unfold f_X6_takeOperator f_X1_closeParen
  rw [if_neg (c := (41 : Int32) = 514) (by decide), if_pos (c := (41 : Int32) = 41) rfl, if_neg (nI_ne0 (by omega) (by omega)), show f_X1_applyDownTo (nI W.length) (nI D.length) (nI (oc W)) ops (nI M) steps levels firsts lasts op cl places 1 = _ from q1, Option.bind_some]
  dsimp only
  rw [List.length_cons, nI_pred, e1, show f_X1_applyDownTo (nI W2.length) (nI D1.length) (nI (oc W2)) ops (nI M1) s' l' f' la' o' c' places 6 = _ from v1, Option.bind_some, Option.bind_some]
  dsimp only
  rw [if_neg (c := b2i true = 0) (by decide), hp, nI_pred]
  exact ⟨_, _, _, _, _, _, rfl, v2⟩
/-! the states between the steps -/
def SA (N : Nat) (nmb : Nat → List Nat) (W : List (Nat × Nat)) (D : List Ent) (M : Nat) (T : TT) (e k : Nat) : Prop :=
  layA W D e ∧ conD M T D ∧ (∀ j, j < M → nodeOK N nmb T j) ∧ potD D + W.length ≤ 2 * k ∧ M + W.length ≤ k ∧ D.length ≤ M ∧ e ≤ k ∧ oc W ≤ 20
def SB (N : Nat) (nmb : Nat → List Nat) (W : List (Nat × Nat)) (D : List Ent) (M : Nat) (T : TT) (e k : Nat) : Prop :=
  G N nmb W D M T e k ∧ nt33 W ∧ topc 6 D ∧ oc W ≤ 20
theorem st_not {W : List (Nat × Nat)} {D : List Ent} {M : Nat} {T : TT} {e k : Nat} (h : SA N nmb W D M T e k) (ho : oc W < 20) : SA N nmb ((33, e) :: W) D M T (e + 1) (k + 1) := by
  obtain ⟨h1, h2, h3, h4, h5, h6, h7, h8⟩ := h
  refine ⟨Or.inr (Or.inl ⟨rfl, rfl, h1⟩), h2, h3, by rw [List.length_cons]; omega, by rw [List.length_cons]; omega, h6, by omega, ?_⟩
  rw [oc_cons, if_pos (Or.inl rfl)]; omega
theorem st_par {W : List (Nat × Nat)} {D : List Ent} {M : Nat} {T : TT} {e k : Nat} (h : SA N nmb W D M T e k) (ho : oc W < 20) : SA N nmb ((40, e) :: W) D M T e (k + 1) := by
  obtain ⟨h1, h2, h3, h4, h5, h6, h7, h8⟩ := h
  refine ⟨Or.inl ⟨rfl, h1⟩, h2, h3, by rw [List.length_cons]; omega, by rw [List.length_cons]; omega, h6, by omega, ?_⟩
  rw [oc_cons, if_pos (Or.inr rfl)]; omega
theorem nt_of {W : List (Nat × Nat)} {L : Nat} (hL : L ≤ 6) (h : ∀ y W', W = y :: W' → clev y.1 < L) : nt33 W := by
  intro y W' q h33
  have := h y W' q
  rw [h33] at this
  have : (6 : Nat) < L := this
  omega
theorem red_sb {L e k : Nat} (hL1 : 1 ≤ L) (hL : L ≤ 6) {W W1 : List (Nat × Nat)} {D D1 : List Ent} {M M1 : Nat} {T T1 : TT} (hr : red L W D M T = (W1, D1, M1, T1)) (h : G N nmb W D M T e k) (ht : topc L D) (ho : oc W ≤ 20) : G N nmb W1 D1 M1 T1 e k ∧ topc L D1 ∧ pc W1 = pc W ∧ oc W1 ≤ 20 ∧ (∀ y W', W1 = y :: W' → clev y.1 < L) ∧ nt33 W1 := by
  obtain ⟨i1, i2, i3, i4, i5⟩ := red_good hL1 hL W D M T h ht
  rw [hr] at i1 i2 i3 i4 i5
  exact ⟨i1, i2, i3, Nat.le_trans i4 ho, i5, nt_of hL i5⟩
theorem topc_le {L : Nat} {D : List Ent} (hL : L ≤ 6) (h : topc 6 D) : topc L D := by
  intro a D' q
  rcases h a D' q with h | h
  · exact Or.inl h
  · exact Or.inr (by omega)
def nkL (a : Nat) : Nat × Nat := if 256 ≤ a then (110, a - 256) else (a, 0)
theorem st_leaf {W W1 : List (Nat × Nat)} {D D1 : List Ent} {M M1 : Nat} {T T1 : TT} {e k a : Nat} (hnm : ∀ i, i < N → (nmb i).length ≤ 2) (ha : (256 ≤ a ∧ a < 256 + N) ∨ a = 48 ∨ a = 49) (h : SA N nmb W D M T e k) (hr : red 6 W (newE N nmb M e a :: D) (M + 1) (up T M ((nkL a).1, (nkL a).2, 0, sby nmb a, fun w => leafv N a w)) = (W1, D1, M1, T1)) : SB N nmb W1 D1 M1 T1 (e + 1) (k + 1) ∧ pc W1 = pc W := by
  obtain ⟨h1, h2, h3, h4, h5, h6, h7, h8⟩ := h
  have hk6 : klev (nkL a).1 = 6 := by
    unfold nkL
    rcases ha with ha | rfl | rfl
    · rw [if_pos ha.1]; rfl
    · rfl
    · rfl
  have hlen : (sby nmb a).length ≤ 2 := by
    unfold sby
    rcases ha with ha | rfl | rfl
    · rw [if_neg (by omega)]; exact hnm _ (by omega)
    · rw [if_pos (by omega)]; exact Nat.le_succ 1
    · rw [if_pos (by omega)]; exact Nat.le_succ 1
  have hG : G N nmb W (newE N nmb M e a :: D) (M + 1) (up T M ((nkL a).1, (nkL a).2, 0, sby nmb a, fun w => leafv N a w)) (e + 1) (k + 1) := by
    refine ⟨lay_leaf h1, ?_, ?_, ?_, by omega, by rw [List.length_cons]; omega, by omega⟩
    · intro x hx
      rcases List.mem_cons.1 hx with rfl | hx
      · show M < M + 1 ∧ klev (up T M _ M).1 = 6 ∧ (up T M _ M).2.2.2.1 = sby nmb a ∧ (up T M _ M).2.2.2.2 = (fun w => leafv N a w) ∧ 6 ≤ 6
        rw [up_same]
        exact ⟨Nat.lt_succ_self _, hk6, rfl, rfl, Nat.le_refl _⟩
      · exact con_up h2 x hx
    · intro j hj
      by_cases q : j = M
      · subst q
        unfold nodeOK
        rw [up_same]
        dsimp only
        unfold nkL
        rcases ha with ha | rfl | rfl
        · rw [if_pos ha.1]
          refine Or.inr (Or.inr (Or.inl ⟨rfl, by dsimp only; omega, ?_, ?_⟩))
          · show sby nmb a = nmb (a - 256)
            unfold sby
            rw [if_neg (by omega)]
          · funext w
            show leafv N a w = nmv N (a - 256) w
            unfold leafv
            rw [if_pos ha.1]
        · exact Or.inl ⟨rfl, rfl, rfl⟩
        · exact Or.inr (Or.inl ⟨rfl, rfl, rfl⟩)
      · exact node_up (by omega) (h3 j (by omega))
    · show (sby nmb a).length + 0 + potD D + W.length ≤ 2 * (k + 1)
      omega
  obtain ⟨i1, i2, i3, i4, i5, i6⟩ := red_sb (by omega) (Nat.le_refl 6) hr hG (fun a' D' q => by obtain ⟨rfl, rfl⟩ := List.cons.inj q; exact Or.inr (Nat.le_refl 6)) h8
  exact ⟨⟨i1, i6, i2, i4⟩, i3⟩
theorem rq_op {W : List (Nat × Nat)} {t : Nat} (ht : isB t) (hs : ∀ y W', W = y :: W' → y.1 = 40 ∨ y.1 = 33 ∨ isB y.1) (h : ∀ y W', W = y :: W' → clev y.1 < reqL t) : rq W ≤ clev t := by
  cases W with
  | nil => exact Nat.zero_le _
  | cons y W =>
    have h' := h y W rfl
    show (if y.1 = 40 then 0 else if y.1 = 33 then 6 else reqR y.1) ≤ clev t
    rcases hs y W rfl with q | q | q
    · rw [if_pos q]; omega
    · rw [q] at h'
      exact absurd h' (by rcases ht with rfl | rfl | rfl | rfl | rfl <;> decide)
    · have := isB_lev q
      rw [if_neg (by omega), if_neg (by omega)]
      generalize y.1 = s at q h'
      rcases q with rfl | rfl | rfl | rfl | rfl <;> rcases ht with rfl | rfl | rfl | rfl | rfl <;> revert h' <;> decide
theorem st_op {W W1 : List (Nat × Nat)} {D D1 : List Ent} {M M1 : Nat} {T T1 : TT} {e k t : Nat} (ht : isB t) (h : SB N nmb W D M T e k) (hr : red (reqL t) W D M T = (W1, D1, M1, T1)) : SA N nmb ((t, e) :: W1) D1 M1 T1 (e + 1) (k + 1) ∧ pc ((t, e) :: W1) = pc W ∧ layB W1 D1 e ∧ W1.length ≤ k := by
  obtain ⟨hG, h2, h3, h4⟩ := h
  have hl := isB_lev ht
  have hL : 1 ≤ reqL t ∧ reqL t ≤ 6 := by rcases ht with rfl | rfl | rfl | rfl | rfl <;> decide
  obtain ⟨⟨g1, g2, g3, g4, g5, g6, g7⟩, i2, i3, i4, i5, i6⟩ := red_sb hL.1 hL.2 hr hG (topc_le hL.2 h3) h4
  have hB := g1
  obtain ⟨a, D', rfl, b1, b2, b3, b4⟩ := g1
  refine ⟨⟨Or.inr (Or.inr ⟨ht, rfl, rq_op ht (fun y W' q => layB_sign (q ▸ hB)) i5, a, D', rfl, b1, b2, i2 a D' rfl, b4⟩), g2, g3, by rw [List.length_cons]; omega, by rw [List.length_cons]; omega, g6, by omega, ?_⟩, ?_, hB, by omega⟩
  · rw [oc_cons, if_neg (show ¬ (t = 33 ∨ t = 40) by omega)]; omega
  · rw [pc_cons, if_neg (show ¬ t = 40 by omega), i3, Nat.zero_add]
theorem top40 {W : List (Nat × Nat)} {D : List Ent} {e : Nat} {y : Nat × Nat} {W' : List (Nat × Nat)} (hB : layB W D e) (q : W = y :: W') (h : clev y.1 < 1) : y.1 = 40 := by
  rcases layB_sign (q ▸ hB) with h1 | h1 | h1
  · exact h1
  · rw [h1] at h; exact absurd h (by decide)
  · have := isB_lev h1; omega
theorem st_close {W W1 : List (Nat × Nat)} {D D1 : List Ent} {M M1 : Nat} {T T1 : TT} {e k : Nat} (hp : pc W ≠ 0) (h : SB N nmb W D M T e k) (hr : red 1 W D M T = (W1, D1, M1, T1)) : ∃ p W2, W1 = (40, p) :: W2 ∧ layB W2 (setC D1) e ∧ pc W = pc W2 + 1 ∧ M1 + W2.length ≤ k ∧ D1.length ≤ k ∧ (∀ x ∈ D1, eV x ≤ 6) ∧ oc W1 ≤ 20 ∧ layB W1 D1 e ∧ nt33 W1 ∧
    ∀ W3 D3 M3 T3, red 6 W2 (setC D1) M1 T1 = (W3, D3, M3, T3) → SB N nmb W3 D3 M3 T3 e (k + 1) ∧ pc W3 = pc W2 := by
  obtain ⟨hG, h2, h3, h4⟩ := h
  obtain ⟨⟨g1, g2, g3, g4, g5, g6, g7⟩, i2, i3, i4, i5, i6⟩ := red_sb (Nat.le_refl 1) (by omega) hr hG (topc_le (by omega) h3) h4
  cases W1 with
  | nil => exact absurd i3.symm hp
  | cons y W2 =>
    have h40 : y.1 = 40 := top40 g1 rfl (i5 y W2 rfl)
    obtain ⟨s, p⟩ := y
    have : s = 40 := h40
    subst this
    rw [List.length_cons] at g4 g5
    have ep : pc W = pc W2 + 1 := by rw [← i3, pc_cons, if_pos rfl, Nat.add_comm]
    have eo : oc ((40, p) :: W2) = oc W2 + 1 := by rw [oc_cons, if_pos (Or.inr rfl), Nat.add_comm]
    have hB1 := g1
    obtain ⟨a, D', rfl, b1, b2, b3, b4⟩ := g1
    have b4' : layA W2 D' (eF a) := by
      rcases b4 with ⟨-, q⟩ | ⟨q, -⟩ | ⟨q, -⟩
      · exact q
      · exact absurd (show (40 : Nat) = 33 from q) (by decide)
      · exact absurd rfl (isB_lev q).2.2.2.2.1
    have hB2 : layB W2 (setC (a :: D')) e := ⟨_, D', rfl, b1, b2, Or.inl rfl, b4'⟩
    have hG2 : G N nmb W2 (setC (a :: D')) M1 T1 e (k + 1) := by
      refine ⟨hB2, ?_, g3, ?_, by omega, by rw [setC_len]; exact g6, by omega⟩
      · intro x hx
        rcases List.mem_cons.1 hx with rfl | hx
        · exact g2 a (List.mem_cons_self ..)
        · exact g2 x (List.mem_cons_of_mem _ hx)
      · show (eX a).length + 2 + potD D' + W2.length ≤ 2 * (k + 1)
        have : potD (a :: D') = (eX a).length + (if eC a then 2 else 0) + potD D' := rfl
        omega
    refine ⟨p, W2, rfl, hB2, ep, by omega, by omega, fun x hx => (g2 x hx).2.2.2.2, i4, hB1, i6, fun W3 D3 M3 T3 hr3 => ?_⟩
    obtain ⟨j1, j2, j3, j4, j5, j6⟩ := red_sb (by omega) (Nat.le_refl 6) hr3 hG2 (fun a' D'' q => by obtain ⟨rfl, rfl⟩ := List.cons.inj q; exact Or.inl rfl) (by omega)
    exact ⟨⟨j1, j6, j2, j4⟩, j3⟩
theorem st_end {W W1 : List (Nat × Nat)} {D D1 : List Ent} {M M1 : Nat} {T T1 : TT} {e k : Nat} (hp : pc W = 0) (h : SB N nmb W D M T e k) (hr : red 1 W D M T = (W1, D1, M1, T1)) : W1 = [] ∧ ∃ x, D1 = [x] ∧ eF x = 0 ∧ e = eL x + 1 ∧ G N nmb W1 D1 M1 T1 e k := by
  obtain ⟨hG, h2, h3, h4⟩ := h
  obtain ⟨g, i2, i3, i4, i5, i6⟩ := red_sb (Nat.le_refl 1) (by omega) hr hG (topc_le (by omega) h3) h4
  cases W1 with
  | cons y W2 =>
    have h40 : y.1 = 40 := top40 g.1 rfl (i5 y W2 rfl)
    rw [pc_cons, if_pos h40] at i3
    omega
  | nil =>
    have g1 := g.1
    obtain ⟨a, D', rfl, b1, b2, b3, b4, b5⟩ := g1
    subst b4
    exact ⟨rfl, a, rfl, b5, b1, g⟩
theorem st_stuck {W W1 : List (Nat × Nat)} {D D1 : List Ent} {M M1 : Nat} {T T1 : TT} {e k : Nat} (hp : pc W ≠ 0) (h : SB N nmb W D M T e k) (hr : red 1 W D M T = (W1, D1, M1, T1)) : 0 < W1.length ∧ W1.length ≤ k := by
  obtain ⟨hG, h2, h3, h4⟩ := h
  obtain ⟨g, i2, i3, i4, i5, i6⟩ := red_sb (Nat.le_refl 1) (by omega) hr hG (topc_le (by omega) h3) h4
  have := g.2.2.2.2.1
  refine ⟨?_, by omega⟩
  cases W1 with
  | nil => exact absurd i3.symm hp
  | cons y W2 => exact Nat.succ_pos _
theorem pc_le : ∀ (W : List (Nat × Nat)), pc W ≤ W.length
  | [] => Nat.le_refl _
  | y :: W => by
    rw [pc_cons, List.length_cons]
    have := pc_le W
    split <;> omega
theorem red_oc' {L e : Nat} (hL : 1 ≤ L) : ∀ (W : List (Nat × Nat)) (D : List Ent) (M : Nat) (T : TT), nt33 W → layB W D e → oc W = oc (red L W D M T).1 := by
  intro W
  induction W with
  | nil => exact fun D M T _ _ => rfl
  | cons y W ih =>
    intro D M T h33 hB
    by_cases hlt : clev y.1 < L
    · rw [red_stop hlt]
    rcases layB_sign hB with h | h | h
    · rw [h] at hlt
      exact absurd (show clev 40 < L from hL) hlt
    · exact absurd h (h33 y W rfl)
    · have hl := isB_lev h
      have hW : nt33 W := by
        obtain ⟨a, D1, rfl, h1, h2, h3, h4⟩ := hB
        rcases h4 with ⟨q, -⟩ | ⟨q, -⟩ | ⟨-, q1, q2, -⟩
        · omega
        · omega
        · exact rq_nt (by omega)
      obtain ⟨a, b, D2, rfl, l1, l2, l3, l4, l5, l6, l8, l9, l7⟩ := lay_bin M h hB
      rw [red_bin hlt hl.2.2.2.1, ← ih _ _ _ hW l7, oc_cons, if_neg (by omega), Nat.zero_add]
theorem red_oc {L e : Nat} (hL : 1 ≤ L) {W W1 : List (Nat × Nat)} {D D1 : List Ent} {M M1 : Nat} {T T1 : TT} (hr : red L W D M T = (W1, D1, M1, T1)) (h33 : nt33 W) (hB : layB W D e) : oc W = oc W1 := by
  have := red_oc' hL W D M T h33 hB
  rw [hr] at this
  exact this
end FST2
