/-! the system's steps in the formula -/
theorem tp_sub (W : List (Nat × Nat)) : nI W.length - (1 : Int32) = tpI W := by
  cases W with
  | nil => rfl
  | cons y W =>
    show nI (W.length + 1) - (1 : Int32) = nI W.length
    rw [nI_pred]
theorem w160 {a : Nat} (h : a < 160) : f_X11_within (nI a) 160 = some true := by
  have := w_nI (a := a) (b := 160) (by omega) (by omega)
  rw [decide_eq_true h] at this
  exact this
theorem addSymbol_ok {e : Nat} (he : e < 160) (sy op cl : Nat → Int32) (a : Int32) : f_X2_addSymbol (nI e) sy op cl a = some (nI e, nI (e + 1), upd sy e a, upd op e 0, upd cl e 0) := by
  unfold f_X2_addSymbol
  rw [w160 he, Option.bind_some, if_neg (c := b2i true = 0) (by decide), if_pos (ix_t he (by decide)), if_pos (ix_t he (by decide)), if_pos (ix_t he (by decide)), nI_clamp (by omega), nI_1, nI_pred]
theorem pushOp_ok {w : Nat} (hw : w < 160) (ops pls : Nat → Int32) (a b : Int32) : f_X1_pushOperator (nI w) ops pls a b = some (nI (w + 1), upd ops w a, upd pls w b) := by
  unfold f_X1_pushOperator
  rw [w160 hw, Option.bind_some, if_neg (c := b2i true = 0) (by decide), if_pos (ix_t hw (by decide)), if_pos (ix_t hw (by decide)), nI_clamp (by omega), nI_1]
section FST
variable {N : Nat} {nmb : Nat → List Nat}
theorem txt_add {W : List (Nat × Nat)} {D : List Ent} {e a : Nat} {o c s : Nat → Int32} (ha : a < 300) (h1 : ∀ x ∈ D, eF x ≤ eL x ∧ eL x < e) (h2 : ∀ y ∈ W, y.1 ≠ 40 → y.2 < e) (h : TXT nmb W D e o c s) :
    ∃ op cl sy : Nat → Nat, (∀ i, i < e + 1 → upd o e 0 i = nI (op i) ∧ upd c e 0 i = nI (cl i) ∧ upd s e (nI a) i = nI (sy i) ∧ sy i < 300) ∧ (∀ x ∈ D, seg nmb op cl sy (eF x) (eL x + 1 - eF x) = eX x) ∧ (∀ y ∈ W, y.1 ≠ 40 → rnd nmb op cl sy y.2 = [y.1]) ∧ rnd nmb op cl sy e = sby nmb a := by
  obtain ⟨op, cl, sy, t1, t2, t3⟩ := h
  refine ⟨up op e 0, up cl e 0, up sy e a, fun i hi => ?_, fun x hx => ?_, fun y hy q => ?_, ?_⟩
  · by_cases q : i = e
    · subst q; rw [upd_same, upd_same, upd_same, up_same, up_same, up_same]; exact ⟨rfl, rfl, rfl, ha⟩
    · rw [upd_ne q, upd_ne q, upd_ne q, up_ne q, up_ne q, up_ne q]; exact t1 i (by omega)
  · rw [← t2 x hx]
    have := h1 x hx
    exact seg_congr nmb (fun i q1 q2 => ⟨up_ne (by omega), up_ne (by omega), up_ne (by omega)⟩)
  · rw [← t3 y hy q]
    have := h2 y hy q
    unfold rnd
    rw [up_ne (by omega), up_ne (by omega), up_ne (by omega)]
  · unfold rnd
    rw [up_same, up_same, up_same]
    show [] ++ (sby nmb a ++ []) = _
    rw [List.append_nil, List.nil_append]
theorem txt_push {W : List (Nat × Nat)} {D : List Ent} {e a : Nat} {o c s : Nat → Int32} (ha : a < 256) (h1 : ∀ x ∈ D, eF x ≤ eL x ∧ eL x < e) (h2 : ∀ y ∈ W, y.1 ≠ 40 → y.2 < e) (h : TXT nmb W D e o c s) : TXT nmb ((a, e) :: W) D (e + 1) (upd o e 0) (upd c e 0) (upd s e (nI a)) := by
  obtain ⟨op, cl, sy, t1, t2, t3, t4⟩ := txt_add (show a < 300 by omega) h1 h2 h
  refine ⟨op, cl, sy, t1, t2, fun y hy q => ?_⟩
  rcases List.mem_cons.1 hy with rfl | hy
  · show rnd nmb op cl sy e = [a]
    rw [t4]; exact if_pos ha
  · exact t3 y hy q
theorem rc_push {W : List (Nat × Nat)} {D : List Ent} {M e e' s p : Nat} {b : Int32} {sym op cl steps ops levels firsts lasts places sym' op' cl' : Nat → Int32} (h : RC N nmb W D M e sym op cl steps ops levels firsts lasts places) (hb : s ≠ 40 → b = nI p) (ht : TXT nmb ((s, p) :: W) D e' op' cl' sym') :
    RC N nmb ((s, p) :: W) D M e' sym' op' cl' steps (upd ops W.length (nI s)) levels firsts lasts (upd places W.length b) := by
  obtain ⟨r1, r2, r3, r4⟩ := h
  refine ⟨⟨⟨upd_same, fun q => by rw [upd_same]; exact hb q⟩, stk_mono r1 (fun i y hi q => ⟨by rw [upd_ne (by omega)]; exact q.1, fun q2 => by rw [upd_ne (by omega)]; exact q.2 q2⟩)⟩, r2, ht, r4⟩
theorem txt_par {W : List (Nat × Nat)} {D : List Ent} {e p : Nat} {o c s : Nat → Int32} (h : TXT nmb W D e o c s) : TXT nmb ((40, p) :: W) D e o c s := by
  obtain ⟨op, cl, sy, t1, t2, t3⟩ := h
  refine ⟨op, cl, sy, t1, t2, fun y hy q => ?_⟩
  rcases List.mem_cons.1 hy with rfl | hy
  · exact absurd rfl q
  · exact t3 y hy q
theorem oc_cons (y : Nat × Nat) (W : List (Nat × Nat)) : oc (y :: W) = (if y.1 = 33 ∨ y.1 = 40 then 1 else 0) + oc W := rfl
theorem pc_cons (y : Nat × Nat) (W : List (Nat × Nat)) : pc (y :: W) = (if y.1 = 40 then 1 else 0) + pc W := rfl
theorem xo_not {W : List (Nat × Nat)} {D : List Ent} {M e : Nat} {cd nm : Int32} {nc sym op cl steps ops levels firsts lasts places : Nat → Int32} (hA : layA W D e) (he : e < 160) (hw : W.length < 160) (hoc : oc W < 20) (hR : RC N nmb W D M e sym op cl steps ops levels firsts lasts places) :
    ∃ sym' op' cl' ops' pls', f_X6_takeOperand 4 33 cd nm nc (nI W.length) (nI D.length) (nI (oc W)) (nI (pc W)) (nI e) (nI M) sym op cl steps ops levels firsts lasts places = some (0, 4, nI ((33, e) :: W).length, nI D.length, nI (oc ((33, e) :: W)), nI (pc ((33, e) :: W)), nI (e + 1), nI M, sym', op', cl', steps, ops', levels, firsts, lasts, pls') ∧ RC N nmb ((33, e) :: W) D M (e + 1) sym' op' cl' steps ops' levels firsts lasts pls' := by
  have hl := lay_lt hA
  have hT := txt_push (nmb := nmb) (a := 33) (by omega) hl.1 hl.2 hR.2.2.1
  have hR' := rc_push (b := nI e) (s := 33) (p := e) hR (fun _ => rfl) hT
  have e1 : oc ((33, e) :: W) = oc W + 1 := by rw [oc_cons, if_pos (Or.inl rfl), Nat.add_comm]
  have e2 : pc ((33, e) :: W) = pc W := by rw [pc_cons, if_neg (show ¬ (33 : Nat) = 40 by decide), Nat.zero_add]
  unfold f_X6_takeOperand jn
  dsimp only
  rw [if_pos (c := (33 : Int32) = 33) rfl]
  unfold f_X1_openSign
  rw [if_pos (show nI (oc W) < (20 : Int32) from nI_lt (b := 20) hoc (by decide)), if_neg (c := (33 : Int32) = 40) (by decide), addSymbol_ok he, Option.bind_some]
  dsimp only
  rw [pushOp_ok hw, Option.bind_some, Option.bind_some]
  dsimp only
  rw [if_neg (c := b2i true = 0) (by decide), nI_1, e1, e2]
  exact ⟨_, _, _, _, _, rfl, hR'⟩
theorem xo_par {W : List (Nat × Nat)} {D : List Ent} {M e : Nat} {cd nm : Int32} {nc sym op cl steps ops levels firsts lasts places : Nat → Int32} (hw : W.length < 160) (hoc : oc W < 20) (hR : RC N nmb W D M e sym op cl steps ops levels firsts lasts places) :
    ∃ sym' op' cl' ops' pls', f_X6_takeOperand 4 40 cd nm nc (nI W.length) (nI D.length) (nI (oc W)) (nI (pc W)) (nI e) (nI M) sym op cl steps ops levels firsts lasts places = some (0, 4, nI ((40, e) :: W).length, nI D.length, nI (oc ((40, e) :: W)), nI (pc ((40, e) :: W)), nI e, nI M, sym', op', cl', steps, ops', levels, firsts, lasts, pls') ∧ RC N nmb ((40, e) :: W) D M e sym' op' cl' steps ops' levels firsts lasts pls' := by
  have hR' := rc_push (b := -1) (s := 40) (p := e) hR (fun q => absurd rfl q) (txt_par hR.2.2.1)
  have e1 : oc ((40, e) :: W) = oc W + 1 := by rw [oc_cons, if_pos (Or.inr rfl), Nat.add_comm]
  have e2 : pc ((40, e) :: W) = pc W + 1 := by rw [pc_cons, if_pos rfl, Nat.add_comm]
  unfold f_X6_takeOperand jn
  dsimp only
  rw [if_neg (c := (40 : Int32) = 33) (by decide), if_pos (c := (40 : Int32) = 40) rfl]
  unfold f_X1_openSign
  rw [if_pos (show nI (oc W) < (20 : Int32) from nI_lt (b := 20) hoc (by decide)), if_pos (c := (40 : Int32) = 40) rfl, pushOp_ok hw, Option.bind_some, Option.bind_some]
  dsimp only
  rw [if_neg (c := b2i true = 0) (by decide), nI_1, nI_1, e1, e2]
  exact ⟨_, _, _, _, _, rfl, hR'⟩
theorem xo_full {w d o p e M : Int32} {k : Int32} (hk : k = 33 ∨ k = 40) (ho : o = 20) {cd nm : Int32} {nc sym op cl steps ops levels firsts lasts places : Nat → Int32} : f_X6_takeOperand 4 k cd nm nc w d o p e M sym op cl steps ops levels firsts lasts places = some (1, 4, w, d, o, p, e, M, sym, op, cl, steps, ops, levels, firsts, lasts, places) := by
  subst ho
  have hs : f_X1_openSign w 20 p e sym op cl ops places k = some (false, w, 20, p, e, sym, op, cl, ops, places) := by
    unfold f_X1_openSign
    rw [if_neg (c := (20 : Int32) < 20) (by decide)]
  unfold f_X6_takeOperand jn
  dsimp only
  rw [hs, Option.bind_some]
  dsimp only
  rw [if_pos (c := b2i false = 0) (by decide)]
  rcases hk with rfl | rfl
  · rw [if_pos (c := (33 : Int32) = 33) rfl]
  · rw [if_neg (c := (40 : Int32) = 33) (by decide), if_pos (c := (40 : Int32) = 40) rfl]
theorem apply_ok {L e : Nat} (hL : 1 ≤ L) (hL6 : L ≤ 6) {W : List (Nat × Nat)} {D : List Ent} {M : Nat} (T : TT) {sym op cl steps ops levels firsts lasts places : Nat → Int32} (hw : W.length ≤ 160) (hB : layB W D e) (he : e ≤ 160) (hM : M + W.length ≤ 160) (hD : D.length ≤ 160) (h6 : ∀ x ∈ D, eV x ≤ 6) (hR : RC N nmb W D M e sym op cl steps ops levels firsts lasts places) :
    ∃ (steps' levels' firsts' lasts' op' cl' : Nat → Int32), f_X1_applyDownTo (nI W.length) (nI D.length) (nI (oc W)) ops (nI M) steps levels firsts lasts op cl places (nI L) = some (nI (red L W D M T).1.length, nI (red L W D M T).2.1.length, nI (oc (red L W D M T).1), nI (red L W D M T).2.2.1, steps', levels', firsts', lasts', op', cl') ∧ RC N nmb (red L W D M T).1 (red L W D M T).2.1 (red L W D M T).2.2.1 e sym op' cl' steps' ops levels' firsts' lasts' places := by
  have h := app_x hL hL6 W D M T 5000 steps levels firsts lasts op cl (by omega) hB he hM hD h6 hR
  unfold f_X1_applyDownTo
  rw [tp_sub]
  exact h
def leafv (N a w : Nat) : Int64 := if 256 ≤ a then nmv N (a - 256) w else if a = 48 then 0 else -1
def newE (N : Nat) (nmb : Nat → List Nat) (M e a : Nat) : Ent := (M, e, e, 6, false, sby nmb a, fun w => leafv N a w)
theorem stepf_leaf {w a : Nat} (ha : 256 ≤ a ∨ a = 48 ∨ a = 49) (st : List Int64) : stepf N w a st = leafv N a w :: st := by
  unfold stepf leafv
  rcases ha with h | h | h
  · rw [if_pos h, if_pos h]
  · rw [if_neg (by omega), if_pos h, if_neg (by omega), if_pos h]
  · rw [if_neg (by omega), if_neg (by omega), if_pos h, if_neg (by omega), if_neg (by omega)]
theorem rc_leaf {W : List (Nat × Nat)} {D : List Ent} {M e a : Nat} {sym op cl steps ops levels firsts lasts places : Nat → Int32} (ha3 : a < 300) (ha : 256 ≤ a ∨ a = 48 ∨ a = 49) (hA : layA W D e) (hR : RC N nmb W D M e sym op cl steps ops levels firsts lasts places) :
    RC N nmb W (newE N nmb M e a :: D) (M + 1) (e + 1) (upd sym e (nI a)) (upd op e 0) (upd cl e 0) (upd steps M (nI a)) ops (upd levels D.length 6) (upd firsts D.length (nI e)) (upd lasts D.length (nI e)) places := by
  have hl := lay_lt hA
  obtain ⟨r1, r2, r3, r4⟩ := hR
  obtain ⟨o', c', s', t1, t2, t3, t4⟩ := txt_add ha3 hl.1 hl.2 r3
  refine ⟨r1, ⟨⟨by rw [upd_same]; rfl, by rw [upd_same]; rfl, by rw [upd_same]; rfl⟩, stk_mono r2 (fun i x hi q => ⟨by rw [upd_ne (by omega)]; exact q.1, by rw [upd_ne (by omega)]; exact q.2.1, by rw [upd_ne (by omega)]; exact q.2.2⟩)⟩, ⟨o', c', s', t1, fun x hx => ?_, t3⟩, ?_⟩
  · rcases List.mem_cons.1 hx with rfl | hx
    · show seg nmb o' c' s' e (e + 1 - e) = sby nmb a
      rw [show e + 1 - e = 1 by omega, seg_one, t4]
    · exact t2 x hx
  · refine stp_add N ha3 r4 (fun w => ?_)
    rw [stepf_leaf ha]
    rfl
theorem lay_leaf {W : List (Nat × Nat)} {D : List Ent} {M e a : Nat} (hA : layA W D e) : layB W (newE N nmb M e a :: D) (e + 1) :=
  ⟨_, _, rfl, rfl, Nat.le_refl _, Or.inr (rq_le6 hA), hA⟩
theorem addOperand_ok {W : List (Nat × Nat)} {D : List Ent} {M e a : Nat} (T : TT) {sym op cl steps ops levels firsts lasts places : Nat → Int32} (ha3 : a < 300) (ha : 256 ≤ a ∨ a = 48 ∨ a = 49) (hA : layA W D e) (he : e < 160) (hM : M + W.length < 160) (hD : D.length < 160) (h6 : ∀ x ∈ D, eV x ≤ 6) (hR : RC N nmb W D M e sym op cl steps ops levels firsts lasts places) :
    ∃ (sym' op' cl' steps' levels' firsts' lasts' : Nat → Int32), f_X1_addOperand (nI W.length) (nI D.length) (nI (oc W)) (nI e) (nI M) sym op cl steps ops levels firsts lasts places (nI a) = some (nI (red 6 W (newE N nmb M e a :: D) (M + 1) T).1.length, nI (red 6 W (newE N nmb M e a :: D) (M + 1) T).2.1.length, nI (oc (red 6 W (newE N nmb M e a :: D) (M + 1) T).1), nI (e + 1), nI (red 6 W (newE N nmb M e a :: D) (M + 1) T).2.2.1, sym', op', cl', steps', levels', firsts', lasts') ∧ RC N nmb (red 6 W (newE N nmb M e a :: D) (M + 1) T).1 (red 6 W (newE N nmb M e a :: D) (M + 1) T).2.1 (red 6 W (newE N nmb M e a :: D) (M + 1) T).2.2.1 (e + 1) sym' op' cl' steps' ops levels' firsts' lasts' places := by
  have hR' := rc_leaf ha3 ha hA hR
  obtain ⟨s', l', f', la', o', c', q1, q2⟩ := apply_ok (L := 6) (by omega) (by omega) T (by omega) (lay_leaf (M := M) (a := a) hA) (by omega) (by omega) (by rw [List.length_cons]; omega) (fun x hx => by
    rcases List.mem_cons.1 hx with rfl | hx
    · exact Nat.le_refl 6
    · exact h6 x hx) hR'
  unfold f_X1_addOperand
  rw [addSymbol_ok he, Option.bind_some]
  dsimp only
  rw [addStep_ok (by omega), Option.bind_some]
  dsimp only
  rw [w160 hD, Option.bind_some, if_neg (c := b2i true = 0) (by decide), if_pos (ix_t hD (by decide)), if_pos (ix_t hD (by decide)), if_pos (ix_t hD (by decide)), nI_clamp (by omega), nI_1]
  rw [List.length_cons] at q1
  rw [show f_X1_applyDownTo (nI W.length) (nI (D.length + 1)) (nI (oc W)) ops (nI (M + 1)) (upd steps M (nI a)) (upd levels D.length 6) (upd firsts D.length (nI e)) (upd lasts D.length (nI e)) (upd op e 0) (upd cl e 0) places 6 = _ from q1, Option.bind_some]
  exact ⟨_, _, _, _, _, _, _, rfl, q2⟩
theorem xo_operand {W : List (Nat × Nat)} {D : List Ent} {M e a : Nat} (T : TT) {k cd nm : Int32} {nc sym op cl steps ops levels firsts lasts places : Nat → Int32} (hk : (k = 256 ∧ ∃ i, f_X0_find nm nc cd = some (nI i) ∧ i < 12 ∧ a = 256 + i) ∨ (k = 48 ∧ a = 48) ∨ (k = 49 ∧ a = 49)) (hA : layA W D e) (he : e < 160) (hM : M + W.length < 160) (hD : D.length < 160) (h6 : ∀ x ∈ D, eV x ≤ 6) (hR : RC N nmb W D M e sym op cl steps ops levels firsts lasts places) :
    ∃ (sym' op' cl' steps' levels' firsts' lasts' : Nat → Int32), f_X6_takeOperand 4 k cd nm nc (nI W.length) (nI D.length) (nI (oc W)) (nI (pc W)) (nI e) (nI M) sym op cl steps ops levels firsts lasts places = some (0, 5, nI (red 6 W (newE N nmb M e a :: D) (M + 1) T).1.length, nI (red 6 W (newE N nmb M e a :: D) (M + 1) T).2.1.length, nI (oc (red 6 W (newE N nmb M e a :: D) (M + 1) T).1), nI (pc W), nI (e + 1), nI (red 6 W (newE N nmb M e a :: D) (M + 1) T).2.2.1, sym', op', cl', steps', ops, levels', firsts', lasts', places) ∧ RC N nmb (red 6 W (newE N nmb M e a :: D) (M + 1) T).1 (red 6 W (newE N nmb M e a :: D) (M + 1) T).2.1 (red 6 W (newE N nmb M e a :: D) (M + 1) T).2.2.1 (e + 1) sym' op' cl' steps' ops levels' firsts' lasts' places := by
  have ha3 : a < 300 ∧ (256 ≤ a ∨ a = 48 ∨ a = 49) := by
    rcases hk with ⟨-, i, -, h2, h3⟩ | ⟨-, h⟩ | ⟨-, h⟩
    · omega
    · omega
    · omega
  obtain ⟨y', o', c', s', l', f', la', q1, q2⟩ := addOperand_ok T ha3.1 ha3.2 hA he hM hD h6 hR
  refine ⟨y', o', c', s', l', f', la', ?_, q2⟩
  unfold f_X6_takeOperand jn
  dsimp only
  rcases hk with ⟨rfl, i, hf, hi, rfl⟩ | ⟨rfl, rfl⟩ | ⟨rfl, rfl⟩
  · rw [if_neg (c := (256 : Int32) = 33) (by decide), if_neg (c := (256 : Int32) = 40) (by decide), if_pos (c := (256 : Int32) = 256) rfl, if_pos (c := (256 : Int32) = 256) rfl, hf, Option.bind_some, if_neg (show ¬ nI i = (-1 : Int32) from nI_nm1 (by omega)), show (256 : Int32) + nI i = nI (256 + i) from nI_add 256 i, q1, Option.bind_some]
  · rw [if_neg (c := (48 : Int32) = 33) (by decide), if_neg (c := (48 : Int32) = 40) (by decide), if_neg (c := (48 : Int32) = 256) (by decide), if_pos (c := (48 : Int32) = 48) rfl, if_neg (c := (48 : Int32) = 256) (by decide), if_neg (c := (0 : Int32) = -1) (by decide), show (48 : Int32) + 0 = nI 48 from rfl, q1, Option.bind_some]
  · rw [if_neg (c := (49 : Int32) = 33) (by decide), if_neg (c := (49 : Int32) = 40) (by decide), if_neg (c := (49 : Int32) = 256) (by decide), if_neg (c := (49 : Int32) = 48) (by decide), if_pos (c := (49 : Int32) = 49) rfl, if_neg (c := (49 : Int32) = 256) (by decide), if_neg (c := (0 : Int32) = -1) (by decide), show (49 : Int32) + 0 = nI 49 from rfl, q1, Option.bind_some]
theorem xo_name {w d o p e M cd nm : Int32} {nc sym op cl steps ops levels firsts lasts places : Nat → Int32} (hf : f_X0_find nm nc cd = some (-1)) : f_X6_takeOperand 4 256 cd nm nc w d o p e M sym op cl steps ops levels firsts lasts places = some (2, 4, w, d, o, p, e, M, sym, op, cl, steps, ops, levels, firsts, lasts, places) := by
  unfold f_X6_takeOperand jn
  dsimp only
  rw [if_neg (c := (256 : Int32) = 33) (by decide), if_neg (c := (256 : Int32) = 40) (by decide), if_pos (c := (256 : Int32) = 256) rfl, if_pos (c := (256 : Int32) = 256) rfl, hf, Option.bind_some, if_pos (c := (-1 : Int32) = -1) rfl]
theorem xo_else {w d o p e M cd nm : Int32} {k : Int32} (hk : k ≠ 33 ∧ k ≠ 40 ∧ k ≠ 256 ∧ k ≠ 48 ∧ k ≠ 49) {nc sym op cl steps ops levels firsts lasts places : Nat → Int32} : f_X6_takeOperand 4 k cd nm nc w d o p e M sym op cl steps ops levels firsts lasts places = some (1, 4, w, d, o, p, e, M, sym, op, cl, steps, ops, levels, firsts, lasts, places) := by
  unfold f_X6_takeOperand jn
  dsimp only
  rw [if_neg hk.1, if_neg hk.2.1, if_neg hk.2.2.1, if_neg hk.2.2.2.1, if_neg hk.2.2.2.2]
end FST
