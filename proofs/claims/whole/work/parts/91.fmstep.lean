/-! the reference's steps in the formula -/
abbrev MT : Type := Bool × Int32 × Int32 × Int32 × Int32 × Int32 × Int32 × Int32 × Int32 × Int32 × Int32 × Int32 × Int32 × (Nat → Int32) × (Nat → Int32) × (Nat → Int32) × (Nat → Int32) × (Nat → Int32)
abbrev MK : Type := Int32 → Int32 → Int32 → Int32 → Int32 → Int32 → Int32 → Int32 → Int32 → Int32 → Int32 → Int32 → (Nat → Int32) → (Nat → Int32) → (Nat → Int32) → (Nat → Int32) → (Nat → Int32) → Option MT
def MF (R : MT) (f b : Int32) : Prop := R.1 = false ∧ R.2.2.2.2.2.2.1 = f ∧ R.2.2.2.2.2.2.2.1 = b
section FMS
variable {sz nm tp bg en tks cd fk fp : Int32} {tx nc : Nat → Int32} {K : MK}
def TK (sz nm tp : Int32) (tx nc : Nat → Int32) (n : Nat) (x1 tok bg en tks cd fk fp nd ws ds op : Int32) (wait done kind left right : Nat → Int32) (K : MK) : Option MT :=
  (f_X12_takes sz tok bg en tks cd fk fp tx).bind fun (r, tok', bg', en', tks', cd', fk', fp') => if b2i r = 0 then some (false, tok', bg', en', tks', cd', fk', fp', nd, tp, ws, ds, op, wait, done, kind, left, right) else lp_X12_formula_22 sz nm tp tx nc n x1 tok' bg' en' tks' cd' fk' fp' nd ws ds op wait done kind left right K
theorem mo_open {n t w o : Nat} {nd ds : Int32} {wait done kind left right : Nat → Int32} (ht : t = 33 ∨ t = 40) (ho : o < 20) (hw : w < 161) :
    lp_X12_formula_22 sz nm tp tx nc (n + 1) 1 (nI t) bg en tks cd fk fp nd (nI w) ds (nI o) wait done kind left right K = TK sz nm tp tx nc n 1 (nI t) bg en tks cd fk fp nd (nI (w + 1)) ds (nI (o + 1)) (upd wait w (nI t)) done kind left right K := by
  rw [lp_X12_formula_22]
  unfold jn TK
  dsimp only
  rw [if_neg (c := (1 : Int32) = 0) (by decide), if_neg (c := (1 : Int32) = 0) (by decide), if_neg (nI_neL (k := 20) (c := 20) (by omega) (by omega) (by omega)), if_pos (ix_t hw (by decide)), nI_1, nI_1, nI_clamp (by omega)]
  rcases ht with rfl | rfl
  · rw [if_pos (c := nI 33 = 33) rfl]
  · rw [if_neg (c := nI 40 = 33) (by decide), if_pos (c := nI 40 = 40) rfl]
theorem mo_full {n t : Nat} {nd ws ds : Int32} {wait done kind left right : Nat → Int32} (ht : t = 33 ∨ t = 40) :
    ∃ R, lp_X12_formula_22 sz nm tp tx nc (n + 1) 1 (nI t) bg en tks cd fk fp nd ws ds (nI 20) wait done kind left right K = some R ∧ MF R 1 bg := by
  rw [lp_X12_formula_22]
  unfold jn f_X12_refuses
  dsimp only
  rw [if_neg (c := (1 : Int32) = 0) (by decide), if_neg (c := (1 : Int32) = 0) (by decide), if_pos (c := nI 20 = 20) rfl, Option.bind_some]
  dsimp only
  rcases ht with rfl | rfl
  · rw [if_pos (c := nI 33 = 33) rfl]
    exact ⟨_, rfl, rfl, rfl, rfl⟩
  · rw [if_neg (c := nI 40 = 33) (by decide), if_pos (c := nI 40 = 40) rfl]
    exact ⟨_, rfl, rfl, rfl, rfl⟩
theorem mo_name {n : Nat} {nd ws ds op : Int32} {wait done kind left right : Nat → Int32} (hf : f_X12_find nm nc cd = some (-1)) :
    ∃ R, lp_X12_formula_22 sz nm tp tx nc (n + 1) 1 (nI 110) bg en tks cd fk fp nd ws ds op wait done kind left right K = some R ∧ MF R 2 bg := by
  rw [lp_X12_formula_22]
  unfold jn
  dsimp only
  rw [if_neg (c := (1 : Int32) = 0) (by decide), if_neg (c := (1 : Int32) = 0) (by decide), if_neg (c := nI 110 = 33) (by decide), if_neg (c := nI 110 = 40) (by decide), if_pos (c := nI 110 = 110) rfl, if_pos (c := nI 110 = 110) rfl, hf, Option.bind_some, if_pos (c := (-1 : Int32) = -1) rfl]
  unfold f_X12_refuses
  rw [Option.bind_some]
  exact ⟨_, rfl, rfl, rfl, rfl⟩
theorem mo_else {n t : Nat} {nd ws ds op : Int32} {wait done kind left right : Nat → Int32} (ht : t < 2 ^ 31) (h : t ≠ 33 ∧ t ≠ 40 ∧ t ≠ 110 ∧ t ≠ 48 ∧ t ≠ 49) :
    ∃ R, lp_X12_formula_22 sz nm tp tx nc (n + 1) 1 (nI t) bg en tks cd fk fp nd ws ds op wait done kind left right K = some R ∧ MF R 1 bg := by
  rw [lp_X12_formula_22]
  unfold jn
  dsimp only
  rw [if_neg (c := (1 : Int32) = 0) (by decide), if_neg (c := (1 : Int32) = 0) (by decide), if_neg (nI_neL (k := 33) (c := 33) ht (by omega) h.1), if_neg (nI_neL (k := 40) (c := 40) ht (by omega) h.2.1), if_neg (nI_neL (k := 110) (c := 110) ht (by omega) h.2.2.1), if_neg (nI_neL (k := 48) (c := 48) ht (by omega) h.2.2.2.1), if_neg (nI_neL (k := 49) (c := 49) ht (by omega) h.2.2.2.2)]
  unfold f_X12_refuses
  rw [Option.bind_some]
  exact ⟨_, rfl, rfl, rfl, rfl⟩
theorem rm_leaf {N : Nat} {nmb : Nat → List Nat} {W : List (Nat × Nat)} {D : List Ent} {M e a k i : Nat} {T : TT} {X : List Nat} {U : Nat → Int64} {wait done kind left right : Nat → Int32} (h : RM W D M T wait done kind left right) : RM W (newE N nmb M e a :: D) (M + 1) (up T M (k, i, 0, X, U)) wait (upd done D.length (nI M)) (upd kind M (nI k)) (upd left M (nI i)) (upd right M 0) := by
  obtain ⟨h1, h2, h3⟩ := h
  exact ⟨h1, ⟨upd_same, stk_mono h2 (fun i x hi q => by rw [upd_ne (by omega)]; exact q)⟩, rm_add (b := 0) h3⟩
theorem mo_leaf {N : Nat} {nmb : Nat → List Nat} {W W1 : List (Nat × Nat)} {D D1 : List Ent} {M M1 e a n t i : Nat} {T T1 : TT} {X : List Nat} {U : Nat → Int64} {wait done kind left right : Nat → Int32} (ht : (t = 110 ∧ f_X12_find nm nc cd = some (nI i) ∧ i < 12) ∨ ((t = 48 ∨ t = 49) ∧ i = 0)) (hM : M + W.length < 160) (hD : D.length < 160) (hB : layB W (newE N nmb M e a :: D) (e + 1)) (hr : red 6 W (newE N nmb M e a :: D) (M + 1) (up T M (t, i, 0, X, U)) = (W1, D1, M1, T1)) (hR : RM W D M T wait done kind left right) :
    ∃ done' kind' left' right', lp_X12_formula_22 sz nm tp tx nc (n + 1) 1 (nI t) bg en tks cd fk fp (nI M) (nI W.length) (nI D.length) (nI (oc W)) wait done kind left right K = TK sz nm tp tx nc n 0 (nI t) bg en tks cd fk fp (nI M1) (nI W1.length) (nI D1.length) (nI (oc W1)) wait done' kind' left' right' K ∧ RM W1 D1 M1 T1 wait done' kind' left' right' := by
  obtain ⟨d', k', l', r', q1, q2⟩ := turns_m W (newE N nmb M e a :: D) (M + 1) (up T M (t, i, 0, X, U)) 5000 _ _ _ _ (by omega) hB (by omega) (by rw [List.length_cons]; omega) (rm_leaf (e := e) (a := a) (N := N) (nmb := nmb) (k := t) (i := i) (X := X) (U := U) hR)
  rw [hr] at q1 q2
  rw [List.length_cons] at q1
  refine ⟨d', k', l', r', ?_, q2⟩
  have hb : ((f_X12_node (nI M) kind left right (nI t) (nI i) 0).bind fun (r_200, v_nodeMany_201, v_kind_202, v_left_203, v_right_204) =>
    (f_X12_pushes (nI D.length) done r_200).bind fun (v_dones_206, v_done_207) =>
    (f_X12_turns v_nodeMany_201 (nI W.length) v_dones_206 (nI (oc W)) wait v_done_207 v_kind_202 v_left_203 v_right_204).bind fun (v_nodeMany_209, v_waits_210, v_dones_211, v_opened_212, v_done_213, v_kind_214, v_left_215, v_right_216) =>
    TK sz nm tp tx nc n 0 (nI t) bg en tks cd fk fp v_nodeMany_209 v_waits_210 v_dones_211 v_opened_212 wait v_done_213 v_kind_214 v_left_215 v_right_216 K) = TK sz nm tp tx nc n 0 (nI t) bg en tks cd fk fp (nI M1) (nI W1.length) (nI D1.length) (nI (oc W1)) wait d' k' l' r' K := by
    rw [node_ok (by omega), Option.bind_some]
    dsimp only
    rw [push_ok (by omega), Option.bind_some]
    dsimp only
    rw [show f_X12_turns (nI (M + 1)) (nI W.length) (nI (D.length + 1)) (nI (oc W)) wait (upd done D.length (nI M)) (upd kind M (nI t)) (upd left M (nI i)) (upd right M 0) = _ from q1, Option.bind_some]
  rw [lp_X12_formula_22]
  unfold jn
  dsimp only
  rw [if_neg (c := (1 : Int32) = 0) (by decide), if_neg (c := (1 : Int32) = 0) (by decide)]
  rcases ht with ⟨rfl, hf, hi⟩ | ⟨rfl | rfl, rfl⟩
  · rw [if_neg (c := nI 110 = 33) (by decide), if_neg (c := nI 110 = 40) (by decide), if_pos (c := nI 110 = 110) rfl, if_pos (c := nI 110 = 110) rfl, hf, Option.bind_some, if_neg (nI_nm1 (by omega))]
    exact hb
  · rw [if_neg (c := nI 48 = 33) (by decide), if_neg (c := nI 48 = 40) (by decide), if_neg (c := nI 48 = 110) (by decide), if_pos (c := nI 48 = 48) rfl, if_neg (c := nI 48 = 110) (by decide), if_neg (c := (0 : Int32) = -1) (by decide)]
    exact hb
  · rw [if_neg (c := nI 49 = 33) (by decide), if_neg (c := nI 49 = 40) (by decide), if_neg (c := nI 49 = 110) (by decide), if_neg (c := nI 49 = 48) (by decide), if_pos (c := nI 49 = 49) rfl, if_neg (c := nI 49 = 110) (by decide), if_neg (c := (0 : Int32) = -1) (by decide)]
    exact hb
theorem mb_op {W W1 : List (Nat × Nat)} {D D1 : List Ent} {M M1 e n t : Nat} {T T1 : TT} {op : Int32} {wait done kind left right : Nat → Int32} (ht : isB t) (hw : W.length ≤ 160) (hB : layB W D e) (h33 : nt33 W) (hM : M + W.length ≤ 160) (hD : D.length ≤ 160) (hr : red (reqL t) W D M T = (W1, D1, M1, T1)) (hw1 : W1.length < 160) (hR : RM W D M T wait done kind left right) :
    ∃ done' kind' left' right', lp_X12_formula_22 sz nm tp tx nc (n + 1) 0 (nI t) bg en tks cd fk fp (nI M) (nI W.length) (nI D.length) op wait done kind left right K = TK sz nm tp tx nc n 1 (nI t) bg en tks cd fk fp (nI M1) (nI ((t, e) :: W1).length) (nI D1.length) op (upd wait W1.length (nI t)) done' kind' left' right' K ∧ RM ((t, e) :: W1) D1 M1 T1 (upd wait W1.length (nI t)) done' kind' left' right' := by
  have hl := isB_lev ht
  have ht0 : 0 < t := by rcases ht with rfl | rfl | rfl | rfl | rfl <;> decide
  obtain ⟨d', k', l', r', q1, q2⟩ := join_361 (y1 := 0) (sz := sz) (tk := nI t) (bg := bg) (en := en) (tks := tks) (cd := cd) (fk := fk) (fp := fp) (nm := nm) (tp := tp) (op := op) (tx := tx) (nc := nc) (wait := wait) (lev_m (show t < 2 ^ 31 by omega)) (WLop ht) W D M T 5000 done kind left right (fun a b c d f g h => if ix b 161 then TK sz nm tp tx nc n 1 (nI t) bg en tks cd fk fp a (b + (1 : Int32)) c op (upd wait b.toNatClampNeg (nI t)) d f g h K else none) (by omega) hB h33 hM hD hR
  rw [hr] at q1 q2
  dsimp only at q1 q2
  rw [if_pos (ix_t (show W1.length < 161 by omega) (by decide)), nI_1, nI_clamp (by omega)] at q1
  refine ⟨d', k', l', r', ?_, ⟨upd_same, stk_mono q2.1 (fun i x hi q => by rw [upd_ne (by omega)]; exact q)⟩, q2.2.1, q2.2.2⟩
  rw [lp_X12_formula_22]
  unfold jn
  dsimp only
  rw [if_pos (c := (0 : Int32) = 0) rfl, if_pos (c := (0 : Int32) = 0) rfl, if_neg (nI_ne0 (by omega) (by omega)), if_neg (nI_neL (k := 41) (c := 41) (by omega) (by omega) (by rcases ht with rfl | rfl | rfl | rfl | rfl <;> decide)), if_neg (nI_ne0 (by omega) (by omega))]
  rcases ht with rfl | rfl | rfl | rfl | rfl
  · rw [if_pos (c := nI 61 = 61) rfl]
    exact q1
  · rw [if_neg (c := nI 62 = 61) (by decide), if_pos (c := nI 62 = 62) rfl]
    exact q1
  · rw [if_neg (c := nI 124 = 61) (by decide), if_neg (c := nI 124 = 62) (by decide), if_pos (c := nI 124 = 124) rfl]
    exact q1
  · rw [if_neg (c := nI 94 = 61) (by decide), if_neg (c := nI 94 = 62) (by decide), if_neg (c := nI 94 = 124) (by decide), if_pos (c := nI 94 = 94) rfl]
    exact q1
  · rw [if_neg (c := nI 38 = 61) (by decide), if_neg (c := nI 38 = 62) (by decide), if_neg (c := nI 38 = 124) (by decide), if_neg (c := nI 38 = 94) (by decide), if_pos (c := nI 38 = 38) rfl]
    exact q1
theorem mb_else {n t : Nat} {nd ws ds op : Int32} {wait done kind left right : Nat → Int32} (ht : t < 2 ^ 31) (h0 : t ≠ 0) (h41 : t ≠ 41) (h : ¬ isB t) :
    ∃ R, lp_X12_formula_22 sz nm tp tx nc (n + 1) 0 (nI t) bg en tks cd fk fp nd ws ds op wait done kind left right K = some R ∧ MF R 1 bg := by
  unfold isB at h
  rw [lp_X12_formula_22]
  unfold jn
  dsimp only
  rw [if_pos (c := (0 : Int32) = 0) rfl, if_pos (c := (0 : Int32) = 0) rfl, if_neg (nI_ne0 (by omega) ht), if_neg (nI_neL (k := 41) (c := 41) ht (by omega) h41), if_neg (nI_ne0 (by omega) ht), if_neg (nI_neL (k := 61) (c := 61) ht (by omega) (by omega)), if_neg (nI_neL (k := 62) (c := 62) ht (by omega) (by omega)), if_neg (nI_neL (k := 124) (c := 124) ht (by omega) (by omega)), if_neg (nI_neL (k := 94) (c := 94) ht (by omega) (by omega)), if_neg (nI_neL (k := 38) (c := 38) ht (by omega) (by omega))]
  unfold f_X12_refuses
  rw [Option.bind_some]
  exact ⟨_, rfl, rfl, rfl, rfl⟩
theorem rm_close {y : Nat × Nat} {W : List (Nat × Nat)} {D : List Ent} {M : Nat} {T : TT} {wait done kind left right : Nat → Int32} (h : RM (y :: W) D M T wait done kind left right) : RM W (setC D) M T wait done kind left right := by
  obtain ⟨h1, h2, h3⟩ := h
  refine ⟨h1.2, ?_, h3⟩
  cases D with
  | nil => exact h2
  | cons a D => exact h2
def KC (sz nm tp bg en tks cd fk fp op : Int32) (tx nc wait : Nat → Int32) (n : Nat) (K : MK) : Int32 → Int32 → Int32 → (Nat → Int32) → (Nat → Int32) → (Nat → Int32) → (Nat → Int32) → Option MT := fun a b c d f g h => if b = 0 then ((f_X12_refuses bg fk fp 1).bind fun (r_177, v_faultKind_178, v_faultPlace_179) => some (r_177, nI 41, bg, en, tks, cd, v_faultKind_178, v_faultPlace_179, a, tp, b, c, op, wait, d, f, g, h)) else ((f_X12_turns a (b - (1 : Int32)) c (op - (1 : Int32)) wait d f g h).bind fun (v_nodeMany_158, v_waits_159, v_dones_160, v_opened_161, v_done_162, v_kind_163, v_left_164, v_right_165) => TK sz nm tp tx nc n 0 (nI 41) bg en tks cd fk fp v_nodeMany_158 v_waits_159 v_dones_160 v_opened_161 wait v_done_162 v_kind_163 v_left_164 v_right_165 K)
theorem mb_close {W W2 W3 : List (Nat × Nat)} {D D1 D3 : List Ent} {M M1 M3 e n p : Nat} {T T1 T3 : TT} {op : Int32} {wait done kind left right : Nat → Int32} (hop : op = nI (oc W)) (hr : red 1 W D M T = ((40, p) :: W2, D1, M1, T1)) (hr3 : red 6 W2 (setC D1) M1 T1 = (W3, D3, M3, T3)) (hoc : oc W = oc ((40, p) :: W2)) (hw : W.length ≤ 160) (hB : layB W D e) (h33 : nt33 W) (hM : M + W.length ≤ 160) (hD : D.length ≤ 160) (hB2 : layB W2 (setC D1) e) (hM2 : M1 + W2.length ≤ 160) (hD2 : D1.length ≤ 160) (hR : RM W D M T wait done kind left right) :
    ∃ done' kind' left' right', lp_X12_formula_22 sz nm tp tx nc (n + 1) 0 (nI 41) bg en tks cd fk fp (nI M) (nI W.length) (nI D.length) op wait done kind left right K = TK sz nm tp tx nc n 0 (nI 41) bg en tks cd fk fp (nI M3) (nI W3.length) (nI D3.length) (nI (oc W3)) wait done' kind' left' right' K ∧ RM W3 D3 M3 T3 wait done' kind' left' right' := by
  obtain ⟨d', k', l', r', q1, q2⟩ := join_220 (y1 := 0) (sz := sz) (tk := nI 41) (bg := bg) (en := en) (tks := tks) (cd := cd) (fk := fk) (fp := fp) (nm := nm) (tp := tp) (op := op) (tx := tx) (nc := nc) (wait := wait) WL01 W D M T 5000 done kind left right (KC sz nm tp bg en tks cd fk fp op tx nc wait n K) (by omega) hB h33 hM hD hR
  rw [hr] at q1 q2
  dsimp only at q1 q2
  obtain ⟨d2, k2, l2, r2, v1, v2⟩ := turns_m W2 (setC D1) M1 T1 5000 _ _ _ _ (by omega) hB2 hM2 (by rw [setC_len]; exact hD2) (rm_close q2)
  rw [hr3] at v1 v2
  rw [setC_len] at v1
  have e1 : op - (1 : Int32) = nI (oc W2) := by rw [hop, hoc, oc_cons, if_pos (Or.inr rfl), Nat.add_comm, nI_pred]
  have q3 : KC sz nm tp bg en tks cd fk fp op tx nc wait n K (nI M1) (nI ((40, p) :: W2).length) (nI D1.length) d' k' l' r' = TK sz nm tp tx nc n 0 (nI 41) bg en tks cd fk fp (nI M3) (nI W3.length) (nI D3.length) (nI (oc W3)) wait d2 k2 l2 r2 K := by
    unfold KC
    rw [List.length_cons, if_neg (nI_ne0 (by omega) (by omega)), nI_pred, e1, show f_X12_turns (nI M1) (nI W2.length) (nI D1.length) (nI (oc W2)) wait d' k' l' r' = _ from v1, Option.bind_some]
  refine ⟨d2, k2, l2, r2, ?_, v2⟩
  rw [lp_X12_formula_22]
  unfold jn
  dsimp only
  rw [if_pos (c := (0 : Int32) = 0) rfl, if_pos (c := (0 : Int32) = 0) rfl, if_neg (c := nI 41 = 0) (by decide), if_pos (c := nI 41 = 41) rfl]
  exact q1.trans q3
theorem mb_close_no {W W1 : List (Nat × Nat)} {D D1 : List Ent} {M M1 e n : Nat} {T T1 : TT} {op : Int32} {wait done kind left right : Nat → Int32} (hr : red 1 W D M T = (W1, D1, M1, T1)) (h1 : W1 = []) (hw : W.length ≤ 160) (hB : layB W D e) (h33 : nt33 W) (hM : M + W.length ≤ 160) (hD : D.length ≤ 160) (hR : RM W D M T wait done kind left right) :
    ∃ R, lp_X12_formula_22 sz nm tp tx nc (n + 1) 0 (nI 41) bg en tks cd fk fp (nI M) (nI W.length) (nI D.length) op wait done kind left right K = some R ∧ MF R 1 bg := by
  obtain ⟨d', k', l', r', q1, q2⟩ := join_220 (y1 := 0) (sz := sz) (tk := nI 41) (bg := bg) (en := en) (tks := tks) (cd := cd) (fk := fk) (fp := fp) (nm := nm) (tp := tp) (op := op) (tx := tx) (nc := nc) (wait := wait) WL01 W D M T 5000 done kind left right (KC sz nm tp bg en tks cd fk fp op tx nc wait n K) (by omega) hB h33 hM hD hR
  rw [hr] at q1
  dsimp only at q1
  have q3 : KC sz nm tp bg en tks cd fk fp op tx nc wait n K (nI M1) (nI W1.length) (nI D1.length) d' k' l' r' = some (false, nI 41, bg, en, tks, cd, 1, bg, nI M1, tp, nI W1.length, nI D1.length, op, wait, d', k', l', r') := by
    unfold KC f_X12_refuses
    rw [h1, show ([] : List (Nat × Nat)).length = 0 from rfl, if_pos (c := nI 0 = 0) rfl, Option.bind_some]
  refine ⟨_, Eq.trans ?_ (q1.trans q3), rfl, rfl, rfl⟩
  rw [lp_X12_formula_22]
  unfold jn
  dsimp only
  rw [if_pos (c := (0 : Int32) = 0) rfl, if_pos (c := (0 : Int32) = 0) rfl, if_neg (c := nI 41 = 0) (by decide), if_pos (c := nI 41 = 41) rfl]
  rfl
theorem mb_last {n : Nat} {nd ds op : Int32} {wait done kind left right : Nat → Int32} : lp_X12_formula_22 sz nm tp tx nc (n + 1) 0 (nI 0) bg en tks cd fk fp nd (nI 0) ds op wait done kind left right K = K 0 (nI 0) bg en tks cd fk fp nd (nI 0) ds op wait done kind left right := by
  rw [lp_X12_formula_22]
  unfold jn
  dsimp only
  rw [if_pos (c := (0 : Int32) = 0) rfl, if_pos (c := nI 0 = 0) rfl, if_pos (c := nI 0 ≤ 0) (by decide)]
theorem mb_end {W W1 : List (Nat × Nat)} {D D1 : List Ent} {M M1 e n : Nat} {T T1 : TT} {op : Int32} {wait done kind left right : Nat → Int32} (hr : red 1 W D M T = (W1, D1, M1, T1)) (hw : W.length ≤ 160) (hB : layB W D e) (h33 : nt33 W) (hM : M + W.length ≤ 160) (hD : D.length ≤ 160) (hR : RM W D M T wait done kind left right) :
    ∃ done' kind' left' right', RM W1 D1 M1 T1 wait done' kind' left' right' ∧ (W1 = [] → lp_X12_formula_22 sz nm tp tx nc (n + 1 + 1) 0 (nI 0) bg en tks cd fk fp (nI M) (nI W.length) (nI D.length) op wait done kind left right K = K 0 (nI 0) bg en tks cd fk fp (nI M1) (nI 0) (nI D1.length) op wait done' kind' left' right') ∧ (0 < W1.length → W1.length ≤ 160 → 0 < W.length → ∃ R, lp_X12_formula_22 sz nm tp tx nc (n + 1 + 1) 0 (nI 0) bg en tks cd fk fp (nI M) (nI W.length) (nI D.length) op wait done kind left right K = some R ∧ MF R 1 bg) := by
  obtain ⟨d', k', l', r', q1, q2⟩ := join_288 (y1 := 0) (sz := sz) (tk := nI 0) (bg := bg) (en := en) (tks := tks) (cd := cd) (fk := fk) (fp := fp) (nm := nm) (tp := tp) (op := op) (tx := tx) (nc := nc) (wait := wait) WL01 W D M T 5000 done kind left right (fun a b c d f g h => if b ≤ 0 then lp_X12_formula_22 sz nm tp tx nc (n + 1) 0 (nI 0) bg en tks cd fk fp a b c op wait d f g h K else ((f_X12_refuses bg fk fp 1).bind fun (r_135, v_faultKind_136, v_faultPlace_137) => some (r_135, nI 0, bg, en, tks, cd, v_faultKind_136, v_faultPlace_137, a, tp, b, c, op, wait, d, f, g, h))) (by omega) hB h33 hM hD hR
  rw [hr] at q1 q2
  dsimp only at q1 q2
  have hgo : 0 < W.length → lp_X12_formula_22 sz nm tp tx nc (n + 1 + 1) 0 (nI 0) bg en tks cd fk fp (nI M) (nI W.length) (nI D.length) op wait done kind left right K = (if nI W1.length ≤ 0 then lp_X12_formula_22 sz nm tp tx nc (n + 1) 0 (nI 0) bg en tks cd fk fp (nI M1) (nI W1.length) (nI D1.length) op wait d' k' l' r' K else ((f_X12_refuses bg fk fp 1).bind fun (r_135, v_faultKind_136, v_faultPlace_137) => some (r_135, nI 0, bg, en, tks, cd, v_faultKind_136, v_faultPlace_137, nI M1, tp, nI W1.length, nI D1.length, op, wait, d', k', l', r'))) := by
    intro h0
    rw [← q1]
    rw [lp_X12_formula_22.eq_def]
    dsimp only
    unfold jn
    dsimp only
    rw [if_pos (c := (0 : Int32) = 0) rfl, if_pos (c := nI 0 = 0) rfl, if_neg (nI_nle h0 (by omega)), if_pos (c := (0 : Int32) = 0) rfl, if_neg (c := nI 0 = 41) (by decide), if_pos (c := nI 0 = 0) rfl]
  by_cases h0 : 0 < W.length
  · refine ⟨d', k', l', r', q2, fun h1 => ?_, fun h1 h2 _ => ?_⟩
    · rw [hgo h0, h1, show ([] : List (Nat × Nat)).length = 0 from rfl, if_pos (c := nI 0 ≤ 0) (by decide), mb_last]
    · rw [hgo h0, if_neg (nI_nle h1 (by omega))]
      unfold f_X12_refuses
      rw [Option.bind_some]
      exact ⟨_, rfl, rfl, rfl, rfl⟩
  · cases W with
    | nil =>
      obtain ⟨rfl, rfl, rfl, rfl⟩ : W1 = [] ∧ D1 = D ∧ M1 = M ∧ T1 = T := by
        have := hr
        unfold red at this
        obtain ⟨a, b, c, d⟩ := this
        exact ⟨rfl, rfl, rfl, rfl⟩
      exact ⟨done, kind, left, right, hR, fun _ => mb_last, fun _ _ h => absurd h h0⟩
    | cons y W => exact absurd (Nat.succ_pos _) h0
end FMS
