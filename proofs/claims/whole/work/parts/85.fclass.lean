/-! the system's stacks -/
def nmv (N k w : Nat) : Int64 := if N ≤ k then 0 else if N - 1 - k < 6 then pattL.getD (N - 1 - k) 0 else if w / 2 ^ (N - 1 - k - 6) % 2 = 1 then -1 else 0
def stepf (N w s : Nat) (st : List Int64) : List Int64 :=
  if 256 ≤ s then nmv N (s - 256) w :: st else if s = 48 then 0 :: st else if s = 49 then (-1) :: st else
  match st with
  | [] => if s = 33 then [0 ^^^ (-1)] else [cmb s 0 0]
  | y :: r => if s = 33 then (y ^^^ (-1)) :: r else
    match r with
    | [] => [cmb s 0 y]
    | x :: r2 => cmb s x y :: r2
def runS (N w : Nat) (stp : Nat → Nat) : Nat → List Int64
  | 0 => []
  | m + 1 => stepf N w (stp m) (runS N w stp m)
theorem runS_congr {N w : Nat} {f g : Nat → Nat} : ∀ {m : Nat}, (∀ i, i < m → f i = g i) → runS N w f m = runS N w g m
  | 0, _ => rfl
  | m + 1, h => by
    show stepf N w (f m) (runS N w f m) = stepf N w (g m) (runS N w g m)
    rw [runS_congr (fun i hi => h i (by omega)), h m (by omega)]
def oc : List (Nat × Nat) → Nat
  | [] => 0
  | y :: W => (if y.1 = 33 ∨ y.1 = 40 then 1 else 0) + oc W
def pc : List (Nat × Nat) → Nat
  | [] => 0
  | y :: W => (if y.1 = 40 then 1 else 0) + pc W
def tpI : List (Nat × Nat) → Int32
  | [] => -1
  | _ :: W => nI W.length
section RC
variable (N : Nat) (nmb : Nat → List Nat)
def TXT (W : List (Nat × Nat)) (D : List Ent) (e : Nat) (opens closes symbols : Nat → Int32) : Prop :=
  ∃ op cl sy : Nat → Nat, (∀ i, i < e → opens i = nI (op i) ∧ closes i = nI (cl i) ∧ symbols i = nI (sy i) ∧ sy i < 300) ∧ (∀ x ∈ D, seg nmb op cl sy (eF x) (eL x + 1 - eF x) = eX x) ∧ ∀ y ∈ W, y.1 ≠ 40 → rnd nmb op cl sy y.2 = [y.1]
def STP (D : List Ent) (M : Nat) (steps : Nat → Int32) : Prop := ∃ stp : Nat → Nat, (∀ m, m < M → steps m = nI (stp m) ∧ stp m < 300) ∧ ∀ w, runS N w stp M = D.map (fun x => eU x w)
def RC (W : List (Nat × Nat)) (D : List Ent) (M e : Nat) (symbols opens closes steps operators levels firsts lasts places : Nat → Int32) : Prop :=
  stk (fun i (y : Nat × Nat) => operators i = nI y.1 ∧ (y.1 ≠ 40 → places i = nI y.2)) W ∧ stk (fun i (x : Ent) => levels i = nI (eV x) ∧ firsts i = nI (eF x) ∧ lasts i = nI (eL x)) D ∧ TXT nmb W D e opens closes symbols ∧ STP N D M steps
theorem wrap_ok {i v f l q e : Nat} {levels firsts lasts opens closes : Nat → Int32} {op cl : Nat → Nat} (sy : Nat → Nat) (hi : i < 160) (hv : levels i = nI v) (hf : firsts i = nI f) (hl : lasts i = nI l) (hfl : f ≤ l) (hle : l < e) (he : e ≤ 160) (hv3 : v < 2 ^ 31) (hq3 : q < 2 ^ 31) (hoc : ∀ i, i < e → opens i = nI (op i) ∧ closes i = nI (cl i)) :
    ∃ (opens' closes' : Nat → Int32) (op' cl' : Nat → Nat), f_X1_wrapBelow levels firsts lasts opens closes (nI i) (nI q) = some (opens', closes') ∧ (∀ i, i < e → opens' i = nI (op' i) ∧ closes' i = nI (cl' i)) ∧ seg nmb op' cl' sy f (l + 1 - f) = wr (decide (v < q)) (seg nmb op cl sy f (l + 1 - f)) ∧ ∀ k, (k < f ∨ l < k) → op' k = op k ∧ cl' k = cl k := by
  unfold f_X1_wrapBelow
  rw [show (160 : Int32) = nI 160 from rfl, w_nI (by omega) (by omega), decide_eq_true hi, Option.bind_some, if_neg (c := b2i true = 0) (by decide), if_pos (ix_t hi (by decide)), nI_clamp (by omega), hv, hf, hl]
  by_cases hvq : v < q
  · rw [if_neg (nI_ge hvq hq3), if_pos (ix_t hi (by decide)), if_pos (ix_t hi (by decide))]
    unfold f_X2_wrap
    rw [if_neg (nI_pos (by omega)), if_neg (ge_lit (k := 160) (c := 160) rfl (by omega) (by omega)), if_neg (nI_pos (by omega)), if_neg (ge_lit (k := 160) (c := 160) rfl (by omega) (by omega)), if_pos (ix_t (by omega) (by decide)), if_pos (ix_t (by omega) (by decide)), if_pos (ix_t (by omega) (by decide)), if_pos (ix_t (by omega) (by decide)), nI_clamp (by omega), nI_clamp (by omega), (hoc f (by omega)).1, (hoc l (by omega)).2, nI_1, nI_1, Option.bind_some]
    refine ⟨_, _, up op f (op f + 1), up cl l (cl l + 1), rfl, fun k hk => ⟨?_, ?_⟩, ?_, fun k hk => ⟨up_ne (by omega), up_ne (by omega)⟩⟩
    · by_cases h : k = f
      · subst h; rw [upd_same, up_same]
      · rw [upd_ne h, up_ne h]; exact (hoc k hk).1
    · by_cases h : k = l
      · subst h; rw [upd_same, up_same]
      · rw [upd_ne h, up_ne h]; exact (hoc k hk).2
    · rw [seg_wrap nmb op cl sy f l hfl, decide_eq_true hvq]
  · rw [if_pos (nI_le (by omega) hv3)]
    exact ⟨opens, closes, op, cl, rfl, hoc, by rw [decide_eq_false hvq]; rfl, fun _ _ => ⟨rfl, rfl⟩⟩
theorem txt_not {M i e : Nat} {y : Nat × Nat} {W : List (Nat × Nat)} {a : Ent} {D1 : List Ent} {levels firsts lasts opens closes symbols : Nat → Int32} (hi : i < 160) (hv : levels i = nI (eV a)) (hf : firsts i = nI (eF a)) (hl : lasts i = nI (eL a)) (hv3 : eV a < 2 ^ 31) (hy : y.1 = 33) (h1 : eF a = y.2 + 1) (h2 : eF a ≤ eL a) (h3 : e = eL a + 1) (he : e ≤ 160) (h4 : layA W D1 y.2) (ht : TXT nmb (y :: W) (a :: D1) e opens closes symbols) :
    ∃ (opens' closes' : Nat → Int32), f_X1_wrapBelow levels firsts lasts opens closes (nI i) 6 = some (opens', closes') ∧ TXT nmb W (mkN M y.2 a :: D1) e opens' closes' symbols := by
  obtain ⟨op, cl, sy, t1, t2, t3⟩ := ht
  obtain ⟨o', c', op', cl', w1, w2, w3, w4⟩ := wrap_ok nmb (q := 6) sy hi hv hf hl h2 (by omega) he hv3 (by omega) (fun k hk => ⟨(t1 k hk).1, (t1 k hk).2.1⟩)
  obtain ⟨l1, l2⟩ := lay_lt h4
  refine ⟨o', c', w1, op', cl', sy, fun k hk => ⟨(w2 k hk).1, (w2 k hk).2, (t1 k hk).2.2⟩, fun x hx => ?_, fun z hz q => ?_⟩
  · rcases List.mem_cons.1 hx with rfl | hx
    · show seg nmb op' cl' sy y.2 (eL a + 1 - y.2) = 33 :: wr (decide (eV a < 6)) (eX a)
      rw [show eL a + 1 - y.2 = (eL a + 1 - eF a) + 1 by omega]
      show rnd nmb op' cl' sy y.2 ++ seg nmb op' cl' sy (y.2 + 1) (eL a + 1 - eF a) = _
      have hr : rnd nmb op' cl' sy y.2 = [33] := by
        obtain ⟨e1, e2⟩ := w4 y.2 (by omega)
        have := t3 y (List.mem_cons_self ..) (by omega)
        rw [hy] at this
        rw [← this]
        unfold rnd
        rw [e1, e2]
      rw [hr, ← h1, w3, t2 a (List.mem_cons_self ..)]
      rfl
    · have hx2 := l1 x hx
      rw [← t2 x (List.mem_cons_of_mem _ hx)]
      exact seg_congr nmb (fun k q1 q2 => ⟨(w4 k (by omega)).1, (w4 k (by omega)).2, rfl⟩)
  · have := l2 z hz q
    rw [← t3 z (List.mem_cons_of_mem _ hz) q]
    unfold rnd
    rw [(w4 z.2 (by omega)).1, (w4 z.2 (by omega)).2]
theorem txt_bin {M i e s : Nat} {y : Nat × Nat} {W : List (Nat × Nat)} {a b : Ent} {D2 : List Ent} {levels firsts lasts opens closes symbols : Nat → Int32} (hi : i + 1 < 160) (hv : levels (i + 1) = nI (eV a)) (hf : firsts (i + 1) = nI (eF a)) (hl : lasts (i + 1) = nI (eL a)) (hv3 : eV a < 2 ^ 31) (gv' : levels i = nI (eV b)) (gf : firsts i = nI (eF b)) (gl : lasts i = nI (eL b)) (gv3 : eV b < 2 ^ 31) (hs : y.1 = s) (hy : isB s) (h1 : eF a = y.2 + 1) (h2 : eF a ≤ eL a) (h3 : e = eL a + 1) (he : e ≤ 160) (g1 : y.2 = eL b + 1) (g2 : eF b ≤ eL b) (h4 : layA W D2 (eF b)) (ht : TXT nmb (y :: W) (a :: b :: D2) e opens closes symbols) :
    ∃ (o1 c1 o2 c2 : Nat → Int32), f_X1_wrapBelow levels firsts lasts opens closes (nI i) (nI (reqL s)) = some (o1, c1) ∧ f_X1_wrapBelow levels firsts lasts o1 c1 (nI (i + 1)) (nI (reqR s)) = some (o2, c2) ∧ TXT nmb W (mkB M s b a :: D2) e o2 c2 symbols := by
  obtain ⟨op, cl, sy, t1, t2, t3⟩ := ht
  have hr3 : reqL s < 2 ^ 31 ∧ reqR s < 2 ^ 31 := by rcases hy with rfl | rfl | rfl | rfl | rfl <;> decide
  obtain ⟨o', c', op', cl', w1, w2, w3, w4⟩ := wrap_ok nmb (q := reqL s) sy (show i < 160 by omega) gv' gf gl g2 (show eL b < e by omega) he gv3 hr3.1 (fun k hk => ⟨(t1 k hk).1, (t1 k hk).2.1⟩)
  obtain ⟨o2, c2, op2, cl2, v1, v2, v3, v4⟩ := wrap_ok nmb (q := reqR s) (opens := o') (closes := c') sy hi hv hf hl h2 (by omega) he hv3 hr3.2 w2
  obtain ⟨l1, l2⟩ := lay_lt h4
  refine ⟨o', c', o2, c2, w1, v1, op2, cl2, sy, fun k hk => ⟨(v2 k hk).1, (v2 k hk).2, (t1 k hk).2.2⟩, fun x hx => ?_, fun z hz q => ?_⟩
  · rcases List.mem_cons.1 hx with rfl | hx
    · show seg nmb op2 cl2 sy (eF b) (eL a + 1 - eF b) = wr (decide (eV b < reqL s)) (eX b) ++ (s :: wr (decide (eV a < reqR s)) (eX a))
      rw [show eL a + 1 - eF b = (eL b + 1 - eF b) + ((eL a + 1 - eF a) + 1) by omega, seg_add]
      have hb2 : seg nmb op2 cl2 sy (eF b) (eL b + 1 - eF b) = wr (decide (eV b < reqL s)) (eX b) := by
        rw [← t2 b (List.mem_cons_of_mem _ (List.mem_cons_self ..)), ← w3]
        exact seg_congr nmb (fun k q1 q2 => ⟨(v4 k (by omega)).1, (v4 k (by omega)).2, rfl⟩)
      have ha2 : seg nmb op2 cl2 sy (eF a) (eL a + 1 - eF a) = wr (decide (eV a < reqR s)) (eX a) := by
        rw [v3, ← t2 a (List.mem_cons_self ..)]
        congr 1
        exact seg_congr nmb (fun k q1 q2 => ⟨(w4 k (by omega)).1, (w4 k (by omega)).2, rfl⟩)
      have hr : rnd nmb op2 cl2 sy y.2 = [s] := by
        have := t3 y (List.mem_cons_self ..) (by have := isB_lev hy; omega)
        rw [hs] at this
        rw [← this]
        unfold rnd
        rw [(v4 y.2 (by omega)).1, (v4 y.2 (by omega)).2, (w4 y.2 (by omega)).1, (w4 y.2 (by omega)).2]
      rw [hb2, show eF b + (eL b + 1 - eF b) = y.2 by omega]
      show _ ++ (rnd nmb op2 cl2 sy y.2 ++ seg nmb op2 cl2 sy (y.2 + 1) (eL a + 1 - eF a)) = _
      rw [hr, ← h1, ha2]
      rfl
    · have hx2 := l1 x hx
      rw [← t2 x (List.mem_cons_of_mem _ (List.mem_cons_of_mem _ hx))]
      exact seg_congr nmb (fun k q1 q2 => ⟨by rw [(v4 k (by omega)).1, (w4 k (by omega)).1], by rw [(v4 k (by omega)).2, (w4 k (by omega)).2], rfl⟩)
  · have := l2 z hz q
    rw [← t3 z (List.mem_cons_of_mem _ hz) q]
    unfold rnd
    rw [(v4 z.2 (by omega)).1, (v4 z.2 (by omega)).2, (w4 z.2 (by omega)).1, (w4 z.2 (by omega)).2]
theorem stp_add {D D' : List Ent} {M s : Nat} {steps : Nat → Int32} (hs : s < 300) (h : STP N D M steps) (hst : ∀ w, stepf N w s (D.map (fun x => eU x w)) = D'.map (fun x => eU x w)) : STP N D' (M + 1) (upd steps M (nI s)) := by
  obtain ⟨stp, h1, h2⟩ := h
  refine ⟨up stp M s, fun m hm => ?_, fun w => ?_⟩
  · by_cases h : m = M
    · subst h; rw [upd_same, up_same]; exact ⟨rfl, hs⟩
    · rw [upd_ne h, up_ne h]; exact h1 m (by omega)
  · show stepf N w (up stp M s M) (runS N w (up stp M s) M) = _
    rw [up_same, runS_congr (g := stp) (fun i hi => up_ne (by omega)), h2, hst]
theorem addStep_ok {M s : Nat} {steps : Nat → Int32} (hM : M < 160) : f_X2_addStep (nI M) steps (nI s) = some (nI (M + 1), upd steps M (nI s)) := by
  unfold f_X2_addStep
  rw [show (160 : Int32) = nI 160 from rfl, w_nI (by omega) (by omega), decide_eq_true hM, Option.bind_some, if_neg (c := b2i true = 0) (by decide), if_pos (ix_t hM (by decide)), nI_clamp (by omega), nI_1]
end RC
