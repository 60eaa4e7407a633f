/-! the reference's stacks -/
def RM (W : List (Nat × Nat)) (D : List Ent) (M : Nat) (T : TT) (wait done kind left right : Nat → Int32) : Prop :=
  stk (fun i (y : Nat × Nat) => wait i = nI y.1) W ∧ stk (fun i (x : Ent) => done i = nI (eJ x)) D ∧ ∀ j, j < M → kind j = nI (T j).1 ∧ left j = nI (T j).2.1 ∧ right j = nI (T j).2.2.1
def nt33 (W : List (Nat × Nat)) : Prop := ∀ y W', W = y :: W' → y.1 ≠ 33
theorem rq_nt {W : List (Nat × Nat)} (h : rq W ≤ 5) : nt33 W := by
  intro y W' e q
  subst e
  have : rq (y :: W') = 6 := by
    show (if y.1 = 40 then 0 else if y.1 = 33 then 6 else reqR y.1) = 6
    rw [if_neg (by omega), if_pos q]
  omega
theorem rm_add {M : Nat} {T : TT} {kind left right : Nat → Int32} {k a b : Nat} {X : List Nat} {U : Nat → Int64} (h : ∀ j, j < M → kind j = nI (T j).1 ∧ left j = nI (T j).2.1 ∧ right j = nI (T j).2.2.1) : ∀ j, j < M + 1 → upd kind M (nI k) j = nI (up T M (k, a, b, X, U) j).1 ∧ upd left M (nI a) j = nI (up T M (k, a, b, X, U) j).2.1 ∧ upd right M (nI b) j = nI (up T M (k, a, b, X, U) j).2.2.1 := by
  intro j hj
  by_cases q : j = M
  · subst q; rw [upd_same, upd_same, upd_same, up_same]; exact ⟨rfl, rfl, rfl⟩
  · rw [upd_ne q, upd_ne q, upd_ne q, up_ne q]; exact h j (by omega)
theorem node_ok {M : Nat} (hM : M < 160) (kind left right : Nat → Int32) (k a b : Int32) : f_X12_node (nI M) kind left right k a b = some (nI M, nI (M + 1), upd kind M k, upd left M a, upd right M b) := by
  unfold f_X12_node
  rw [if_pos (ix_t (by omega) (by decide)), if_pos (ix_t (by omega) (by decide)), if_pos (ix_t (by omega) (by decide)), nI_clamp (by omega), nI_1, nI_pred]
theorem push_ok {d : Nat} (hd : d < 161) (done : Nat → Int32) (x : Int32) : f_X12_pushes (nI d) done x = some (nI (d + 1), upd done d x) := by
  unfold f_X12_pushes
  rw [if_pos (ix_t hd (by decide)), nI_clamp (by omega), nI_1]
theorem joins_ok {M w d s ja jb : Nat} {done wait kind left right : Nat → Int32} (hM : M < 160) (hw : w < 160) (hd : d + 1 < 160) (h1 : wait w = nI s) (h2 : done (d + 1) = nI ja) (h3 : done d = nI jb) : f_X12_joins (nI M) (nI (w + 1)) (nI (d + 1 + 1)) done wait kind left right = some (nI (M + 1), nI w, nI (d + 1), upd done d (nI M), upd kind M (nI s), upd left M (nI jb), upd right M (nI ja)) := by
  unfold f_X12_joins
  rw [nI_pred, nI_pred, show nI (d + 1 + 1) - (2 : Int32) = nI d from by rw [show (2 : Int32) = nI 2 from rfl, pk_sub (by omega)]; congr 1, if_pos (ix_t (by omega) (by decide)), if_pos (ix_t (by omega) (by decide)), if_pos (ix_t (by omega) (by decide)), nI_clamp (by omega), nI_clamp (by omega), nI_clamp (by omega), h1, h2, h3, node_ok hM, Option.bind_some]
  dsimp only
  rw [push_ok (by omega), Option.bind_some]
/-- the level that the reference waits for, and the system's -/
def WL (q L : Nat) : Prop := 1 ≤ L ∧ q ≤ 6 ∧ ∀ s, isB s → ((q < klev s ∨ (klev s = q ∧ q ≠ 2)) ↔ ¬ clev s < L)
theorem WL01 : WL 0 1 := by
  refine ⟨by omega, by omega, fun s h => ?_⟩
  rcases h with rfl | rfl | rfl | rfl | rfl <;> decide
theorem WLop {t : Nat} (h : isB t) : WL (klev t) (reqL t) := by
  rcases h with rfl | rfl | rfl | rfl | rfl <;> refine ⟨by decide, by decide, fun s h => ?_⟩ <;> rcases h with rfl | rfl | rfl | rfl | rfl <;> decide
theorem waits_no (wait : Nat → Int32) (q : Int32) : f_X12_waitsFor 0 wait q = some false := by
  unfold f_X12_waitsFor
  rw [if_pos rfl]
theorem waits_ok {w s q L : Nat} {wait : Nat → Int32} (hw : w < 160) (h1 : wait w = nI s) (hq : WL q L) (hs : s = 40 ∨ isB s) : f_X12_waitsFor (nI (w + 1)) wait (nI q) = some (!decide (clev s < L)) := by
  obtain ⟨q1, q2, q3⟩ := hq
  unfold f_X12_waitsFor
  rw [if_neg (nI_ne0 (by omega) (by omega)), nI_pred, if_pos (ix_t (by omega) (by decide)), nI_clamp (by omega), h1]
  rcases hs with rfl | hb
  · rw [if_pos (c := nI 40 = 40) rfl, decide_eq_true (show clev 40 < L from q1)]
    rfl
  · have hl := isB_lev hb
    have n40 : ¬ nI s = (40 : Int32) := fun q => hl.2.2.2.2.1 ((nI_eq (a := s) (b := 40) (by omega) (by omega)).1 q)
    have hk : klev s ≤ 6 := by omega
    rw [if_neg n40, if_pos (ix_t (by omega) (by decide)), lev_m (by omega), Option.bind_some]
    have q3' := q3 s hb
    by_cases c1 : q < klev s
    · rw [if_pos (nI_lt c1 (by omega)), decide_eq_false (q3'.1 (Or.inl c1))]
      rfl
    · rw [if_neg (nI_nlt (by omega) (by omega))]
      by_cases c2 : klev s = q
      · rw [if_pos (by rw [c2])]
        by_cases c3 : q = 2
        · rw [if_pos (by rw [c3]; rfl), decide_eq_true (Classical.byContradiction (fun n => by
            rcases q3'.2 n with h | h
            · exact c1 h
            · exact h.2 c3))]
          rfl
        · rw [if_neg (c := nI q = 2) (fun e => c3 ((nI_eq (a := q) (b := 2) (by omega) (by omega)).1 e)), decide_eq_false (q3'.1 (Or.inr ⟨c2, c3⟩))]
          rfl
      · rw [if_neg (fun e => c2 ((nI_eq (by omega) (by omega)).1 e)), decide_eq_true (Classical.byContradiction (fun n => by
          rcases q3'.2 n with h | h
          · exact c1 h
          · exact c2 h.1))]
        rfl
theorem join_361 {L e : Nat} {y1 sz tk bg en tks cd fk fp nm tp op : Int32} {wait tx nc : Nat → Int32} {q : Nat} (hlv : f_X12_levelOf tk = some (nI q)) (hq : WL q L) : ∀ (W : List (Nat × Nat)) (D : List Ent) (M : Nat) (T : TT) (n : Nat) (done kind left right : Nat → Int32) (K : Int32 → Int32 → Int32 → (Nat → Int32) → (Nat → Int32) → (Nat → Int32) → (Nat → Int32) → Option (Bool × Int32 × Int32 × Int32 × Int32 × Int32 × Int32 × Int32 × Int32 × Int32 × Int32 × Int32 × Int32 × (Nat → Int32) × (Nat → Int32) × (Nat → Int32) × (Nat → Int32) × (Nat → Int32))), W.length < n → layB W D e → nt33 W → M + W.length ≤ 160 → D.length ≤ 160 → RM W D M T wait done kind left right →
    ∃ (done' kind' left' right' : Nat → Int32), lp_X12_formula_361 y1 sz tk bg en tks cd fk fp nm tp op wait tx nc n (nI M) (nI W.length) (nI D.length) done kind left right K = K (nI (red L W D M T).2.2.1) (nI (red L W D M T).1.length) (nI (red L W D M T).2.1.length) done' kind' left' right' ∧ RM (red L W D M T).1 (red L W D M T).2.1 (red L W D M T).2.2.1 (red L W D M T).2.2.2 wait done' kind' left' right' := by
  intro W
  induction W with
  | nil =>
    intro D M T n done kind left right K hn hB h33 hM hD hR
    obtain ⟨n, rfl⟩ : ∃ m, n = m + 1 := ⟨n - 1, by simp only [List.length_nil] at hn; omega⟩
    rw [lp_X12_formula_361, hlv, Option.bind_some, show nI ([] : List (Nat × Nat)).length = 0 from rfl, waits_no, Option.bind_some, if_pos (c := b2i false = 0) (by decide)]
    exact ⟨_, _, _, _, rfl, hR⟩
  | cons y W ih =>
    intro D M T n done kind left right K hn hB h33 hM hD hR
    obtain ⟨n, rfl⟩ : ∃ m, n = m + 1 := ⟨n - 1, by omega⟩
    rw [List.length_cons] at hn hM
    obtain ⟨⟨rw1, r1'⟩, r2, r3⟩ := hR
    have hs : y.1 = 40 ∨ isB y.1 := by
      rcases layB_sign hB with h | h | h
      · exact Or.inl h
      · exact absurd h (h33 y W rfl)
      · exact Or.inr h
    have hwt : f_X12_waitsFor (nI (W.length + 1)) wait (nI q) = some (!decide (clev y.1 < L)) := waits_ok (by omega) rw1 hq hs
    rw [lp_X12_formula_361, hlv, Option.bind_some, List.length_cons, hwt, Option.bind_some]
    by_cases hlt : clev y.1 < L
    · rw [red_stop hlt, decide_eq_true hlt, if_pos (c := b2i (!true) = 0) (by decide)]
      exact ⟨_, _, _, _, rfl, ⟨rw1, r1'⟩, r2, r3⟩
    rw [decide_eq_false hlt, if_neg (c := b2i (!false) = 0) (by decide)]
    rcases hs with h40 | hbin
    · rw [h40] at hlt
      exact absurd (show clev 40 < L from hq.1) hlt
    · have hl := isB_lev hbin
      obtain ⟨a, b, D2, rfl, l1, l2, l3, l4, l5, l6, -, -, l7⟩ := lay_bin M hbin hB
      rw [List.length_cons, List.length_cons] at hD
      obtain ⟨d1, d2, r2'⟩ := r2
      rw [List.length_cons] at d1
      rw [red_bin hlt hl.2.2.2.1, List.length_cons, List.length_cons, joins_ok (s := y.1) (ja := eJ a) (jb := eJ b) (by omega) (by omega) (by omega) rw1 d1 d2, Option.bind_some]
      dsimp only
      have hrq : rq W ≤ 5 := by
        obtain ⟨a', D', e1, -, -, e2, -⟩ := l7
        obtain ⟨rfl, rfl⟩ := List.cons.inj e1
        rcases e2 with e2 | e2
        · exact absurd (show false = true from e2) (by decide)
        · have : eV (mkB M y.1 b a) = clev y.1 := rfl
          omega
      exact ih (mkB M y.1 b a :: D2) (M + 1) (up T M (y.1, eJ b, eJ a, eX (mkB M y.1 b a), eU (mkB M y.1 b a))) n _ _ _ _ K (by omega) l7 (rq_nt hrq) (by omega) (by rw [List.length_cons]; omega) ⟨r1', ⟨(upd_same : upd done _ (nI M) _ = nI M), stk_mono r2' (fun i x hi q => (upd_ne (by omega)).trans q)⟩, rm_add r3⟩
theorem join_288 {L e : Nat} {y1 sz tk bg en tks cd fk fp nm tp op : Int32} {wait tx nc : Nat → Int32} (hq : WL 0 L) : ∀ (W : List (Nat × Nat)) (D : List Ent) (M : Nat) (T : TT) (n : Nat) (done kind left right : Nat → Int32) (K : Int32 → Int32 → Int32 → (Nat → Int32) → (Nat → Int32) → (Nat → Int32) → (Nat → Int32) → Option (Bool × Int32 × Int32 × Int32 × Int32 × Int32 × Int32 × Int32 × Int32 × Int32 × Int32 × Int32 × Int32 × (Nat → Int32) × (Nat → Int32) × (Nat → Int32) × (Nat → Int32) × (Nat → Int32))), W.length < n → layB W D e → nt33 W → M + W.length ≤ 160 → D.length ≤ 160 → RM W D M T wait done kind left right →
    ∃ (done' kind' left' right' : Nat → Int32), lp_X12_formula_288 y1 sz tk bg en tks cd fk fp nm tp op wait tx nc n (nI M) (nI W.length) (nI D.length) done kind left right K = K (nI (red L W D M T).2.2.1) (nI (red L W D M T).1.length) (nI (red L W D M T).2.1.length) done' kind' left' right' ∧ RM (red L W D M T).1 (red L W D M T).2.1 (red L W D M T).2.2.1 (red L W D M T).2.2.2 wait done' kind' left' right' := by
  intro W
  induction W with
  | nil =>
    intro D M T n done kind left right K hn hB h33 hM hD hR
    obtain ⟨n, rfl⟩ : ∃ m, n = m + 1 := ⟨n - 1, by simp only [List.length_nil] at hn; omega⟩
    rw [lp_X12_formula_288, show nI ([] : List (Nat × Nat)).length = 0 from rfl, waits_no, Option.bind_some, if_pos (c := b2i false = 0) (by decide)]
    exact ⟨_, _, _, _, rfl, hR⟩
  | cons y W ih =>
    intro D M T n done kind left right K hn hB h33 hM hD hR
    obtain ⟨n, rfl⟩ : ∃ m, n = m + 1 := ⟨n - 1, by omega⟩
    rw [List.length_cons] at hn hM
    obtain ⟨⟨rw1, r1'⟩, r2, r3⟩ := hR
    have hs : y.1 = 40 ∨ isB y.1 := by
      rcases layB_sign hB with h | h | h
      · exact Or.inl h
      · exact absurd h (h33 y W rfl)
      · exact Or.inr h
    have hwt : f_X12_waitsFor (nI (W.length + 1)) wait (0) = some (!decide (clev y.1 < L)) := waits_ok (by omega) rw1 hq hs
    rw [lp_X12_formula_288, List.length_cons, hwt, Option.bind_some]
    by_cases hlt : clev y.1 < L
    · rw [red_stop hlt, decide_eq_true hlt, if_pos (c := b2i (!true) = 0) (by decide)]
      exact ⟨_, _, _, _, rfl, ⟨rw1, r1'⟩, r2, r3⟩
    rw [decide_eq_false hlt, if_neg (c := b2i (!false) = 0) (by decide)]
    rcases hs with h40 | hbin
    · rw [h40] at hlt
      exact absurd (show clev 40 < L from hq.1) hlt
    · have hl := isB_lev hbin
      obtain ⟨a, b, D2, rfl, l1, l2, l3, l4, l5, l6, -, -, l7⟩ := lay_bin M hbin hB
      rw [List.length_cons, List.length_cons] at hD
      obtain ⟨d1, d2, r2'⟩ := r2
      rw [List.length_cons] at d1
      rw [red_bin hlt hl.2.2.2.1, List.length_cons, List.length_cons, joins_ok (s := y.1) (ja := eJ a) (jb := eJ b) (by omega) (by omega) (by omega) rw1 d1 d2, Option.bind_some]
      dsimp only
      have hrq : rq W ≤ 5 := by
        obtain ⟨a', D', e1, -, -, e2, -⟩ := l7
        obtain ⟨rfl, rfl⟩ := List.cons.inj e1
        rcases e2 with e2 | e2
        · exact absurd (show false = true from e2) (by decide)
        · have : eV (mkB M y.1 b a) = clev y.1 := rfl
          omega
      exact ih (mkB M y.1 b a :: D2) (M + 1) (up T M (y.1, eJ b, eJ a, eX (mkB M y.1 b a), eU (mkB M y.1 b a))) n _ _ _ _ K (by omega) l7 (rq_nt hrq) (by omega) (by rw [List.length_cons]; omega) ⟨r1', ⟨(upd_same : upd done _ (nI M) _ = nI M), stk_mono r2' (fun i x hi q => (upd_ne (by omega)).trans q)⟩, rm_add r3⟩
theorem join_220 {L e : Nat} {y1 sz tk bg en tks cd fk fp nm tp op : Int32} {wait tx nc : Nat → Int32} (hq : WL 0 L) : ∀ (W : List (Nat × Nat)) (D : List Ent) (M : Nat) (T : TT) (n : Nat) (done kind left right : Nat → Int32) (K : Int32 → Int32 → Int32 → (Nat → Int32) → (Nat → Int32) → (Nat → Int32) → (Nat → Int32) → Option (Bool × Int32 × Int32 × Int32 × Int32 × Int32 × Int32 × Int32 × Int32 × Int32 × Int32 × Int32 × Int32 × (Nat → Int32) × (Nat → Int32) × (Nat → Int32) × (Nat → Int32) × (Nat → Int32))), W.length < n → layB W D e → nt33 W → M + W.length ≤ 160 → D.length ≤ 160 → RM W D M T wait done kind left right →
    ∃ (done' kind' left' right' : Nat → Int32), lp_X12_formula_220 y1 sz tk bg en tks cd fk fp nm tp op wait tx nc n (nI M) (nI W.length) (nI D.length) done kind left right K = K (nI (red L W D M T).2.2.1) (nI (red L W D M T).1.length) (nI (red L W D M T).2.1.length) done' kind' left' right' ∧ RM (red L W D M T).1 (red L W D M T).2.1 (red L W D M T).2.2.1 (red L W D M T).2.2.2 wait done' kind' left' right' := by
  intro W
  induction W with
  | nil =>
    intro D M T n done kind left right K hn hB h33 hM hD hR
    obtain ⟨n, rfl⟩ : ∃ m, n = m + 1 := ⟨n - 1, by simp only [List.length_nil] at hn; omega⟩
    rw [lp_X12_formula_220, show nI ([] : List (Nat × Nat)).length = 0 from rfl, waits_no, Option.bind_some, if_pos (c := b2i false = 0) (by decide)]
    exact ⟨_, _, _, _, rfl, hR⟩
  | cons y W ih =>
    intro D M T n done kind left right K hn hB h33 hM hD hR
    obtain ⟨n, rfl⟩ : ∃ m, n = m + 1 := ⟨n - 1, by omega⟩
    rw [List.length_cons] at hn hM
    obtain ⟨⟨rw1, r1'⟩, r2, r3⟩ := hR
    have hs : y.1 = 40 ∨ isB y.1 := by
      rcases layB_sign hB with h | h | h
      · exact Or.inl h
      · exact absurd h (h33 y W rfl)
      · exact Or.inr h
    have hwt : f_X12_waitsFor (nI (W.length + 1)) wait (0) = some (!decide (clev y.1 < L)) := waits_ok (by omega) rw1 hq hs
    rw [lp_X12_formula_220, List.length_cons, hwt, Option.bind_some]
    by_cases hlt : clev y.1 < L
    · rw [red_stop hlt, decide_eq_true hlt, if_pos (c := b2i (!true) = 0) (by decide)]
      exact ⟨_, _, _, _, rfl, ⟨rw1, r1'⟩, r2, r3⟩
    rw [decide_eq_false hlt, if_neg (c := b2i (!false) = 0) (by decide)]
    rcases hs with h40 | hbin
    · rw [h40] at hlt
      exact absurd (show clev 40 < L from hq.1) hlt
    · have hl := isB_lev hbin
      obtain ⟨a, b, D2, rfl, l1, l2, l3, l4, l5, l6, -, -, l7⟩ := lay_bin M hbin hB
      rw [List.length_cons, List.length_cons] at hD
      obtain ⟨d1, d2, r2'⟩ := r2
      rw [List.length_cons] at d1
      rw [red_bin hlt hl.2.2.2.1, List.length_cons, List.length_cons, joins_ok (s := y.1) (ja := eJ a) (jb := eJ b) (by omega) (by omega) (by omega) rw1 d1 d2, Option.bind_some]
      dsimp only
      have hrq : rq W ≤ 5 := by
        obtain ⟨a', D', e1, -, -, e2, -⟩ := l7
        obtain ⟨rfl, rfl⟩ := List.cons.inj e1
        rcases e2 with e2 | e2
        · exact absurd (show false = true from e2) (by decide)
        · have : eV (mkB M y.1 b a) = clev y.1 := rfl
          omega
      exact ih (mkB M y.1 b a :: D2) (M + 1) (up T M (y.1, eJ b, eJ a, eX (mkB M y.1 b a), eU (mkB M y.1 b a))) n _ _ _ _ K (by omega) l7 (rq_nt hrq) (by omega) (by rw [List.length_cons]; omega) ⟨r1', ⟨(upd_same : upd done _ (nI M) _ = nI M), stk_mono r2' (fun i x hi q => (upd_ne (by omega)).trans q)⟩, rm_add r3⟩
theorem turns_m {e : Nat} {wait : Nat → Int32} : ∀ (W : List (Nat × Nat)) (D : List Ent) (M : Nat) (T : TT) (n : Nat) (done kind left right : Nat → Int32), W.length < n → layB W D e → M + W.length ≤ 160 → D.length ≤ 160 → RM W D M T wait done kind left right →
    ∃ (done' kind' left' right' : Nat → Int32), lp_X12_turns_0 wait n (nI M) (nI W.length) (nI D.length) (nI (oc W)) done kind left right (fun a b c d f g h i => some (a, b, c, d, f, g, h, i)) = some (nI (red 6 W D M T).2.2.1, nI (red 6 W D M T).1.length, nI (red 6 W D M T).2.1.length, nI (oc (red 6 W D M T).1), done', kind', left', right') ∧ RM (red 6 W D M T).1 (red 6 W D M T).2.1 (red 6 W D M T).2.2.1 (red 6 W D M T).2.2.2 wait done' kind' left' right' := by
  intro W
  induction W with
  | nil =>
    intro D M T n done kind left right hn hB hM hD hR
    obtain ⟨n, rfl⟩ : ∃ m, n = m + 1 := ⟨n - 1, by simp only [List.length_nil] at hn; omega⟩
    rw [lp_X12_turns_0, if_pos (by decide)]
    exact ⟨_, _, _, _, rfl, hR⟩
  | cons y W ih =>
    intro D M T n done kind left right hn hB hM hD hR
    obtain ⟨n, rfl⟩ : ∃ m, n = m + 1 := ⟨n - 1, by omega⟩
    rw [List.length_cons] at hn hM
    obtain ⟨⟨rw1, r1'⟩, r2, r3⟩ := hR
    rw [lp_X12_turns_0, List.length_cons, if_neg (show ¬ nI (W.length + 1) ≤ 0 from nI_ge (a := 0) (by omega) (by omega)), nI_pred, if_pos (ix_t (by omega) (by decide)), nI_clamp (by omega), rw1]
    by_cases h33 : y.1 = 33
    · obtain ⟨a, D1, rfl, l1, l2, l3, l4, -, l5⟩ := lay_not M h33 hB
      rw [List.length_cons] at hD
      obtain ⟨d1, r2'⟩ := r2
      have hlt : ¬ clev y.1 < 6 := by rw [h33]; decide
      rw [red_not hlt h33, h33, if_pos (c := nI 33 = 33) rfl, List.length_cons, nI_pred, if_pos (ix_t (by omega) (by decide)), nI_clamp (by omega), d1, node_ok (by omega), Option.bind_some]
      dsimp only
      rw [push_ok (by omega), Option.bind_some]
      have eoc : nI (oc (y :: W)) - (1 : Int32) = nI (oc W) := by
        show nI ((if y.1 = 33 ∨ y.1 = 40 then 1 else 0) + oc W) - (1 : Int32) = _
        rw [if_pos (Or.inl h33), Nat.add_comm, nI_pred]
      dsimp only
      rw [eoc]
      exact ih (mkN M y.2 a :: D1) (M + 1) (up T M (33, eJ a, 0, eX (mkN M y.2 a), eU (mkN M y.2 a))) n _ _ _ _ (by omega) l5 (by omega) (by rw [List.length_cons]; omega) ⟨r1', ⟨(upd_same : upd done _ (nI M) _ = nI M), stk_mono r2' (fun i x hi q => (upd_ne (by omega)).trans q)⟩, rm_add r3⟩
    · have hlt : clev y.1 < 6 := by
        rcases layB_sign hB with h | h | h
        · rw [h]; decide
        · exact absurd h h33
        · have := isB_lev h; omega
      have hy3 : y.1 < 2 ^ 31 := by
        rcases layB_sign hB with h | h | h
        · omega
        · omega
        · have := isB_lev h; omega
      rw [red_stop hlt, if_neg (c := nI y.1 = 33) (fun q => h33 ((nI_eq (a := y.1) (b := 33) hy3 (by omega)).1 q))]
      exact ⟨_, _, _, _, rfl, ⟨rw1, r1'⟩, r2, r3⟩
