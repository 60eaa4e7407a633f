/-! the text written, by both -/
def PGx (f : Nat → Int32) (P : List Nat) : Prop := ∀ k b : Nat, P[k]? = some b → f k = nI b
def PGm (f : Nat → Int32) (P : List Nat) : Prop := ∀ k b : Nat, P[k]? = some b → f k &&& 255 = nI b
theorem pg_split {P : List Nat} {b k c : Nat} (h : (P ++ [b])[k]? = some c) : (k ≠ P.length ∧ P[k]? = some c) ∨ (k = P.length ∧ c = b) := by
  by_cases hk : k < P.length
  · rw [List.getElem?_append_left hk] at h
    exact Or.inl ⟨by omega, h⟩
  · rw [List.getElem?_append_right (by omega)] at h
    by_cases e : k = P.length
    · refine Or.inr ⟨e, ?_⟩
      rw [show k - P.length = 0 by omega] at h
      exact (Option.some.inj h).symm
    · obtain ⟨m, hm⟩ : ∃ m, k - P.length = m + 1 := ⟨k - P.length - 1, by omega⟩
      rw [hm] at h
      exact absurd h (by simp)
theorem pgx_add {f : Nat → Int32} {P : List Nat} (h : PGx f P) (b : Nat) : PGx (upd f P.length (nI b)) (P ++ [b]) := by
  intro k c hk
  rcases pg_split hk with ⟨q1, q2⟩ | ⟨q1, q2⟩
  · rw [upd_ne q1]; exact h k c q2
  · rw [q1, upd_same, q2]
theorem nar255 : ∀ b, b < 256 → vp_nar .byte ((nI b).toInt8.toInt32) &&& 255 = nI b := by decide +kernel
theorem pgm_add {f : Nat → Int32} {P : List Nat} (h : PGm f P) {b : Nat} (hb : b < 256) : PGm (upd f P.length (vp_nar .byte ((nI b).toInt8.toInt32))) (P ++ [b]) := by
  intro k c hk
  rcases pg_split hk with ⟨q1, q2⟩ | ⟨q1, q2⟩
  · rw [upd_ne q1]; exact h k c q2
  · rw [q1, upd_same, q2]; exact nar255 b hb
theorem len_snoc (P : List Nat) (b : Nat) : (P ++ [b]).length = P.length + 1 := by rw [List.length_append]; rfl
theorem padd_ok {f : Nat → Int32} {P : List Nat} (hP : P.length < 320) (b : Nat) : f_X5_add (nI P.length) f (nI b) = some (nI (P ++ [b]).length, upd f P.length (nI b)) := by
  have hw : f_X11_within (nI P.length) 320 = some true := by
    have := w_nI (a := P.length) (b := 320) (by omega) (by omega)
    rw [decide_eq_true hP] at this
    exact this
  unfold f_X5_add
  rw [hw, Option.bind_some, if_neg (c := b2i true = 0) (by decide), if_pos (ix_t hP (by decide)), nI_clamp (by omega), nI_1, len_snoc]
theorem times_go {s t : Nat} (ht : t < 400) (c : Int32) (hc : c = nI s) : ∀ (j i n : Nat) (f : Nat → Int32) (P : List Nat), i + j = t → j < n → P.length + j ≤ 320 → PGx f P →
    ∃ f', lp_X5_addTimes_2 c (nI t) n (nI i) (nI P.length) f (fun _ a b => some (a, b)) = some (nI (P ++ List.replicate j s).length, f') ∧ PGx f' (P ++ List.replicate j s) := by
  subst hc
  intro j
  induction j with
  | zero =>
    intro i n f P h1 h2 h3 h4
    obtain ⟨n, rfl⟩ : ∃ x, n = x + 1 := ⟨n - 1, by omega⟩
    rw [lp_X5_addTimes_2, if_pos (nI_le (by omega) (by omega))]
    rw [show List.replicate 0 s = [] from rfl, List.append_nil]
    exact ⟨f, rfl, h4⟩
  | succ j ih =>
    intro i n f P h1 h2 h3 h4
    obtain ⟨n, rfl⟩ : ∃ x, n = x + 1 := ⟨n - 1, by omega⟩
    rw [lp_X5_addTimes_2, if_neg (nI_ge (by omega) (by omega)), padd_ok (by omega), Option.bind_some]
    dsimp only
    rw [nI_1]
    have := ih (i + 1) n _ (P ++ [s]) (by omega) (by omega) (by rw [len_snoc]; omega) (pgx_add h4 s)
    rw [List.append_assoc] at this
    exact this
theorem times_ok {t : Nat} (s : Nat) (c : Int32) (hc : c = nI s) {f : Nat → Int32} {P : List Nat} (h : P.length + t ≤ 320) (hP : PGx f P) : ∃ f', f_X5_addTimes (nI P.length) f c (nI t) = some (nI (P ++ List.replicate t s).length, f') ∧ PGx f' (P ++ List.replicate t s) :=
  times_go (by omega) c hc t 0 5000 f P (by omega) (by omega) h hP
theorem code_bytes {c : Int32} (h : codeOK c) : ∃ l d : Nat, 97 ≤ l ∧ l ≤ 122 ∧ d ≤ 10 ∧ c = nI (l + 256 * d) ∧ c &&& 255 = nI l ∧ (c ≤ 255 ↔ d = 0) ∧ ((48 : Int32) + (c >>> ((8 : Int32) &&& 31))) - (1 : Int32) = nI (47 + d) ∧ c.toNatClampNeg = l + 256 * d := by
  obtain ⟨l, d, h1, h2, h3, rfl⟩ := h
  refine ⟨l, d, h1, h2, h3, rfl, ?_, ?_, ?_, nI_clamp (by omega)⟩
  · rw [show (255 : Int32) = nI 255 from rfl, nx_and, show l + 256 * d &&& 255 = (l + 256 * d) % 2 ^ 8 from Nat.and_two_pow_sub_one_eq_mod _ 8]
    congr 1
    omega
  · rw [show (255 : Int32) = nI 255 from rfl, nI_leI (by omega) (by omega)]
    omega
  · rw [show (8 : Int32) = nI 8 from rfl, shr_nI (by omega) (by omega), show (48 : Int32) = nI 48 from rfl, nI_add, show 48 + (l + 256 * d) / 2 ^ 8 = (47 + d) + 1 by omega, nI_pred]
theorem nmb_code {N k l d : Nat} {mk : Nat → Int32} (hk : k < N) (hl : l ≤ 122) (he : (mk k).toNatClampNeg = l + 256 * d) : nmbOf N mk k = if d = 0 then [l] else [l, 47 + d] := by
  unfold nmbOf
  rw [if_neg (by omega), he]
  by_cases hd : d = 0
  · rw [if_pos (by omega), if_pos hd, hd]; rfl
  · rw [if_neg (by omega), if_neg hd, show (l + 256 * d) % 256 = l by omega, show (l + 256 * d) / 256 = d by omega]
theorem psym_ok {N s : Nat} (hN : N ≤ 10) {xk mk f : Nat → Int32} (hk : ∀ k, k < N → xk k = mk k ∧ codeOK (mk k)) (hs : s < 300) {P : List Nat} (h : P.length + (sby (nmbOf N mk) s).length ≤ 320) (hP : PGx f P) : ∃ f', f_X5_addSymbol (nI P.length) (nI N) xk f (nI s) = some (nI (P ++ sby (nmbOf N mk) s).length, f') ∧ PGx f' (P ++ sby (nmbOf N mk) s) := by
  unfold f_X5_addSymbol
  by_cases h256 : s < 256
  · rw [if_neg (ge_lit (k := 256) (c := 256) rfl h256 (by omega))]
    have e : sby (nmbOf N mk) s = [s] := if_pos h256
    rw [e] at h ⊢
    rw [padd_ok (by have : ([s] : List Nat).length = 1 := rfl
                    omega), Option.bind_some]
    exact ⟨_, rfl, pgx_add hP s⟩
  · obtain ⟨k, rfl⟩ : ∃ k, s = 256 + k := ⟨s - 256, by omega⟩
    have e : sby (nmbOf N mk) (256 + k) = nmbOf N mk k := by
      unfold sby
      rw [if_neg h256, show 256 + k - 256 = k by omega]
    rw [e] at h ⊢
    rw [if_pos (show (256 : Int32) ≤ nI (256 + k) from nI_le (a := 256) (by omega) (by omega)), show nI (256 + k) - (256 : Int32) = nI k by
      rw [show (256 : Int32) = nI 256 from rfl, nI_sub (by omega), show 256 + k - 256 = k by omega], code_ok hN k (by omega), Option.bind_some]
    by_cases hkN : k < N
    · obtain ⟨l, d, q1, q2, q3, q4, q5, q6, q7, q8⟩ := code_bytes (hk k hkN).2
      rw [nmb_code hkN q2 q8] at h ⊢
      rw [if_pos hkN, (hk k hkN).1, q5]
      by_cases hd : d = 0
      · rw [if_pos hd] at h ⊢
        rw [padd_ok (by have : ([l] : List Nat).length = 1 := rfl
                        omega), Option.bind_some]
        dsimp only
        rw [if_pos (q6.2 hd)]
        exact ⟨_, rfl, pgx_add hP l⟩
      · rw [if_neg hd] at h ⊢
        have hl2 : ([l, 47 + d] : List Nat).length = 2 := rfl
        rw [padd_ok (by omega), Option.bind_some]
        dsimp only
        rw [if_neg (fun z => hd (q6.1 z)), q7, padd_ok (by rw [len_snoc]; omega), Option.bind_some]
        have := pgx_add (pgx_add hP l) (47 + d)
        rw [List.append_assoc] at this ⊢
        exact ⟨_, rfl, this⟩
    · rw [if_neg hkN]
      have e2 : nmbOf N mk k = [255] := if_pos (by omega)
      rw [e2] at h ⊢
      rw [show (-1 : Int32) &&& 255 = nI 255 from rfl, padd_ok (by have : ([255] : List Nat).length = 1 := rfl
                                                                   omega), Option.bind_some]
      dsimp only
      rw [if_pos (c := (-1 : Int32) ≤ 255) (by decide)]
      exact ⟨_, rfl, pgx_add hP 255⟩
theorem opensAt_ok {f : Nat → Int32} {m : Nat} (hm : m < 160) : f_X2_opensAt f (nI m) = some (f m) := by
  unfold f_X2_opensAt
  rw [w160 hm, Option.bind_some, if_neg (c := b2i true = 0) (by decide), if_pos (ix_t hm (by decide)), nI_clamp (by omega)]
theorem closesAt_ok {f : Nat → Int32} {m : Nat} (hm : m < 160) : f_X2_closesAt f (nI m) = some (f m) := by
  unfold f_X2_closesAt
  rw [w160 hm, Option.bind_some, if_neg (c := b2i true = 0) (by decide), if_pos (ix_t hm (by decide)), nI_clamp (by omega)]
theorem symbolAt_ok {f : Nat → Int32} {m : Nat} (hm : m < 160) : f_X2_symbolAt f (nI m) = some (f m) := by
  unfold f_X2_symbolAt
  rw [w160 hm, Option.bind_some, if_neg (c := b2i true = 0) (by decide), if_pos (ix_t hm (by decide)), nI_clamp (by omega)]
theorem xwrite_go {N e : Nat} (hN : N ≤ 10) (he : e ≤ 160) {xk mk opens closes symbols : Nat → Int32} {op cl sy : Nat → Nat} (hk : ∀ k, k < N → xk k = mk k ∧ codeOK (mk k)) (h : ∀ i, i < e → opens i = nI (op i) ∧ closes i = nI (cl i) ∧ symbols i = nI (sy i) ∧ sy i < 300) : ∀ (j i n : Nat) (f : Nat → Int32) (P : List Nat), i + j = e → j < n → (P ++ seg (nmbOf N mk) op cl sy i j).length ≤ 320 → PGx f P →
    ∃ f', lp_X11_write_10 (nI e) opens symbols (nI N) xk closes n (nI i) (nI P.length) f (fun _ a b => some (a, a, b)) = some (nI (P ++ seg (nmbOf N mk) op cl sy i j).length, nI (P ++ seg (nmbOf N mk) op cl sy i j).length, f') ∧ PGx f' (P ++ seg (nmbOf N mk) op cl sy i j) := by
  intro j
  induction j with
  | zero =>
    intro i n f P h1 h2 h3 h4
    obtain ⟨n, rfl⟩ : ∃ x, n = x + 1 := ⟨n - 1, by omega⟩
    rw [lp_X11_write_10, if_pos (nI_le (by omega) (by omega)), show seg (nmbOf N mk) op cl sy i 0 = [] from rfl, List.append_nil]
    exact ⟨f, rfl, h4⟩
  | succ j ih =>
    intro i n f P h1 h2 h3 h4
    obtain ⟨n, rfl⟩ : ∃ x, n = x + 1 := ⟨n - 1, by omega⟩
    obtain ⟨a1, a2, a3, a4⟩ := h i (by omega)
    have eS : seg (nmbOf N mk) op cl sy i (j + 1) = (List.replicate (op i) 40 ++ (sby (nmbOf N mk) (sy i) ++ List.replicate (cl i) 41)) ++ seg (nmbOf N mk) op cl sy (i + 1) j := rfl
    rw [eS] at h3 ⊢
    rw [List.length_append, List.length_append, List.length_append, List.length_append, List.length_replicate, List.length_replicate] at h3
    obtain ⟨f1, b1, b2⟩ := times_ok (t := op i) 40 40 rfl (f := f) (P := P) (by omega) h4
    obtain ⟨f2, b3, b4⟩ := psym_ok (s := sy i) hN hk a4 (P := P ++ List.replicate (op i) 40) (f := f1) (by rw [List.length_append, List.length_replicate]; omega) b2
    obtain ⟨f3, b5, b6⟩ := times_ok (t := cl i) 41 41 rfl (f := f2) (P := P ++ List.replicate (op i) 40 ++ sby (nmbOf N mk) (sy i)) (by rw [List.length_append, List.length_append, List.length_replicate]; omega) b4
    have := ih (i + 1) n f3 _ (by omega) (by omega) (by rw [List.length_append, List.length_append, List.length_append, List.length_append, List.length_replicate, List.length_replicate]; omega) b6
    rw [lp_X11_write_10, if_neg (nI_ge (by omega) (by omega)), opensAt_ok (by omega), Option.bind_some, a1, b1, Option.bind_some]
    dsimp only
    rw [symbolAt_ok (by omega), Option.bind_some, a3, b3, Option.bind_some]
    dsimp only
    rw [closesAt_ok (by omega), Option.bind_some, a2, b5, Option.bind_some]
    dsimp only
    rw [nI_1]
    simp only [List.append_assoc] at this ⊢
    exact this
theorem xwrite_ok {N e : Nat} (hN : N ≤ 10) (he : e ≤ 160) {xk mk opens closes symbols f : Nat → Int32} {x : Ent} (hk : ∀ k, k < N → xk k = mk k ∧ codeOK (mk k)) (ht : TXT (nmbOf N mk) [] [x] e opens closes symbols) (h0 : eF x = 0) (he2 : e = eL x + 1) (hX : (eX x).length ≤ 320) (ps : Int32) :
    ∃ f', f_X11_write ps (nI e) opens f symbols (nI N) xk closes = some (nI (eX x).length, nI (eX x).length, f') ∧ PGx f' (eX x) := by
  obtain ⟨op, cl, sy, t1, t2, -⟩ := ht
  have e1 : seg (nmbOf N mk) op cl sy 0 e = eX x := by
    have := t2 x (List.mem_cons_self ..)
    rw [h0, Nat.sub_zero, ← he2] at this
    exact this
  have := xwrite_go hN he hk t1 e 0 5000 f [] (by omega) (by omega) (by rw [List.nil_append, e1]; exact hX) (fun k b q => absurd q (by simp))
  rw [List.nil_append, e1] at this
  exact this
/-! the reference's text -/
def tX (T : TT) (j : Nat) : List Nat := (T j).2.2.2.1
def iv : Nat ⊕ Nat → Int32
  | .inl j => nI j
  | .inr b => nI b - (1000 : Int32)
def fl (T : TT) : List (Nat ⊕ Nat) → List Nat
  | [] => []
  | .inl j :: S => tX T j ++ fl T S
  | .inr b :: S => b :: fl T S
def mu (T : TT) : List (Nat ⊕ Nat) → Nat
  | [] => 0
  | .inl j :: S => 2 * (tX T j).length + mu T S
  | .inr _ :: S => 1 + mu T S
def okI (M : Nat) : List (Nat ⊕ Nat) → Prop
  | [] => True
  | .inl j :: S => j < M ∧ okI M S
  | .inr b :: S => b < 256 ∧ okI M S
def LSt (later : Nat → Int32) (S : List (Nat ⊕ Nat)) : Prop := stk (fun i (a : Nat ⊕ Nat) => later i = iv a) S
def wrI (w : Bool) (j : Nat) (S : List (Nat ⊕ Nat)) : List (Nat ⊕ Nat) := if w then .inr 40 :: .inl j :: .inr 41 :: S else .inl j :: S
theorem fl_wrI (T : TT) (w : Bool) (j : Nat) (S : List (Nat ⊕ Nat)) : fl T (wrI w j S) = wr w (tX T j) ++ fl T S := by
  cases w
  · rfl
  · show 40 :: (tX T j ++ (41 :: fl T S)) = (40 :: (tX T j ++ [41])) ++ fl T S
    rw [List.cons_append, List.append_assoc]
    rfl
theorem mu_wrI (T : TT) (w : Bool) (j : Nat) (S : List (Nat ⊕ Nat)) : mu T (wrI w j S) ≤ 2 * (wr w (tX T j)).length + mu T S := by
  rw [wr_len]
  cases w
  · show 2 * (tX T j).length + mu T S ≤ _
    rw [if_neg (by decide)]; omega
  · show 1 + (2 * (tX T j).length + (1 + mu T S)) ≤ _
    rw [if_pos rfl]; omega
theorem ok_wrI {M j : Nat} {w : Bool} {S : List (Nat ⊕ Nat)} (hj : j < M) (h : okI M S) : okI M (wrI w j S) := by
  cases w
  · exact ⟨hj, h⟩
  · exact ⟨by omega, hj, by omega, h⟩
theorem node_pos {N : Nat} {mk : Nat → Int32} {T : TT} {j : Nat} (h : nodeOK N (nmbOf N mk) T j) : 1 ≤ (tX T j).length ∧ (T j).1 < 256 := by
  unfold tX
  rcases h with ⟨h1, h2, -⟩ | ⟨h1, h2, -⟩ | ⟨h1, -, h2, -⟩ | ⟨h1, -, h2, -⟩ | ⟨h1, -, -, h2, -⟩
  · rw [h2, h1]; exact ⟨Nat.le_refl _, by omega⟩
  · rw [h2, h1]; exact ⟨Nat.le_refl _, by omega⟩
  · rw [h2, h1]
    refine ⟨?_, by omega⟩
    unfold nmbOf
    split
    · exact Nat.le_refl _
    split
    · exact Nat.le_refl _
    · exact Nat.le_succ _
  · rw [h2, h1, List.length_cons]; exact ⟨by omega, by omega⟩
  · rw [h2, List.length_append, List.length_cons]; exact ⟨by omega, (isB_lev h1).2.2.2.2.2.1⟩
theorem fl_len {M : Nat} {T : TT} (hT : ∀ j, j < M → 1 ≤ (tX T j).length) : ∀ {S : List (Nat ⊕ Nat)}, okI M S → S.length ≤ (fl T S).length
  | [], _ => Nat.le_refl _
  | .inl j :: S, h => by
    have := fl_len hT h.2
    have := hT j h.1
    show S.length + 1 ≤ (tX T j ++ fl T S).length
    rw [List.length_append]; omega
  | .inr b :: S, h => by
    have := fl_len hT h.2
    show S.length + 1 ≤ (fl T S).length + 1
    omega
theorem puts_ok {later : Nat → Int32} {S : List (Nat ⊕ Nat)} (hS : S.length < 700) (h : LSt later S) (a : Nat ⊕ Nat) : f_X12_puts (nI S.length) later (iv a) = some (nI (a :: S).length, upd later S.length (iv a)) ∧ LSt (upd later S.length (iv a)) (a :: S) := by
  unfold f_X12_puts
  rw [if_pos (ix_t hS (by decide)), nI_clamp (by omega), nI_1]
  exact ⟨rfl, upd_same, stk_mono h (fun i x hi q => by rw [upd_ne (by omega)]; exact q)⟩
theorem side_ok {later : Nat → Int32} {S : List (Nat ⊕ Nat)} (hS : S.length < 690) (h : LSt later S) (j : Nat) (w : Bool) : ∃ later', f_X12_side (nI S.length) later (nI j) (b2i w) = some (nI (wrI w j S).length, later') ∧ LSt later' (wrI w j S) := by
  unfold f_X12_side jn
  dsimp only
  cases w
  · obtain ⟨q1, q2⟩ := puts_ok (by omega) h (.inl j)
    rw [if_pos (c := b2i false = 0) (by decide), show f_X12_puts (nI S.length) later (nI j) = _ from q1, Option.bind_some]
    dsimp only
    rw [if_pos (c := b2i false = 0) (by decide)]
    exact ⟨_, rfl, q2⟩
  · obtain ⟨q1, q2⟩ := puts_ok (by omega) h (.inr 41)
    obtain ⟨q3, q4⟩ := puts_ok (by rw [List.length_cons]; omega) q2 (.inl j)
    obtain ⟨q5, q6⟩ := puts_ok (by rw [List.length_cons, List.length_cons]; omega) q4 (.inr 40)
    rw [if_neg (c := b2i true = 0) (by decide), show f_X12_puts (nI S.length) later (-959) = _ from q1, Option.bind_some]
    dsimp only
    rw [show f_X12_puts (nI (Sum.inr 41 :: S).length) (upd later S.length (iv (.inr 41))) (nI j) = _ from q3, Option.bind_some]
    dsimp only
    rw [if_neg (c := b2i true = 0) (by decide), show f_X12_puts (nI (Sum.inl j :: Sum.inr 41 :: S).length) _ (-960) = _ from q5, Option.bind_some]
    exact ⟨_, rfl, q6⟩
theorem says_ok {out : Nat → Int32} {P : List Nat} (hP : P.length < 700) {b : Nat} (hb : b < 256) (h : PGm out P) : f_X12_says (nI P.length) out (nI b) = some (nI (P ++ [b]).length, upd out P.length (vp_nar .byte ((nI b).toInt8.toInt32))) ∧ PGm (upd out P.length (vp_nar .byte ((nI b).toInt8.toInt32))) (P ++ [b]) := by
  unfold f_X12_says
  rw [if_pos (ix_t hP (by decide)), nI_clamp (by omega), nI_1, len_snoc]
  exact ⟨rfl, pgm_add h hb⟩
theorem isB_req {s : Nat} (h : isB s) : klev s ≤ 5 ∧ 1 ≤ klev s ∧ ((s = 62 ∧ klev s = 2 ∧ reqR s = 2 ∧ reqL s = 3) ∨ (s ≠ 62 ∧ reqR s = klev s + 1 ∧ reqL s = klev s)) := by
  rcases h with rfl | rfl | rfl | rfl | rfl <;> decide
theorem klev_le (s : Nat) : klev s ≤ 6 := by
  unfold klev
  split
  · omega
  split
  · omega
  split
  · omega
  split
  · omega
  split
  · omega
  · omega
theorem rp_ok {α : Type} {s v : Nat} (hs : isB s) (hv : v ≤ 6) (X Y : α) : (if nI v < nI (klev s) then X else if nI v = nI (klev s) then (if nI s = 62 then Y else X) else Y) = if v < reqR s then X else Y := by
  have h := isB_req hs
  have hl := isB_lev hs
  by_cases h1 : v < klev s
  · rw [if_pos (nI_lt h1 (by omega)), if_pos (by omega)]
  · rw [if_neg (nI_nlt (by omega) (by omega))]
    by_cases h2 : v = klev s
    · rw [if_pos (show nI v = nI (klev s) by rw [h2])]
      by_cases h62 : s = 62
      · rw [if_pos (show nI s = 62 by rw [h62]; rfl), if_neg (by omega)]
      · rw [if_neg (nI_neL (k := 62) (c := 62) (by omega) (by omega) h62), if_pos (by omega)]
    · rw [if_neg (nI_neL (by omega) (by omega) h2), if_neg (by omega)]
theorem lp_ok {α : Type} {s v : Nat} (hs : isB s) (hv : v ≤ 6) (X Y : α) : (if nI v < nI (klev s) then X else if nI v = nI (klev s) then (if nI s = 62 then X else Y) else Y) = if v < reqL s then X else Y := by
  have h := isB_req hs
  have hl := isB_lev hs
  by_cases h1 : v < klev s
  · rw [if_pos (nI_lt h1 (by omega)), if_pos (by omega)]
  · rw [if_neg (nI_nlt (by omega) (by omega))]
    by_cases h2 : v = klev s
    · rw [if_pos (show nI v = nI (klev s) by rw [h2])]
      by_cases h62 : s = 62
      · rw [if_pos (show nI s = 62 by rw [h62]; rfl), if_pos (by omega)]
      · rw [if_neg (nI_neL (k := 62) (c := 62) (by omega) (by omega) h62), if_neg (by omega)]
    · rw [if_neg (nI_neL (by omega) (by omega) h2), if_neg (by omega)]
theorem one_ok {N M j : Nat} {mk kind left right out later : Nat → Int32} {T : TT} (hM : M ≤ 160) (hk : ∀ j, j < M → kind j = nI (T j).1 ∧ left j = nI (T j).2.1 ∧ right j = nI (T j).2.2.1) (hT : ∀ j, j < M → nodeOK N (nmbOf N mk) T j) (hN : N ≤ 10) (hc : ∀ k, k < N → codeOK (mk k)) (hj : j < M) {P : List Nat} {S : List (Nat ⊕ Nat)} (hP : P.length + (tX T j).length ≤ 320) (hS : S.length ≤ 320) (hL : LSt later S) (ho : PGm out P) (hok : okI M S) :
    ∃ P' S' later' out', f_X12_one (nI P.length) (nI S.length) kind out left right later mk (nI j) = some (nI P'.length, nI S'.length, out', later') ∧ LSt later' S' ∧ PGm out' P' ∧ okI M S' ∧ P' ++ fl T S' = P ++ (tX T j ++ fl T S) ∧ mu T S' < 2 * (tX T j).length + mu T S := by
  have hpos := node_pos (hT j hj)
  obtain ⟨k1, k2, k3⟩ := hk j hj
  have hx1 : ix (nI j) 161 = true := ix_t (show j < 161 by omega) (by decide)
  unfold f_X12_one
  rw [nI_clamp (show j < 2 ^ 31 by omega), k1, k2, k3]
  simp only [hx1, ↓reduceIte]
  have hTj := hT j hj
  rcases hTj with ⟨h1, h2, -⟩ | ⟨h1, h2, -⟩ | ⟨h1, h3, h2, -⟩ | ⟨h1, h3, h2, -⟩ | ⟨h1, h3, h4, h2, -⟩
  · have e : tX T j = [48] := h2
    obtain ⟨q1, q2⟩ := says_ok (b := 48) (P := P) (by omega) (by omega) ho
    rw [h1, if_pos (c := nI 48 = 48) rfl, q1, Option.bind_some]
    refine ⟨_, S, later, _, rfl, hL, q2, hok, by rw [e, List.append_assoc], by omega⟩
  · have e : tX T j = [49] := h2
    obtain ⟨q1, q2⟩ := says_ok (b := 49) (P := P) (by omega) (by omega) ho
    rw [h1, if_neg (c := nI 49 = 48) (by decide), if_pos (c := nI 49 = 49) rfl, q1, Option.bind_some]
    refine ⟨_, S, later, _, rfl, hL, q2, hok, by rw [e, List.append_assoc], by omega⟩
  · obtain ⟨l, d, c1, c2, c3, c4, c5, c6, c7, c8⟩ := code_bytes (hc _ h3)
    have e : tX T j = if d = 0 then [l] else [l, 47 + d] := Eq.trans h2 (nmb_code h3 c2 c8)
    rw [h1, if_neg (c := nI 110 = 48) (by decide), if_neg (c := nI 110 = 49) (by decide), if_pos (c := nI 110 = 110) rfl, if_pos (ix_t (show (T j).2.1 < 12 by omega) (by decide)), nI_clamp (show (T j).2.1 < 2 ^ 31 by omega), c5]
    obtain ⟨q1, q2⟩ := says_ok (b := l) (P := P) (by omega) (by omega) ho
    rw [q1, Option.bind_some]
    dsimp only
    by_cases hd : d = 0
    · rw [if_pos hd] at e
      rw [if_pos (c6.2 hd)]
      refine ⟨_, S, later, _, rfl, hL, q2, hok, by rw [e, List.append_assoc], by omega⟩
    · rw [if_neg hd] at e
      rw [if_neg (fun z => hd (c6.1 z)), c7]
      obtain ⟨q3, q4⟩ := says_ok (b := 47 + d) (P := P ++ [l]) (by rw [len_snoc]; omega) (by omega) q2
      rw [q3, Option.bind_some]
      refine ⟨_, S, later, _, rfl, hL, q4, hok, by rw [e, List.append_assoc, List.append_assoc]; rfl, by omega⟩
  · have hpl := node_pos (hT _ (show (T j).2.1 < M by omega))
    have e : tX T j = 33 :: wr (decide (klev (T (T j).2.1).1 < 6)) (tX T (T j).2.1) := h2
    rw [h1, if_neg (c := nI 33 = 48) (by decide), if_neg (c := nI 33 = 49) (by decide), if_neg (c := nI 33 = 110) (by decide), if_pos (c := nI 33 = 33) rfl, if_pos (ix_t (show (T j).2.1 < 161 by omega) (by decide)), nI_clamp (show (T j).2.1 < 2 ^ 31 by omega), (hk _ (show (T j).2.1 < M by omega)).1, lev_m (show (T (T j).2.1).1 < 2 ^ 31 by omega), Option.bind_some]
    unfold jn
    dsimp only
    obtain ⟨later1, s1, s2⟩ := side_ok (by omega) hL (T j).2.1 (decide (klev (T (T j).2.1).1 < 6))
    have hw3 : (wrI (decide (klev (T (T j).2.1).1 < 6)) (T j).2.1 S).length ≤ S.length + 3 := by
      unfold wrI
      split
      · exact Nat.le_refl _
      · rw [List.length_cons]; omega
    obtain ⟨s3, s4⟩ := puts_ok (by omega) s2 (.inr 33)
    have hgo : ∀ w : Bool, w = decide (klev (T (T j).2.1).1 < 6) → ((f_X12_side (nI S.length) later (nI (T j).2.1) (b2i w)).bind fun (v_laters_50, v_later_51) => (f_X12_puts v_laters_50 v_later_51 (-967)).bind fun (v_laters_53, v_later_54) => some (nI P.length, v_laters_53, out, v_later_54)) = some (nI P.length, nI (Sum.inr 33 :: wrI (decide (klev (T (T j).2.1).1 < 6)) (T j).2.1 S).length, out, upd later1 (wrI (decide (klev (T (T j).2.1).1 < 6)) (T j).2.1 S).length (iv (.inr 33))) := by
      intro w hw
      rw [hw, s1, Option.bind_some]
      dsimp only
      rw [show f_X12_puts (nI (wrI (decide (klev (T (T j).2.1).1 < 6)) (T j).2.1 S).length) later1 (-967) = _ from s3, Option.bind_some]
    refine ⟨P, Sum.inr 33 :: wrI (decide (klev (T (T j).2.1).1 < 6)) (T j).2.1 S, upd later1 (wrI (decide (klev (T (T j).2.1).1 < 6)) (T j).2.1 S).length (iv (.inr 33)), out, ?_, s4, ho, ⟨by omega, ok_wrI (by omega) hok⟩, ?_, ?_⟩
    · by_cases h6 : klev (T (T j).2.1).1 < 6
      · rw [if_neg (ge_lit (k := 6) (c := 6) rfl h6 (by omega))]
        exact hgo true (decide_eq_true h6).symm
      · rw [if_pos (show (6 : Int32) ≤ nI (klev (T (T j).2.1).1) from nI_le (a := 6) (by omega) (by have := klev_le (T (T j).2.1).1; omega))]
        exact hgo false (decide_eq_false h6).symm
    · show P ++ (33 :: fl T (wrI _ _ S)) = _
      rw [fl_wrI, e, List.cons_append]
    · show 1 + mu T (wrI _ _ S) < _
      have := mu_wrI T (decide (klev (T (T j).2.1).1 < 6)) (T j).2.1 S
      rw [e, List.length_cons]
      omega
  · have hl := isB_lev h1
    have hjL : (T j).2.1 < M := by omega
    have hjR : (T j).2.2.1 < M := by omega
    have hpL := node_pos (hT _ hjL)
    have hpR := node_pos (hT _ hjR)
    have e : tX T j = wr (decide (klev (T (T j).2.1).1 < reqL (T j).1)) (tX T (T j).2.1) ++ ((T j).1 :: wr (decide (klev (T (T j).2.2.1).1 < reqR (T j).1)) (tX T (T j).2.2.1)) := h2
    rw [if_neg (nI_neL (k := 48) (c := 48) (by omega) (by omega) (by omega)), if_neg (nI_neL (k := 49) (c := 49) (by omega) (by omega) (by omega)), if_neg (nI_neL (k := 110) (c := 110) (by omega) (by omega) (by omega)), if_neg (nI_neL (k := 33) (c := 33) (by omega) (by omega) (by omega)), lev_m (by omega), Option.bind_some, if_pos (ix_t (show (T j).2.1 < 161 by omega) (by decide)), nI_clamp (show (T j).2.1 < 2 ^ 31 by omega), nI_clamp (show (T j).2.2.1 < 2 ^ 31 by omega), (hk _ hjL).1, lev_m (by omega), Option.bind_some, if_pos (ix_t (show (T j).2.2.1 < 161 by omega) (by decide)), (hk _ hjR).1, lev_m (by omega), Option.bind_some]
    unfold jn
    dsimp only
    obtain ⟨later1, s1, s2⟩ := side_ok (by omega) hL (T j).2.2.1 (decide (klev (T (T j).2.2.1).1 < reqR (T j).1))
    have hw3 : ∀ (w : Bool) (i : Nat) (Z : List (Nat ⊕ Nat)), (wrI w i Z).length ≤ Z.length + 3 := by
      intro w i Z
      unfold wrI
      split
      · exact Nat.le_refl _
      · rw [List.length_cons]; omega
    have hw4 := hw3 (decide (klev (T (T j).2.2.1).1 < reqR (T j).1)) (T j).2.2.1 S
    obtain ⟨s3, s4⟩ := puts_ok (by omega) s2 (.inr (T j).1)
    obtain ⟨later2, s5, s6⟩ := side_ok (by rw [List.length_cons]; omega) s4 (T j).2.1 (decide (klev (T (T j).2.1).1 < reqL (T j).1))
    have hv1 := klev_le (T (T j).2.1).1
    have hv2 := klev_le (T (T j).2.2.1).1
    have hgo : ∀ w : Bool, w = decide (klev (T (T j).2.2.1).1 < reqR (T j).1) → ((f_X12_side (nI S.length) later (nI (T j).2.2.1) (b2i w)).bind fun (v_laters_20, v_later_21) =>
        (f_X12_puts v_laters_20 v_later_21 ((nI (T j).1) - (1000 : Int32))).bind fun (v_laters_23, v_later_24) =>
        if nI (klev (T (T j).2.1).1) < nI (klev (T j).1) then
        ((f_X12_side v_laters_23 v_later_24 (nI (T j).2.1) 1).bind fun (v_laters_28, v_later_29) => some (nI P.length, v_laters_28, out, v_later_29))
        else
        (if nI (klev (T (T j).2.1).1) = nI (klev (T j).1) then
        (if nI (T j).1 = 62 then
        ((f_X12_side v_laters_23 v_later_24 (nI (T j).2.1) 1).bind fun (v_laters_39, v_later_40) => some (nI P.length, v_laters_39, out, v_later_40))
        else
        ((f_X12_side v_laters_23 v_later_24 (nI (T j).2.1) 0).bind fun (v_laters_36, v_later_37) => some (nI P.length, v_laters_36, out, v_later_37)))
        else
        ((f_X12_side v_laters_23 v_later_24 (nI (T j).2.1) 0).bind fun (v_laters_32, v_later_33) => some (nI P.length, v_laters_32, out, v_later_33)))) = some (nI P.length, nI (wrI (decide (klev (T (T j).2.1).1 < reqL (T j).1)) (T j).2.1 (Sum.inr (T j).1 :: wrI (decide (klev (T (T j).2.2.1).1 < reqR (T j).1)) (T j).2.2.1 S)).length, out, later2) := by
      intro w hw
      rw [hw, s1, Option.bind_some]
      dsimp only
      rw [show f_X12_puts (nI (wrI (decide (klev (T (T j).2.2.1).1 < reqR (T j).1)) (T j).2.2.1 S).length) later1 (nI (T j).1 - (1000 : Int32)) = _ from s3, Option.bind_some]
      dsimp only
      rw [lp_ok h1 hv1]
      by_cases hq : klev (T (T j).2.1).1 < reqL (T j).1
      · rw [decide_eq_true hq] at s5 ⊢
        rw [if_pos hq, show f_X12_side _ _ (nI (T j).2.1) 1 = _ from s5, Option.bind_some]
      · rw [decide_eq_false hq] at s5 ⊢
        rw [if_neg hq, show f_X12_side _ _ (nI (T j).2.1) 0 = _ from s5, Option.bind_some]
    refine ⟨P, wrI (decide (klev (T (T j).2.1).1 < reqL (T j).1)) (T j).2.1 (Sum.inr (T j).1 :: wrI (decide (klev (T (T j).2.2.1).1 < reqR (T j).1)) (T j).2.2.1 S), later2, out, ?_, s6, ho, ok_wrI hjL ⟨by omega, ok_wrI hjR hok⟩, ?_, ?_⟩
    · rw [rp_ok h1 hv2]
      by_cases hq : klev (T (T j).2.2.1).1 < reqR (T j).1
      · rw [if_pos hq]
        exact hgo true (decide_eq_true hq).symm
      · rw [if_neg hq]
        exact hgo false (decide_eq_false hq).symm
    · rw [fl_wrI]
      show P ++ (wr _ _ ++ ((T j).1 :: fl T (wrI _ _ S))) = _
      rw [fl_wrI, e, List.append_assoc, List.cons_append]
    · have m1 := mu_wrI T (decide (klev (T (T j).2.1).1 < reqL (T j).1)) (T j).2.1 (Sum.inr (T j).1 :: wrI (decide (klev (T (T j).2.2.1).1 < reqR (T j).1)) (T j).2.2.1 S)
      have m2 := mu_wrI T (decide (klev (T (T j).2.2.1).1 < reqR (T j).1)) (T j).2.2.1 S
      have m3 : mu T (Sum.inr (T j).1 :: wrI (decide (klev (T (T j).2.2.1).1 < reqR (T j).1)) (T j).2.2.1 S) = 1 + mu T (wrI (decide (klev (T (T j).2.2.1).1 < reqR (T j).1)) (T j).2.2.1 S) := rfl
      rw [e, List.length_append, List.length_cons]
      omega
theorem neg1000 : ∀ b, b < 256 → ¬ (0 : Int32) ≤ nI b - (1000 : Int32) ∧ nI b - (1000 : Int32) + (1000 : Int32) = nI b := by decide +kernel
theorem mwrite_go {N M : Nat} {mk kind left right : Nat → Int32} {T : TT} {tp : Int32} (hM : M ≤ 160) (hk : ∀ j, j < M → kind j = nI (T j).1 ∧ left j = nI (T j).2.1 ∧ right j = nI (T j).2.2.1) (hT : ∀ j, j < M → nodeOK N (nmbOf N mk) T j) (hN : N ≤ 10) (hc : ∀ k, k < N → codeOK (mk k)) : ∀ (n : Nat) (P : List Nat) (S : List (Nat ⊕ Nat)) (later out : Nat → Int32), mu T S < n → (P ++ fl T S).length ≤ 320 → okI M S → LSt later S → PGm out P →
    ∃ later' out', lp_X12_write_18 tp kind left right mk n (nI P.length) (nI S.length) later out (fun a b c d => some (a, a, b, c, d)) = some (nI (P ++ fl T S).length, nI (P ++ fl T S).length, nI 0, later', out') ∧ PGm out' (P ++ fl T S) := by
  intro n
  induction n with
  | zero => intro P S later out h; omega
  | succ n ih =>
    intro P S later out hn hX hok hL ho
    have hSl := fl_len (fun j hj => (node_pos (hT j hj)).1) hok
    rw [List.length_append] at hX
    rw [lp_X12_write_18]
    cases S with
    | nil =>
      rw [show ([] : List (Nat ⊕ Nat)).length = 0 from rfl, if_pos (c := nI 0 ≤ 0) (by decide), show fl T [] = [] from rfl, List.append_nil]
      exact ⟨_, _, rfl, ho⟩
    | cons a S =>
      rw [List.length_cons] at hSl
      rw [List.length_cons, if_neg (nI_nle (by omega) (by omega)), nI_pred, if_pos (ix_t (show S.length < 700 by omega) (by decide)), nI_clamp (by omega), show later S.length = iv a from hL.1]
      cases a with
      | inl j =>
        have e : fl T (.inl j :: S) = tX T j ++ fl T S := rfl
        rw [e] at hX ⊢
        rw [List.length_append] at hX
        have hSl2 := fl_len (fun j hj => (node_pos (hT j hj)).1) hok.2
        obtain ⟨P', S', later', out', g1, g2, g3, g4, g5, g6⟩ := one_ok hM hk hT hN hc hok.1 (show P.length + (tX T j).length ≤ 320 by omega) (show S.length ≤ 320 by omega) hL.2 ho hok.2
        rw [if_pos (show (0 : Int32) ≤ iv (.inl j) from nI_pos' (by have := hok.1; omega)), show f_X12_one (nI P.length) (nI S.length) kind out left right later mk (iv (.inl j)) = _ from g1, Option.bind_some]
        have hm : mu T (.inl j :: S) = 2 * (tX T j).length + mu T S := rfl
        have := ih P' S' later' out' (by omega) (by rw [g5, List.length_append, List.length_append]; omega) g4 g2 g3
        rw [g5] at this
        exact this
      | inr b =>
        have e : fl T (.inr b :: S) = b :: fl T S := rfl
        rw [e] at hX ⊢
        rw [List.length_cons] at hX
        obtain ⟨z1, z2⟩ := neg1000 b hok.1
        obtain ⟨q1, q2⟩ := says_ok (b := b) (P := P) (by omega) hok.1 ho
        rw [if_neg (show ¬ (0 : Int32) ≤ iv (.inr b) from z1), show iv (.inr b) + (1000 : Int32) = nI b from z2, q1, Option.bind_some]
        have hm : mu T (.inr b :: S) = 1 + mu T S := rfl
        have := ih (P ++ [b]) S later _ (by omega) (by rw [List.length_append, len_snoc]; omega) hok.2 hL.2 q2
        rw [List.append_assoc] at this
        exact this
theorem mwrite_ok {N M top : Nat} {mk kind left right out later : Nat → Int32} {T : TT} {wr0 la0 : Int32} (hM : M ≤ 160) (hk : ∀ j, j < M → kind j = nI (T j).1 ∧ left j = nI (T j).2.1 ∧ right j = nI (T j).2.2.1) (hT : ∀ j, j < M → nodeOK N (nmbOf N mk) T j) (hN : N ≤ 10) (hc : ∀ k, k < N → codeOK (mk k)) (ht : top < M) (hX : (tX T top).length ≤ 320) :
    ∃ la' later' out', f_X12_write (nI top) wr0 la0 later kind out left right mk = some (nI (tX T top).length, nI (tX T top).length, la', later', out') ∧ PGm out' (tX T top) := by
  obtain ⟨q1, q2⟩ := puts_ok (S := []) (later := later) (by decide) trivial (.inl top)
  have hf : fl T [.inl top] = tX T top := List.append_nil _
  have hm : mu T [.inl top] = 2 * (tX T top).length + 0 := rfl
  obtain ⟨l', o', g1, g2⟩ := mwrite_go (tp := nI top) hM hk hT hN hc 5000 [] [.inl top] _ out (by omega) (by rw [List.nil_append, hf]; exact hX) ⟨ht, trivial⟩ q2 (fun k b q => absurd q (by simp))
  rw [List.nil_append, hf] at g1 g2
  unfold f_X12_write
  rw [show f_X12_puts 0 later (nI top) = _ from q1, Option.bind_some]
  exact ⟨_, _, _, g1, g2⟩
theorem page_same {X : List Nat} {f g : Nat → Int32} (h1 : PGx f X) (h2 : PGm g X) : ∀ k, k < X.length → f k = g k &&& 255 := by
  intro k hk
  rw [h1 k _ (List.getElem?_eq_getElem hk), h2 k _ (List.getElem?_eq_getElem hk)]
