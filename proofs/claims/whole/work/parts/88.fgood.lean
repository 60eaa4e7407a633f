/-! what holds of the two stacks and the nodes -/
def potD : List Ent → Nat
  | [] => 0
  | x :: D => (eX x).length + (if eC x then 2 else 0) + potD D
def conD (M : Nat) (T : TT) (D : List Ent) : Prop := ∀ x ∈ D, eJ x < M ∧ klev (T (eJ x)).1 = eV x ∧ (T (eJ x)).2.2.2.1 = eX x ∧ (T (eJ x)).2.2.2.2 = eU x ∧ eV x ≤ 6
def nodeOK (N : Nat) (nmb : Nat → List Nat) (T : TT) (j : Nat) : Prop :=
  ((T j).1 = 48 ∧ (T j).2.2.2.1 = [48] ∧ (T j).2.2.2.2 = fun _ => 0) ∨
  ((T j).1 = 49 ∧ (T j).2.2.2.1 = [49] ∧ (T j).2.2.2.2 = fun _ => -1) ∨
  ((T j).1 = 110 ∧ (T j).2.1 < N ∧ (T j).2.2.2.1 = nmb (T j).2.1 ∧ (T j).2.2.2.2 = fun w => nmv N (T j).2.1 w) ∨
  ((T j).1 = 33 ∧ (T j).2.1 < j ∧ (T j).2.2.2.1 = 33 :: wr (decide (klev (T (T j).2.1).1 < 6)) (T (T j).2.1).2.2.2.1 ∧ (T j).2.2.2.2 = fun w => (T (T j).2.1).2.2.2.2 w ^^^ (-1)) ∨
  (isB (T j).1 ∧ (T j).2.1 < j ∧ (T j).2.2.1 < j ∧ (T j).2.2.2.1 = wr (decide (klev (T (T j).2.1).1 < reqL (T j).1)) (T (T j).2.1).2.2.2.1 ++ ((T j).1 :: wr (decide (klev (T (T j).2.2.1).1 < reqR (T j).1)) (T (T j).2.2.1).2.2.2.1) ∧ (T j).2.2.2.2 = fun w => cmb (T j).1 ((T (T j).2.1).2.2.2.2 w) ((T (T j).2.2.1).2.2.2.2 w))
theorem node_up {N : Nat} {nmb : Nat → List Nat} {T : TT} {M j : Nat} {x : Nat × Nat × Nat × List Nat × (Nat → Int64)} (hj : j < M) (h : nodeOK N nmb T j) : nodeOK N nmb (up T M x) j := by
  have e : up T M x j = T j := up_ne (by omega)
  unfold nodeOK
  rw [e]
  rcases h with h | h | h | ⟨h1, h2, h3⟩ | ⟨h1, h2, h3, h4⟩
  · exact Or.inl h
  · exact Or.inr (Or.inl h)
  · exact Or.inr (Or.inr (Or.inl h))
  · refine Or.inr (Or.inr (Or.inr (Or.inl ⟨h1, h2, ?_⟩)))
    rw [up_ne (show (T j).2.1 ≠ M by omega)]; exact h3
  · refine Or.inr (Or.inr (Or.inr (Or.inr ⟨h1, h2, h3, ?_⟩)))
    rw [up_ne (show (T j).2.1 ≠ M by omega), up_ne (show (T j).2.2.1 ≠ M by omega)]; exact h4
theorem con_up {M : Nat} {T : TT} {D : List Ent} {x : Nat × Nat × Nat × List Nat × (Nat → Int64)} (h : conD M T D) : conD (M + 1) (up T M x) D := by
  intro z hz
  obtain ⟨h1, h2⟩ := h z hz
  rw [up_ne (by omega)]
  exact ⟨by omega, h2⟩
def topc (L : Nat) (D : List Ent) : Prop := ∀ a D', D = a :: D' → eC a = true ∨ L ≤ eV a
def G (N : Nat) (nmb : Nat → List Nat) (W : List (Nat × Nat)) (D : List Ent) (M : Nat) (T : TT) (e k : Nat) : Prop :=
  layB W D e ∧ conD M T D ∧ (∀ j, j < M → nodeOK N nmb T j) ∧ potD D + W.length ≤ 2 * k ∧ M + W.length ≤ k ∧ D.length ≤ M ∧ e ≤ k
theorem wr_len (b : Bool) (x : List Nat) : (wr b x).length = x.length + (if b then 2 else 0) := by
  cases b
  · rfl
  · show (40 :: (x ++ [41])).length = _
    rw [List.length_cons, List.length_append]
    rfl
theorem wr_cred {v q : Nat} {c : Bool} {x : List Nat} (h : c = true ∨ q ≤ v) : (wr (decide (v < q)) x).length ≤ x.length + (if c then 2 else 0) := by
  rw [wr_len]
  rcases h with h | h
  · rw [h, if_pos rfl]; split <;> omega
  · rw [decide_eq_false (by omega), if_neg (by decide)]; omega
theorem red_good {N : Nat} {nmb : Nat → List Nat} {L e k : Nat} (hL1 : 1 ≤ L) (hL : L ≤ 6) : ∀ (W : List (Nat × Nat)) (D : List Ent) (M : Nat) (T : TT), G N nmb W D M T e k → topc L D →
    G N nmb (red L W D M T).1 (red L W D M T).2.1 (red L W D M T).2.2.1 (red L W D M T).2.2.2 e k ∧ topc L (red L W D M T).2.1 ∧ pc (red L W D M T).1 = pc W ∧ oc (red L W D M T).1 ≤ oc W ∧ ∀ y W', (red L W D M T).1 = y :: W' → clev y.1 < L := by
  intro W
  induction W with
  | nil => exact fun D M T h ht => ⟨h, ht, rfl, Nat.le_refl _, fun y W' q => absurd q (by intro q; cases q)⟩
  | cons y W ih =>
    intro D M T h ht
    by_cases hlt : clev y.1 < L
    · rw [red_stop hlt]
      exact ⟨h, ht, rfl, Nat.le_refl _, fun y' W' q => by obtain ⟨rfl, rfl⟩ := List.cons.inj q; exact hlt⟩
    obtain ⟨g1, g2, g3, g4, g5, g6, g7⟩ := h
    rw [List.length_cons] at g4 g5
    rcases layB_sign g1 with h40 | h33 | hbin
    · rw [h40] at hlt
      exact absurd (show clev 40 < L from hL1) hlt
    · obtain ⟨a, D1, rfl, l1, l2, l3, l4, l0, l5⟩ := lay_not M h33 g1
      rw [red_not hlt h33]
      have ca := g2 a (List.mem_cons_self ..)
      have hG : G N nmb W (mkN M y.2 a :: D1) (M + 1) (up T M (33, eJ a, 0, eX (mkN M y.2 a), eU (mkN M y.2 a))) e k := by
        refine ⟨l5, ?_, ?_, ?_, by omega, by rw [List.length_cons] at g6 ⊢; omega, g7⟩
        · intro x hx
          rcases List.mem_cons.1 hx with rfl | hx
          · show M < M + 1 ∧ klev (up T M _ M).1 = 6 ∧ (up T M _ M).2.2.2.1 = _ ∧ (up T M _ M).2.2.2.2 = _ ∧ 6 ≤ 6
            rw [up_same]
            exact ⟨Nat.lt_succ_self _, rfl, rfl, rfl, Nat.le_refl _⟩
          · exact con_up (fun z hz => g2 z (List.mem_cons_of_mem _ hz)) x hx
        · intro j hj
          by_cases q : j = M
          · subst q
            refine Or.inr (Or.inr (Or.inr (Or.inl ?_)))
            rw [up_same]
            dsimp only
            rw [up_ne (by omega), ca.2.1, ca.2.2.1, ca.2.2.2.1]
            exact ⟨rfl, ca.1, rfl, rfl⟩
          · exact node_up (by omega) (g3 j (by omega))
        · have hw := wr_cred (x := eX a) l0
          show (33 :: wr (decide (eV a < 6)) (eX a)).length + 0 + potD D1 + W.length ≤ 2 * k
          have : potD (a :: D1) = (eX a).length + (if eC a then 2 else 0) + potD D1 := rfl
          rw [List.length_cons]
          omega
      obtain ⟨i1, i2, i3, i4, i5⟩ := ih _ _ _ hG (fun a' D' q => by obtain ⟨rfl, rfl⟩ := List.cons.inj q; exact Or.inr hL)
      refine ⟨i1, i2, ?_, ?_, i5⟩
      · rw [i3]
        show pc W = (if y.1 = 40 then 1 else 0) + pc W
        rw [if_neg (by omega), Nat.zero_add]
      · have : oc (y :: W) = (if y.1 = 33 ∨ y.1 = 40 then 1 else 0) + oc W := rfl
        omega
    · have hl := isB_lev hbin
      obtain ⟨a, b, D2, rfl, l1, l2, l3, l4, l5, l6, l8, l9, l7⟩ := lay_bin M hbin g1
      rw [red_bin hlt hl.2.2.2.1]
      have ca := g2 a (List.mem_cons_self ..)
      have cb := g2 b (List.mem_cons_of_mem _ (List.mem_cons_self ..))
      have hG : G N nmb W (mkB M y.1 b a :: D2) (M + 1) (up T M (y.1, eJ b, eJ a, eX (mkB M y.1 b a), eU (mkB M y.1 b a))) e k := by
        refine ⟨l7, ?_, ?_, ?_, by omega, by rw [List.length_cons, List.length_cons] at g6; rw [List.length_cons]; omega, g7⟩
        · intro x hx
          rcases List.mem_cons.1 hx with rfl | hx
          · show M < M + 1 ∧ klev (up T M _ M).1 = clev y.1 ∧ (up T M _ M).2.2.2.1 = _ ∧ (up T M _ M).2.2.2.2 = _ ∧ clev y.1 ≤ 6
            rw [up_same]
            exact ⟨Nat.lt_succ_self _, hl.1.symm, rfl, rfl, by omega⟩
          · exact con_up (fun z hz => g2 z (List.mem_cons_of_mem _ (List.mem_cons_of_mem _ hz))) x hx
        · intro j hj
          by_cases q : j = M
          · subst q
            refine Or.inr (Or.inr (Or.inr (Or.inr ?_)))
            rw [up_same]
            dsimp only
            rw [up_ne (by omega), up_ne (by omega), ca.2.1, ca.2.2.1, ca.2.2.2.1, cb.2.1, cb.2.2.1, cb.2.2.2.1]
            exact ⟨hbin, cb.1, ca.1, rfl, rfl⟩
          · exact node_up (by omega) (g3 j (by omega))
        · have hw := wr_cred (x := eX a) l8
          have hw2 := wr_cred (x := eX b) l9
          show (wr (decide (eV b < reqL y.1)) (eX b) ++ (y.1 :: wr (decide (eV a < reqR y.1)) (eX a))).length + 0 + potD D2 + W.length ≤ 2 * k
          have : potD (a :: b :: D2) = (eX a).length + (if eC a then 2 else 0) + ((eX b).length + (if eC b then 2 else 0) + potD D2) := rfl
          rw [List.length_append, List.length_cons]
          omega
      obtain ⟨i1, i2, i3, i4, i5⟩ := ih _ _ _ hG (fun a' D' q => by obtain ⟨rfl, rfl⟩ := List.cons.inj q; exact Or.inr (by show L ≤ clev y.1; omega))
      refine ⟨i1, i2, ?_, ?_, i5⟩
      · rw [i3]
        show pc W = (if y.1 = 40 then 1 else 0) + pc W
        rw [if_neg (by omega), Nat.zero_add]
      · have : oc (y :: W) = (if y.1 = 33 ∨ y.1 = 40 then 1 else 0) + oc W := rfl
        omega
