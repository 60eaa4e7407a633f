theorem red_stop {L : Nat} {y : Nat × Nat} {W : List (Nat × Nat)} {D : List Ent} {M : Nat} {T : TT} (h : clev y.1 < L) : red L (y :: W) D M T = (y :: W, D, M, T) := by
  rw [red.eq_def]
  dsimp only
  rw [if_pos h]
theorem red_not {L : Nat} {y : Nat × Nat} {W : List (Nat × Nat)} {a : Ent} {D : List Ent} {M : Nat} {T : TT} (h : ¬ clev y.1 < L) (hy : y.1 = 33) : red L (y :: W) (a :: D) M T = red L W (mkN M y.2 a :: D) (M + 1) (up T M (33, eJ a, 0, eX (mkN M y.2 a), eU (mkN M y.2 a))) := by
  rw [red.eq_def]
  dsimp only
  rw [if_neg h, if_pos hy]
theorem red_bin {L : Nat} {y : Nat × Nat} {W : List (Nat × Nat)} {a b : Ent} {D : List Ent} {M : Nat} {T : TT} (h : ¬ clev y.1 < L) (hy : y.1 ≠ 33) : red L (y :: W) (a :: b :: D) M T = red L W (mkB M y.1 b a :: D) (M + 1) (up T M (y.1, eJ b, eJ a, eX (mkB M y.1 b a), eU (mkB M y.1 b a))) := by
  rw [red.eq_def]
  dsimp only
  rw [if_neg h, if_neg hy]
theorem tp_dec (W : List (Nat × Nat)) : nI W.length + (-1) = tpI W := by
  cases W with
  | nil => rfl
  | cons y W =>
    show nI (W.length + 1) + (-1) = nI W.length
    rw [sb_m1 (by omega), Nat.add_sub_cancel]
theorem stepf_not (N w : Nat) (x : Int64) (r : List Int64) : stepf N w 33 (x :: r) = (x ^^^ (-1)) :: r := by
  unfold stepf
  rw [if_neg (by decide), if_neg (by decide), if_neg (by decide)]
  dsimp only
  rw [if_pos rfl]
theorem stepf_bin (N w : Nat) {s : Nat} (hs : isB s) (x y : Int64) (r : List Int64) : stepf N w s (y :: x :: r) = cmb s x y :: r := by
  have h := isB_lev hs
  unfold stepf
  rw [if_neg (by omega), if_neg (by omega), if_neg (by omega)]
  dsimp only
  rw [if_neg (by omega)]
section APP
variable {N : Nat} {nmb : Nat → List Nat}
theorem app_x {L e : Nat} (hL : 1 ≤ L) (hL6 : L ≤ 6) {symbols operators places : Nat → Int32} : ∀ (W : List (Nat × Nat)) (D : List Ent) (M : Nat) (T : TT) (n : Nat) (steps levels firsts lasts opens closes : Nat → Int32), W.length < n → layB W D e → e ≤ 160 → M + W.length ≤ 160 → D.length ≤ 160 → (∀ x ∈ D, eV x ≤ 6) → RC N nmb W D M e symbols opens closes steps operators levels firsts lasts places →
    ∃ (steps' levels' firsts' lasts' opens' closes' : Nat → Int32), lp_X1_applyDownTo_7 (nI L) operators places n (tpI W) (nI W.length) (nI D.length) (nI (oc W)) (nI M) steps levels firsts lasts opens closes (fun _ a b c d s l f la o cl => some (a, b, c, d, s, l, f, la, o, cl)) = some (nI (red L W D M T).1.length, nI (red L W D M T).2.1.length, nI (oc (red L W D M T).1), nI (red L W D M T).2.2.1, steps', levels', firsts', lasts', opens', closes') ∧ RC N nmb (red L W D M T).1 (red L W D M T).2.1 (red L W D M T).2.2.1 e symbols opens' closes' steps' operators levels' firsts' lasts' places := by
  intro W
  induction W with
  | nil =>
    intro D M T n steps levels firsts lasts opens closes hn hB he hM hD h6 hR
    obtain ⟨n, rfl⟩ : ∃ m, n = m + 1 := ⟨n - 1, by simp only [List.length_nil] at hn; omega⟩
    rw [lp_X1_applyDownTo_7]
    show ∃ (steps' levels' firsts' lasts' opens' closes' : Nat → Int32), ((f_X11_within (-1) 160).bind _) = _ ∧ _
    have hw : f_X11_within (-1) 160 = some false := rfl
    rw [hw, Option.bind_some, if_pos (c := b2i false = 0) (by decide)]
    exact ⟨_, _, _, _, _, _, rfl, hR⟩
  | cons y W ih =>
    intro D M T n steps levels firsts lasts opens closes hn hB he hM hD h6 hR
    obtain ⟨n, rfl⟩ : ∃ m, n = m + 1 := ⟨n - 1, by omega⟩
    rw [List.length_cons] at hn hM
    obtain ⟨r1, r2, r3, r4⟩ := hR
    obtain ⟨⟨ro, rp⟩, r1'⟩ := r1
    have hy3 : y.1 < 2 ^ 31 := by
      rcases layB_sign hB with h | h | h
      · omega
      · omega
      · have := isB_lev h; omega
    have hcl : clev y.1 ≤ 6 := by
      rcases layB_sign hB with h | h | h
      · rw [h]; decide
      · rw [h]; decide
      · have := isB_lev h; omega
    rw [lp_X1_applyDownTo_7, show tpI (y :: W) = nI W.length from rfl]
    have hw : f_X11_within (nI W.length) 160 = some true := by
      have := w_nI (a := W.length) (b := 160) (by omega) (by omega)
      rw [decide_eq_true (by omega)] at this
      exact this
    rw [hw, Option.bind_some, if_neg (c := b2i true = 0) (by decide)]
    rw [if_pos (ix_t (by omega) (by decide)), nI_clamp (by omega), ro, lev_x hy3, Option.bind_some]
    by_cases hlt : clev y.1 < L
    · rw [red_stop hlt, if_neg (nI_ge hlt (by omega))]
      exact ⟨_, _, _, _, _, _, rfl, ⟨⟨ro, rp⟩, r1'⟩, r2, r3, r4⟩
    rw [if_pos (nI_le (by omega) (by omega)), addStep_ok (by omega), Option.bind_some]
    dsimp only
    rcases layB_sign hB with h40 | h33 | hbin
    · rw [h40] at hlt
      exact absurd (show clev 40 < L by show 0 < L; omega) hlt
    · obtain ⟨a, D1, rfl, l1, l2, l3, l4, -, l5⟩ := lay_not M h33 hB
      rw [List.length_cons] at hD
      obtain ⟨⟨d1, d2, d3⟩, r2'⟩ := r2
      have ha6 : eV a ≤ 6 := h6 a (List.mem_cons_self ..)
      obtain ⟨o', c', t1, t2⟩ := txt_not nmb (M := M) (i := D1.length) (by omega) d1 d2 d3 (by omega) h33 l1 l2 l3 he l4 r3
      have hst : STP N (mkN M y.2 a :: D1) (M + 1) (upd steps M (nI 33)) := stp_add N (by omega) r4 (fun w => by
        show stepf N w 33 (eU a w :: D1.map (fun x => eU x w)) = _
        rw [stepf_not]; rfl)
      have hR' : RC N nmb W (mkN M y.2 a :: D1) (M + 1) e symbols o' c' (upd steps M (nI 33)) operators (upd levels D1.length 6) (upd firsts D1.length (nI y.2)) lasts places := by
        refine ⟨r1', ⟨⟨?_, ?_, ?_⟩, ?_⟩, t2, hst⟩
        · rw [upd_same]; rfl
        · rw [upd_same]; rfl
        · exact d3
        · exact stk_mono r2' (fun i x hi q => ⟨by rw [upd_ne (by omega)]; exact q.1, by rw [upd_ne (by omega)]; exact q.2.1, q.2.2⟩)
      have h6' : ∀ x ∈ mkN M y.2 a :: D1, eV x ≤ 6 := by
        intro x hx
        rcases List.mem_cons.1 hx with rfl | hx
        · exact Nat.le_refl 6
        · exact h6 x (List.mem_cons_of_mem _ hx)
      rw [red_not hlt h33]
      obtain ⟨s1, s2, s3, s4, s5, s6, q1, q2⟩ := ih (mkN M y.2 a :: D1) (M + 1) (up T M (33, eJ a, 0, eX (mkN M y.2 a), eU (mkN M y.2 a))) n (upd steps M (nI 33)) (upd levels D1.length 6) (upd firsts D1.length (nI y.2)) lasts o' c' (by omega) l5 he (by omega) (by rw [List.length_cons]; omega) h6' hR'
      refine ⟨s1, s2, s3, s4, s5, s6, ?_, q2⟩
      have eoc : nI (oc (y :: W)) - (1 : Int32) = nI (oc W) := by
        show nI ((if y.1 = 33 ∨ y.1 = 40 then 1 else 0) + oc W) - (1 : Int32) = _
        rw [if_pos (Or.inl h33), Nat.add_comm, nI_pred]
      rw [h33, if_pos (c := nI 33 = 33) rfl, if_pos (ix_t (by omega) (by decide)), rp (by omega)]
      unfold f_X1_turnOperand
      rw [List.length_cons, nI_pred, t1, Option.bind_some]
      dsimp only
      have hw2 : f_X11_within (nI D1.length) 160 = some true := by
        have := w_nI (a := D1.length) (b := 160) (by omega) (by omega)
        rw [decide_eq_true (by omega)] at this
        exact this
      rw [hw2, Option.bind_some, if_neg (c := b2i true = 0) (by decide), if_pos (ix_t (by omega) (by decide)), if_pos (ix_t (by omega) (by decide)), Option.bind_some, nI_clamp (by omega), eoc, tp_dec]
      exact q1
    · have hl := isB_lev hbin
      obtain ⟨a, b, D2, rfl, l1, l2, l3, l4, l5, l6, -, -, l7⟩ := lay_bin M hbin hB
      rw [List.length_cons, List.length_cons] at hD
      obtain ⟨⟨d1, d2, d3⟩, ⟨f1, f2, f3⟩, r2'⟩ := r2
      rw [List.length_cons] at d1 d2 d3
      have ha6 : eV a ≤ 6 := h6 a (List.mem_cons_self ..)
      have hb6 : eV b ≤ 6 := h6 b (List.mem_cons_of_mem _ (List.mem_cons_self ..))
      obtain ⟨o1, c1, o2, c2, t1, t2, t3⟩ := txt_bin nmb (M := M) (i := D2.length) (by omega) d1 d2 d3 (by omega) f1 f2 f3 (by omega) rfl hbin l1 l2 l3 he l4 l5 l6 r3
      have hst : STP N (mkB M y.1 b a :: D2) (M + 1) (upd steps M (nI y.1)) := stp_add N (by omega) r4 (fun w => by
        show stepf N w y.1 (eU a w :: eU b w :: D2.map (fun x => eU x w)) = _
        rw [stepf_bin N w hbin]; rfl)
      have hR' : RC N nmb W (mkB M y.1 b a :: D2) (M + 1) e symbols o2 c2 (upd steps M (nI y.1)) operators (upd levels D2.length (nI (clev y.1))) firsts (upd lasts D2.length (lasts (D2.length + 1))) places := by
        refine ⟨r1', ⟨⟨?_, ?_, ?_⟩, ?_⟩, t3, hst⟩
        · rw [upd_same]; rfl
        · exact f2
        · rw [upd_same]; exact d3
        · exact stk_mono r2' (fun i x hi q => ⟨by rw [upd_ne (by omega)]; exact q.1, q.2.1, by rw [upd_ne (by omega)]; exact q.2.2⟩)
      have h6' : ∀ x ∈ mkB M y.1 b a :: D2, eV x ≤ 6 := by
        intro x hx
        rcases List.mem_cons.1 hx with rfl | hx
        · exact hcl
        · exact h6 x (List.mem_cons_of_mem _ (List.mem_cons_of_mem _ hx))
      rw [red_bin hlt hl.2.2.2.1]
      obtain ⟨s1, s2, s3, s4, s5, s6, q1, q2⟩ := ih (mkB M y.1 b a :: D2) (M + 1) (up T M (y.1, eJ b, eJ a, eX (mkB M y.1 b a), eU (mkB M y.1 b a))) n (upd steps M (nI y.1)) (upd levels D2.length (nI (clev y.1))) firsts (upd lasts D2.length (lasts (D2.length + 1))) o2 c2 (by omega) l7 he (by omega) (by rw [List.length_cons]; omega) h6' hR'
      refine ⟨s1, s2, s3, s4, s5, s6, ?_, q2⟩
      have eoc : oc (y :: W) = oc W := by
        show (if y.1 = 33 ∨ y.1 = 40 then 1 else 0) + oc W = _
        rw [if_neg (by omega), Nat.zero_add]
      have ne33 : ¬ nI y.1 = (33 : Int32) := fun q => hl.2.2.2.1 ((nI_eq (a := y.1) (b := 33) (by omega) (by omega)).1 q)
      rw [if_neg ne33, eoc]
      unfold f_X1_joinOperands jn
      rw [lev_x hy3, Option.bind_some]
      dsimp only
      have jl : ∀ (j : Int32 → Option (Int32 × (Nat → Int32) × (Nat → Int32) × (Nat → Int32) × (Nat → Int32))), (if nI y.1 = 62 then j (nI (clev y.1) + (1 : Int32)) else j (nI (clev y.1))) = j (nI (reqL y.1)) := by
        intro j
        generalize y.1 = s at hbin
        rcases hbin with rfl | rfl | rfl | rfl | rfl <;> rfl
      have jr : ∀ (j : Int32 → Option (Int32 × (Nat → Int32) × (Nat → Int32) × (Nat → Int32) × (Nat → Int32))), (if nI y.1 = 62 then j (nI (clev y.1)) else j (nI (clev y.1) + (1 : Int32))) = j (nI (reqR y.1)) := by
        intro j
        generalize y.1 = s at hbin
        rcases hbin with rfl | rfl | rfl | rfl | rfl <;> rfl
      rw [jl (fun s2_33 => (f_X1_wrapBelow levels firsts lasts opens closes ((nI (a :: b :: D2).length - (1 : Int32)) - (1 : Int32)) s2_33).bind _)]
      rw [List.length_cons, List.length_cons, nI_pred, nI_pred, t1, Option.bind_some]
      dsimp only
      rw [jr (fun s2_51 => (f_X1_wrapBelow levels firsts lasts o1 c1 (nI (D2.length + 1)) s2_51).bind _)]
      rw [t2, Option.bind_some]
      dsimp only
      have hw2 : f_X11_within (nI D2.length) 160 = some true := by
        have := w_nI (a := D2.length) (b := 160) (by omega) (by omega)
        rw [decide_eq_true (by omega)] at this
        exact this
      have hw3 : f_X11_within (nI (D2.length + 1)) 160 = some true := by
        have := w_nI (a := D2.length + 1) (b := 160) (by omega) (by omega)
        rw [decide_eq_true (by omega)] at this
        exact this
      rw [hw2, Option.bind_some, if_neg (c := b2i true = 0) (by decide), hw3, Option.bind_some, if_neg (c := b2i true = 0) (by decide), if_pos (ix_t (by omega) (by decide)), if_pos (ix_t (by omega) (by decide)), if_pos (ix_t (by omega) (by decide)), Option.bind_some, nI_clamp (by omega), nI_clamp (by omega), tp_dec]
      exact q1
end APP
