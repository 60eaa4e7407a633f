/-! the blocks: both in step -/
theorem psum_congr {f g : Nat → Nat} : ∀ {n : Nat}, (∀ i, i < n → f i = g i) → psum f n = psum g n
  | 0, _ => rfl
  | n + 1, h => by
    show psum f n + f n = psum g n + g n
    rw [psum_congr (fun i hi => h i (by omega)), h n (by omega)]
theorem psum_up {f : Nat → Nat} {i : Nat} : ∀ {n : Nat}, i < n → psum (up f i (f i + 1)) n = psum f n + 1
  | 0, h => absurd h (by omega)
  | n + 1, h => by
    show psum (up f i (f i + 1)) n + up f i (f i + 1) n = psum f n + f n + 1
    by_cases q : i = n
    · subst q
      rw [up_same, psum_congr (g := f) (fun j hj => up_ne (by omega))]
      omega
    · rw [up_ne (by omega), psum_up (by omega)]
      omega
def nmbOf (N : Nat) (mk : Nat → Int32) (k : Nat) : List Nat := if N ≤ k then [255] else if (mk k).toNatClampNeg < 256 then [(mk k).toNatClampNeg] else [(mk k).toNatClampNeg % 256, 47 + (mk k).toNatClampNeg / 256]
theorem nmb_len (N : Nat) (mk : Nat → Int32) (k : Nat) : (nmbOf N mk k).length ≤ 2 := by
  unfold nmbOf
  split
  · exact Nat.le_succ 1
  split
  · exact Nat.le_succ 1
  · exact Nat.le_refl 2
def HB (wn N B : Nat) (sz nb : Nat → Nat) (own : Nat → Bool) (ok : Bool) (xo xs xk xb mk mnb mm ma : Nat → Int32) : Prop :=
  wn ≤ 6 ∧ B ≤ wn ∧ N ≤ 10 ∧ (∀ b, b < B → xs b = nI (sz b) ∧ mm b = nI (sz b) ∧ xo b = b2i (own b) ∧ ma b = b2i (own b) ∧ (b + 1 < B ∨ ok = true → 1 ≤ sz b)) ∧ (∀ k, k < N → xk k = mk k ∧ xb k = nI (nb k) ∧ mnb k = nI (nb k) ∧ nb k < B ∧ codeOK (mk k)) ∧ psum sz B = N
theorem hb_blk {wn N B : Nat} {sz nb : Nat → Nat} {own : Nat → Bool} {xo xs xk xb mk mnb mm ma : Nat → Int32} (h : HB wn N B sz nb own true xo xs xk xb mk mnb mm ma) : IBlk N B sz nb own (nI B) (nI N) xo xs xk xb (nI N) (nI B) mk mnb mm ma := by
  obtain ⟨h1, h2, h3, h4, h5, h6⟩ := h
  exact ⟨by omega, h3, rfl, rfl, rfl, rfl, fun b hb => ⟨(h4 b hb).1, (h4 b hb).2.1, (h4 b hb).2.2.1, (h4 b hb).2.2.2.1, (h4 b hb).2.2.2.2 (Or.inr rfl)⟩, h5, h6⟩
section HB
variable {wn N B : Nat} {sz nb : Nat → Nat} {own : Nat → Bool} {xo xs xk xb mk mnb mm ma : Nat → Int32}
theorem hb_name {ok : Bool} {c : Int32} (h : HB wn N B sz nb own ok xo xs xk xb mk mnb mm ma) (hc : codeOK c) (hB : 1 ≤ B) (hN : N < 10) : HB wn (N + 1) B (up sz (B - 1) (sz (B - 1) + 1)) (up nb N (B - 1)) own true xo (upd xs (B - 1) (nI (sz (B - 1) + 1))) (upd xk N c) (upd xb N (nI (B - 1))) (upd mk N c) (upd mnb N (nI (B - 1))) (upd mm (B - 1) (nI (sz (B - 1) + 1))) ma := by
  obtain ⟨h1, h2, h3, h4, h5, h6⟩ := h
  refine ⟨h1, h2, by omega, fun b hb => ?_, fun k hk => ?_, by rw [psum_up (by omega), h6]⟩
  · by_cases q : b = B - 1
    · subst q
      rw [upd_same, upd_same, up_same]
      exact ⟨rfl, rfl, (h4 _ hb).2.2.1, (h4 _ hb).2.2.2.1, fun _ => by omega⟩
    · rw [upd_ne q, upd_ne q, up_ne q]
      exact ⟨(h4 _ hb).1, (h4 _ hb).2.1, (h4 _ hb).2.2.1, (h4 _ hb).2.2.2.1, fun _ => (h4 _ hb).2.2.2.2 (Or.inl (by omega))⟩
  · by_cases q : k = N
    · subst q
      rw [upd_same, upd_same, upd_same, upd_same, up_same]
      exact ⟨rfl, rfl, rfl, by omega, hc⟩
    · rw [upd_ne q, upd_ne q, upd_ne q, upd_ne q, up_ne q]
      exact h5 k (by omega)
theorem hb_same (h : HB wn N B sz nb own true xo xs xk xb mk mnb mm ma) (hw : wn < 6) : HB (wn + 1) N B sz nb own true xo xs xk xb mk mnb mm ma := by
  obtain ⟨h1, h2, h3, h4, h5, h6⟩ := h
  exact ⟨by omega, by omega, h3, h4, h5, h6⟩
theorem hb_new {q : Bool} (h : HB wn N B sz nb own true xo xs xk xb mk mnb mm ma) (hw : wn < 6) : HB (wn + 1) N (B + 1) (up sz B 0) nb (up own B q) false (upd xo B (b2i q)) (upd xs B 0) xk xb mk mnb (upd mm B 0) (upd ma B (b2i q)) := by
  obtain ⟨h1, h2, h3, h4, h5, h6⟩ := h
  refine ⟨by omega, by omega, h3, fun b hb => ?_, fun k hk => ?_, ?_⟩
  · by_cases e : b = B
    · subst e
      rw [upd_same, upd_same, upd_same, upd_same, up_same, up_same]
      exact ⟨rfl, rfl, rfl, rfl, fun z => by rcases z with z | z; · omega
                                             · exact absurd z (by decide)⟩
    · rw [upd_ne e, upd_ne e, upd_ne e, upd_ne e, up_ne e, up_ne e]
      exact ⟨(h4 _ (by omega)).1, (h4 _ (by omega)).2.1, (h4 _ (by omega)).2.2.1, (h4 _ (by omega)).2.2.2.1, fun _ => (h4 _ (by omega)).2.2.2.2 (Or.inr rfl)⟩
  · have := h5 k hk
    exact ⟨this.1, this.2.1, this.2.2.1, by omega, this.2.2.2.2⟩
  · show psum (up sz B 0) B + up sz B 0 B = N
    rw [up_same, psum_congr (g := sz) (fun j hj => up_ne (by omega))]
    exact h6
theorem b2i_inj {a b : Bool} (h : b2i a = b2i b) : a = b := by revert h; cases a <;> cases b <;> decide
theorem addW_ok {q : Bool} (h : HB wn N B sz nb own true xo xs xk xb mk mnb mm ma) (hw : wn < 6) : f_X0_addWord (nI wn) (nI B) xo xs (b2i q) = if 0 < B ∧ own (B - 1) = q then some (0, nI (wn + 1), nI B, xo, xs) else some (0, nI (wn + 1), nI (B + 1), upd xo B (b2i q), upd xs B 0) := by
  have hB : B ≤ wn := h.2.1
  have hnew : ((f_X11_within (nI B) 6).bind fun r_5 => if b2i r_5 = 0 then some ((0 : Int32), nI wn + (1 : Int32), nI B, xo, xs) else (if ix (nI B) 6 then if ix (nI B) 6 then some (0, nI wn + (1 : Int32), nI B + (1 : Int32), upd xo (nI B).toNatClampNeg (b2i q), upd xs (nI B).toNatClampNeg 0) else none else none)) = some (0, nI (wn + 1), nI (B + 1), upd xo B (b2i q), upd xs B 0) := by
    have hw6 : f_X11_within (nI B) 6 = some true := by
      have := w_nI (a := B) (b := 6) (by omega) (by omega)
      rw [decide_eq_true (by omega)] at this
      exact this
    rw [hw6, Option.bind_some, if_neg (c := b2i true = 0) (by decide), if_pos (ix_t (by omega) (by decide)), if_pos (ix_t (by omega) (by decide)), nI_clamp (by omega), nI_1, nI_1]
  unfold f_X0_addWord
  rw [if_pos (show nI wn < (6 : Int32) from nI_lt (b := 6) hw (by decide))]
  by_cases h0 : 0 < B
  · obtain ⟨B', rfl⟩ : ∃ x, B = x + 1 := ⟨B - 1, by omega⟩
    rw [nI_pred, owner_ok (by omega) B' (by omega), Option.bind_some, if_pos (show B' < B' + 1 by omega), (h.2.2.2.1 B' (by omega)).2.2.1, show B' + 1 - 1 = B' by omega]
    by_cases hq : own B' = q
    · rw [if_pos (show b2i (own B') = b2i q by rw [hq]), if_pos ⟨h0, hq⟩, nI_1]
    · rw [if_neg (show ¬ b2i (own B') = b2i q from fun z => hq (b2i_inj z)), if_neg (show ¬ (0 < B' + 1 ∧ own B' = q) from fun z => hq z.2)]
      exact hnew
  · obtain rfl : B = 0 := by omega
    have ho : f_X0_ownerOf (nI 0) xo (nI 0 - (1 : Int32)) = some (-1) := rfl
    rw [ho, Option.bind_some, if_neg (show ¬ (-1 : Int32) = b2i q by cases q <;> decide), if_neg (show ¬ (0 < 0 ∧ own (0 - 1) = q) from fun z => h0 z.1)]
    exact hnew
theorem addW_no {xo xs : Nat → Int32} {a cnt : Int32} : f_X0_addWord (nI 6) cnt xo xs a = some (4, nI 6, cnt, xo, xs) := by
  unfold f_X0_addWord
  rw [if_neg (c := nI 6 < 6) (by decide)]
theorem name_ok {ok : Bool} {c : Int32} (h : HB wn N B sz nb own ok xo xs xk xb mk mnb mm ma) (hB : 1 ≤ B) : ∃ r, f_X12_find (nI N) mk c = some r ∧ ((r ≠ -1 ∧ f_X0_addName (nI B) (nI N) xk xb xs c = some (3, nI N, xk, xb, xs)) ∨ (r = -1 ∧ N = 10 ∧ f_X0_addName (nI B) (nI N) xk xb xs c = some (4, nI N, xk, xb, xs)) ∨ (r = -1 ∧ N < 10 ∧ f_X0_addName (nI B) (nI N) xk xb xs c = some (0, nI (N + 1), upd xk N c, upd xb N (nI (B - 1)), upd xs (B - 1) (nI (sz (B - 1) + 1))))) := by
  obtain ⟨h1, h2, h3, h4, h5, h6⟩ := h
  obtain ⟨r, f1, f2, f3⟩ := find_ok h3 (fun k hk => (h5 k hk).1) c
  refine ⟨r, f2, ?_⟩
  unfold f_X0_addName
  rw [f1, Option.bind_some]
  by_cases hr : r = -1
  · rw [if_pos hr]
    refine Or.inr ?_
    by_cases hN : N = 10
    · refine Or.inl ⟨hr, hN, ?_⟩
      rw [hN, show f_X11_within (nI 10) 10 = some false from rfl, Option.bind_some, if_pos (c := b2i false = 0) (by decide)]
    · refine Or.inr ⟨hr, by omega, ?_⟩
      have w1 : f_X11_within (nI N) 10 = some true := by
        have := w_nI (a := N) (b := 10) (by omega) (by omega)
        rw [decide_eq_true (by omega)] at this
        exact this
      obtain ⟨B', rfl⟩ : ∃ x, B = x + 1 := ⟨B - 1, by omega⟩
      have w2 : f_X11_within (nI B') 6 = some true := by
        have := w_nI (a := B') (b := 6) (by omega) (by omega)
        rw [decide_eq_true (by omega)] at this
        exact this
      rw [w1, Option.bind_some, if_neg (c := b2i true = 0) (by decide), nI_pred, w2, Option.bind_some, if_neg (c := b2i true = 0) (by decide), if_pos (ix_t (by omega) (by decide)), if_pos (ix_t (by omega) (by decide)), if_pos (ix_t (by omega) (by decide)), if_pos (ix_t (by omega) (by decide)), nI_clamp (by omega), nI_clamp (by omega), (h4 B' (by omega)).1, nI_1, nI_1, show B' + 1 - 1 = B' by omega]
  · rw [if_neg hr]
    exact Or.inl ⟨hr, rfl⟩
end HB
/-! the system's steps in the blocks -/
theorem tib_word {s k : Int32} (hs : s = 0 ∨ s = 1) {q : Bool} (hk : (k = 512 ∧ q = false) ∨ (k = 513 ∧ q = true)) {cd wds cnt nm : Int32} {ncs nbs szs ows : Nat → Int32} {f wds' cnt' : Int32} {ows' szs' : Nat → Int32} (h : f_X0_addWord wds cnt ows szs (b2i q) = some (f, wds', cnt', ows', szs')) : f_X6_takeInBlocks s k cd wds cnt nm ncs nbs szs ows = some (f, 2, wds', cnt', nm, ncs, nbs, szs', ows') := by
  unfold f_X6_takeInBlocks jn
  dsimp only
  rcases hk with ⟨rfl, rfl⟩ | ⟨rfl, rfl⟩
  · rw [if_pos (c := (512 : Int32) = 512) rfl, if_pos (c := (512 : Int32) = 512) rfl, show f_X0_addWord wds cnt ows szs 0 = _ from h, Option.bind_some]
    rcases hs with rfl | rfl
    · rw [if_pos (c := (0 : Int32) = 0) rfl]
    · rw [if_neg (c := (1 : Int32) = 0) (by decide), if_pos (c := (1 : Int32) = 1) rfl]
  · rw [if_neg (c := (513 : Int32) = 512) (by decide), if_pos (c := (513 : Int32) = 513) rfl, if_neg (c := (513 : Int32) = 512) (by decide), show f_X0_addWord wds cnt ows szs 1 = _ from h, Option.bind_some]
    rcases hs with rfl | rfl
    · rw [if_pos (c := (0 : Int32) = 0) rfl]
    · rw [if_neg (c := (1 : Int32) = 0) (by decide), if_pos (c := (1 : Int32) = 1) rfl]
theorem tib_name {s : Int32} (hs : s = 2 ∨ s = 3) {cd wds cnt nm : Int32} {ncs nbs szs ows : Nat → Int32} {f nm' : Int32} {ncs' nbs' szs' : Nat → Int32} (h : f_X0_addName cnt nm ncs nbs szs cd = some (f, nm', ncs', nbs', szs')) : f_X6_takeInBlocks s 256 cd wds cnt nm ncs nbs szs ows = some (f, 3, wds, cnt, nm', ncs', nbs', szs', ows) := by
  unfold f_X6_takeInBlocks jn
  dsimp only
  rw [if_neg (c := (256 : Int32) = 512) (by decide), if_neg (c := (256 : Int32) = 513) (by decide), if_pos (c := (256 : Int32) = 256) rfl, h, Option.bind_some]
  rcases hs with rfl | rfl
  · rw [if_pos (c := (2 : Int32) = 2) rfl]
  · rw [if_neg (c := (3 : Int32) = 2) (by decide), if_pos (c := (3 : Int32) = 3) rfl]
theorem tib_semi {cd wds cnt nm : Int32} {ncs nbs szs ows : Nat → Int32} : f_X6_takeInBlocks 3 59 cd wds cnt nm ncs nbs szs ows = some (0, 1, wds, cnt, nm, ncs, nbs, szs, ows) := by
  unfold f_X6_takeInBlocks jn
  dsimp only
  rw [if_neg (c := (59 : Int32) = 512) (by decide), if_neg (c := (59 : Int32) = 513) (by decide), if_neg (c := (59 : Int32) = 256) (by decide), if_pos (c := (59 : Int32) = 59) rfl, if_pos (c := (3 : Int32) = 3) rfl]
theorem tib_colon {s : Int32} (hs : s = 0 ∨ s = 3) {cd wds cnt nm : Int32} {ncs nbs szs ows : Nat → Int32} : f_X6_takeInBlocks s 58 cd wds cnt nm ncs nbs szs ows = some (0, 4, wds, cnt, nm, ncs, nbs, szs, ows) := by
  unfold f_X6_takeInBlocks jn
  dsimp only
  rw [if_neg (c := (58 : Int32) = 512) (by decide), if_neg (c := (58 : Int32) = 513) (by decide), if_neg (c := (58 : Int32) = 256) (by decide), if_neg (c := (58 : Int32) = 59) (by decide), if_pos (c := (58 : Int32) = 58) rfl]
  rcases hs with rfl | rfl
  · rw [if_pos (c := (0 : Int32) = 0) rfl]
  · rw [if_neg (c := (3 : Int32) = 0) (by decide), if_pos (c := (3 : Int32) = 3) rfl]
theorem tib_else {s k : Int32} (h : (s = 0 ∧ k ≠ 512 ∧ k ≠ 513 ∧ k ≠ 58) ∨ (s = 1 ∧ k ≠ 512 ∧ k ≠ 513) ∨ (s = 2 ∧ k ≠ 256) ∨ (s = 3 ∧ k ≠ 256 ∧ k ≠ 59 ∧ k ≠ 58)) {cd wds cnt nm : Int32} {ncs nbs szs ows : Nat → Int32} : f_X6_takeInBlocks s k cd wds cnt nm ncs nbs szs ows = some (1, s, wds, cnt, nm, ncs, nbs, szs, ows) := by
  unfold f_X6_takeInBlocks jn
  dsimp only
  rcases h with ⟨rfl, h⟩ | ⟨rfl, h⟩ | ⟨rfl, h⟩ | ⟨rfl, h⟩
  · rw [if_neg h.1, if_neg h.2.1, if_neg (c := (0 : Int32) = 2) (by decide), if_neg (c := (0 : Int32) = 3) (by decide), if_neg (c := (0 : Int32) = 3) (by decide), if_neg h.2.2, ite_self, ite_self]
  · rw [if_neg h.1, if_neg h.2, if_neg (c := (1 : Int32) = 2) (by decide), if_neg (c := (1 : Int32) = 3) (by decide), if_neg (c := (1 : Int32) = 3) (by decide), if_neg (c := (1 : Int32) = 0) (by decide), if_neg (c := (1 : Int32) = 3) (by decide), ite_self, ite_self, ite_self]
  · rw [if_neg (c := (2 : Int32) = 0) (by decide), if_neg (c := (2 : Int32) = 1) (by decide), if_neg h, if_neg (c := (2 : Int32) = 3) (by decide), if_neg (c := (2 : Int32) = 0) (by decide), if_neg (c := (2 : Int32) = 3) (by decide), ite_self, ite_self, ite_self, ite_self]
  · rw [if_neg (c := (3 : Int32) = 0) (by decide), if_neg (c := (3 : Int32) = 1) (by decide), if_neg h.1, if_neg h.2.1, if_neg h.2.2, ite_self, ite_self]

