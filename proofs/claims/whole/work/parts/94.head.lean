abbrev HT : Type := Bool × Int32 × Int32 × Int32 × Int32 × Int32 × Int32 × Int32 × Int32 × Int32 × (Nat → Int32) × (Nat → Int32) × (Nat → Int32) × (Nat → Int32)
def KH (sz : Int32) (tx : Nat → Int32) : Int32 → Int32 → Int32 → Int32 → Int32 → Int32 → Int32 → Int32 → Int32 → Int32 → Int32 → (Nat → Int32) → (Nat → Int32) → (Nat → Int32) → (Nat → Int32) → Option HT := fun _ _ tok bg en tks cd fk fp nm bl ba nc nb bm =>
  if tok = 58 then
  ((f_X12_takes sz tok bg en tks cd fk fp tx).bind fun (r, tok', bg', en', tks', cd', fk', fp') =>
  some (r, tok', bg', en', tks', cd', fk', fp', nm, bl, ba, nc, nb, bm))
  else
  ((f_X12_refuses bg fk fp 1).bind fun (r, fk', fp') =>
  some (r, tok, bg, en, tks, cd, fk', fp', nm, bl, ba, nc, nb, bm))
def KN (sz : Int32) (tx : Nat → Int32) (n : Nat) (x1 bl : Int32) (ba : Nat → Int32) : Int32 → Int32 → Int32 → Int32 → Int32 → Int32 → Int32 → Int32 → (Nat → Int32) → (Nat → Int32) → (Nat → Int32) → Option HT := fun tok bg en tks cd fk fp nm nc nb bm =>
  if tok = 59 then
  (if (1 : Int32) = 0 then lp_X12_header_27 sz tx n x1 1 tok bg en tks cd fk fp nm bl ba nc nb bm (KH sz tx)
  else ((f_X12_takes sz tok bg en tks cd fk fp tx).bind fun (r, tok', bg', en', tks', cd', fk', fp') =>
    if b2i r = 0 then some (false, tok', bg', en', tks', cd', fk', fp', nm, bl, ba, nc, nb, bm)
    else lp_X12_header_27 sz tx n x1 1 tok' bg' en' tks' cd' fk' fp' nm bl ba nc nb bm (KH sz tx)))
  else
  (if (0 : Int32) = 0 then lp_X12_header_27 sz tx n x1 0 tok bg en tks cd fk fp nm bl ba nc nb bm (KH sz tx)
  else ((f_X12_takes sz tok bg en tks cd fk fp tx).bind fun (r, tok', bg', en', tks', cd', fk', fp') =>
    if b2i r = 0 then some (false, tok', bg', en', tks', cd', fk', fp', nm, bl, ba, nc, nb, bm)
    else lp_X12_header_27 sz tx n x1 0 tok' bg' en' tks' cd' fk' fp' nm bl ba nc nb bm (KH sz tx)))
section HDR
variable (n : Nat) (tb tx : Nat → Int32) (y1 : Int32) (nm0 tp w0 d0 o0 : Int32) (wait done kind left right : Nat → Int32)
def HPost (R : CT) (H : HT) : Prop :=
  (∃ f b : Nat, 1 ≤ f ∧ f ≤ 4 ∧ R.1 = nI f ∧ R.2.2.2.2.1 = nI b ∧ H.1 = false ∧ H.2.2.2.2.2.2.1 = nI f ∧ H.2.2.2.2.2.2.2.1 = nI b) ∨
  (H.1 = true ∧ ∃ (N B : Nat) (sz nb : Nat → Nat) (own : Nat → Bool) (ncs nbs szs ows : Nat → Int32) (wds cnt : Int32) (R' : MT), IBlk N B sz nb own cnt (nI N) ows szs ncs nbs (H.2.2.2.2.2.2.2.2.1) (H.2.2.2.2.2.2.2.2.2.1) (H.2.2.2.2.2.2.2.2.2.2.2.1) (H.2.2.2.2.2.2.2.2.2.2.2.2.1) (H.2.2.2.2.2.2.2.2.2.2.2.2.2) (H.2.2.2.2.2.2.2.2.2.2.1) ∧ f_X12_formula (nI n) (H.2.1) (H.2.2.1) (H.2.2.2.1) (H.2.2.2.2.1) (H.2.2.2.2.2.1) (H.2.2.2.2.2.2.1) (H.2.2.2.2.2.2.2.1) (H.2.2.2.2.2.2.2.2.1) nm0 tp w0 d0 o0 wait done kind left right tx (H.2.2.2.2.2.2.2.2.2.2.2.1) = some R' ∧ FPost N (nmbOf N (H.2.2.2.2.2.2.2.2.2.2.2.1)) ncs nbs szs ows wds cnt 0 (-1) R R')
def HQ1 (d : Nat) : Prop := ∀ (r wn N B : Nat) (sz nb : Nat → Nat) (own : Nat → Bool) (s : Int32) (t b p nC nM : Nat) (nx st kk cd c1 c2 : Int32) (xo xs xk xb mk mnb mm ma ops steps levels firsts lasts op cl places sym : Nat → Int32),
  r + d = 160 → (s = 0 ∧ t ≠ 58 ∨ s = 1) → HB wn N B sz nb own true xo xs xk xb mk mnb mm ma → t ∈ toks → b ≤ n → p ≤ n → f_X7_advance (nI n) nx st kk cd tb = some (nI p, nI b, nI (kd t), c1) → d + 2 ≤ nC → d + 3 ≤ nM →
  ∃ R H, lp_X6_readText_49 y1 (nI n) tb nC (nI r) s nx st kk cd (nI wn) (nI B) (nI N) (nI 0) (nI 0) (nI 0) (nI 0) (nI 0) (nI 0) xk xb xs xo ops steps levels firsts lasts op cl places sym (KX (nI n)) = some R ∧ lp_X12_header_27 (nI n) tx nM (nI wn) 1 (nI t) (nI b) (nI p) (nI (r + 1)) c2 0 (-1) (nI N) (nI B) ma mk mnb mm (KH (nI n) tx) = some H ∧ HPost n tx nm0 tp w0 d0 o0 wait done kind left right R H
def HQ3 (d : Nat) : Prop := ∀ (r wn N B : Nat) (sz nb : Nat → Nat) (own : Nat → Bool) (ok : Bool) (s : Int32) (t b p nC nM nN : Nat) (nx st kk cd c1 c2 y2 y3 : Int32) (xo xs xk xb mk mnb mm ma ops steps levels firsts lasts op cl places sym : Nat → Int32),
  r + d = 160 → (s = 2 ∧ t = 110 ∨ s = 3 ∧ ok = true) → 1 ≤ B → HB wn N B sz nb own ok xo xs xk xb mk mnb mm ma → t ∈ toks → b ≤ n → p ≤ n → f_X7_advance (nI n) nx st kk cd tb = some (nI p, nI b, nI (kd t), c1) → (t = 110 → c1 = c2 ∧ codeOK c1) → d + 2 ≤ nC → d + 3 ≤ nM → d + 2 ≤ nN →
  ∃ R H, lp_X6_readText_49 y1 (nI n) tb nC (nI r) s nx st kk cd (nI wn) (nI B) (nI N) (nI 0) (nI 0) (nI 0) (nI 0) (nI 0) (nI 0) xk xb xs xo ops steps levels firsts lasts op cl places sym (KX (nI n)) = some R ∧ lp_X12_header_162 (nI wn) y2 y3 (nI n) (nI B) ma tx nN (nI t) (nI b) (nI p) (nI (r + 1)) c2 0 (-1) (nI N) mk mnb mm (KN (nI n) tx nM (nI wn) (nI B) ma) = some H ∧ HPost n tx nm0 tp w0 d0 o0 wait done kind left right R H
variable {n tb tx y1 nm0 tp w0 d0 o0 wait done kind left right}
theorem lp_H {nC r : Nat} (hr : r ≤ 160) {s nx st kk cd nx' st' kk' cd' : Int32} (hs : s ≠ 4 ∧ s ≠ 5) {wds cnt nm ln sc wt od os pp : Int32} {ncs nbs szs ows ops steps levels firsts lasts op cl places sym : Nat → Int32} (ha : f_X7_advance (nI n) nx st kk cd tb = some (nx', st', kk', cd')) {f s' wds' cnt' nm' : Int32} {ncs' nbs' szs' ows' : Nat → Int32}
    (ht : f_X6_takeInBlocks s kk' cd' wds cnt nm ncs nbs szs ows = some (f, s', wds', cnt', nm', ncs', nbs', szs', ows')) :
    lp_X6_readText_49 y1 (nI n) tb (nC + 1) (nI r) s nx st kk cd wds cnt nm ln sc wt od os pp ncs nbs szs ows ops steps levels firsts lasts op cl places sym (KX (nI n)) = if f = 0 then (if kk' = 514 then some (f, s', nI n, nx', st', kk', cd', wds', cnt', nm', ln, sc, wt, od, os, pp, ncs', nbs', szs', ows', ops, steps, levels, firsts, lasts, op, cl, places, sym) else lp_X6_readText_49 y1 (nI n) tb nC (nI (r + 1)) s' nx' st' kk' cd' wds' cnt' nm' ln sc wt od os pp ncs' nbs' szs' ows' ops steps levels firsts lasts op cl places sym (KX (nI n))) else some (f, s', nI n, nx', st', kk', cd', wds', cnt', nm', ln, sc, wt, od, os, pp, ncs', nbs', szs', ows', ops, steps, levels, firsts, lasts, op, cl, places, sym) := by
  rw [lp_X6_readText_49, if_neg (show ¬ (160 : Int32) < nI r from nI_nlt (b := r) (a := 160) (by omega) (by omega)), ha, Option.bind_some]
  unfold jn
  dsimp only
  rw [if_neg hs.1, if_neg hs.2, ht, Option.bind_some, nI_1]
/-- the class has read all the tokens it may -/
theorem lp_full {nC : Nat} {s nx st kk cd wds cnt nm ln sc wt od os pp : Int32} {ncs nbs szs ows ops steps levels firsts lasts op cl places sym : Nat → Int32} : lp_X6_readText_49 y1 (nI n) tb (nC + 1) (nI (160 + 1)) s nx st kk cd wds cnt nm ln sc wt od os pp ncs nbs szs ows ops steps levels firsts lasts op cl places sym (KX (nI n)) = some (4, s, nI n, nx, st, kk, cd, wds, cnt, nm, ln, sc, wt, od, os, pp, ncs, nbs, szs, ows, ops, steps, levels, firsts, lasts, op, cl, places, sym) := by
  rw [lp_X6_readText_49, if_pos (c := (160 : Int32) < nI (160 + 1)) (by decide)]
  rfl
theorem hcolon (hn : n ≤ 600) (htx : ∀ k, k < n → tb k = tx k &&& 255) {d r wn N B : Nat} {sz nb : Nat → Nat} {own : Nat → Bool} {s : Int32} {b p nC : Nat} {nx st kk cd c1 c2 x1 x2 : Int32} {xo xs xk xb mk mnb mm ma ops steps levels firsts lasts op cl places sym : Nat → Int32}
    (hrd : r + d = 160) (hs : s = 0 ∨ s = 3) (hH : HB wn N B sz nb own true xo xs xk xb mk mnb mm ma) (hb : b ≤ n) (hp : p ≤ n) (ha : f_X7_advance (nI n) nx st kk cd tb = some (nI p, nI b, nI (kd 58), c1)) (hC : d + 2 ≤ nC) :
  ∃ R H, lp_X6_readText_49 y1 (nI n) tb nC (nI r) s nx st kk cd (nI wn) (nI B) (nI N) (nI 0) (nI 0) (nI 0) (nI 0) (nI 0) (nI 0) xk xb xs xo ops steps levels firsts lasts op cl places sym (KX (nI n)) = some R ∧ KH (nI n) tx x1 x2 (nI 58) (nI b) (nI p) (nI (r + 1)) c2 0 (-1) (nI N) (nI B) ma mk mnb mm = some H ∧ HPost n tx nm0 tp w0 d0 o0 wait done kind left right R H := by
  obtain ⟨nC, rfl⟩ : ∃ x, nC = x + 1 := ⟨nC - 1, by omega⟩
  have hs2 : s ≠ 4 ∧ s ≠ 5 := by rcases hs with rfl | rfl <;> decide
  rw [lp_H (by omega) hs2 ha (tib_colon hs), if_pos (c := (0 : Int32) = 0) rfl, if_neg (c := nI (kd 58) = 514) (by decide)]
  unfold KH
  rw [if_pos (c := nI 58 = 58) rfl]
  cases d with
  | zero =>
    obtain rfl : r = 160 := by omega
    obtain ⟨nC, rfl⟩ : ∃ x, nC = x + 1 := ⟨nC - 1, by omega⟩
    rw [takes_no, Option.bind_some, lp_full]
    exact ⟨_, _, rfl, rfl, Or.inl ⟨4, b, by omega, by omega, rfl, rfl, rfl, rfl, rfl⟩⟩
  | succ d =>
    obtain ⟨t, b', p', c1', c2', h1, h2, h3, h4, h5, h6⟩ := takes_ok hn hp htx (show r + 1 ≤ 160 by omega) (nI b) (nI (kd 58)) c1 (nI 58) (nI b) c2 0 (-1)
    rw [h5, Option.bind_some]
    have hF := form_ok (y1 := y1) (wds := nI wn) (cnt := nI B) (tp := tp) (fk := 0) (fp := -1) (nbs := xb) (szs := xs) (ows := xo) hn htx hH.2.2.1 (nmb := nmbOf N mk) (fun i _ => nmb_len N mk i) (ncs := xk) (mnc := mk) (fun k hk => (hH.2.2.2.2.1 k hk).1) d (r + 1) 0 true [] [] 0 (fun _ => (0, 0, 0, [], fun _ => 0)) 0 t b' p' nC 5000 (nI p) (nI b) (nI (kd 58)) c1 c1' c2' ops steps levels firsts lasts op cl places sym wait done kind left right (by omega) (by omega) ⟨⟨rfl, rfl⟩, fun x hx => absurd hx List.not_mem_nil, fun j hj => absurd hj (by omega), Nat.le_refl _, Nat.le_refl _, Nat.le_refl _, Nat.le_refl _, Nat.zero_le _⟩ ⟨trivial, trivial, ⟨fun _ => 0, fun _ => 0, fun _ => 0, fun i hi => absurd hi (by omega), fun x hx => absurd hx List.not_mem_nil, fun x hx => absurd hx List.not_mem_nil⟩, ⟨fun _ => 0, fun m hm => absurd hm (by omega), fun w => rfl⟩⟩ ⟨trivial, trivial, fun j hj => absurd hj (by omega)⟩ h1 h2 h3 h4 h6 (by omega) (by omega)
    obtain ⟨R, R', q1, q2, q3⟩ := hF
    exact ⟨R, _, q1, rfl, Or.inr ⟨rfl, N, B, sz, nb, own, xk, xb, xs, xo, nI wn, nI B, R', hb_blk hH, q2, q3⟩⟩

theorem toks_ne {t z : Nat} (h : t ∈ toks) (hz : z < 600) (h2 : kd t ≠ z) : nI (kd t) ≠ nI z := by
  have := kd_lt h
  exact nI_neL (by omega) (by omega) h2
theorem kd3 {t : Nat} (h : t ∈ toks) : t = 110 ∨ t = 59 ∨ t = 58 ∨ (t ≠ 110 ∧ t ≠ 59 ∧ t ≠ 58 ∧ kd t ≠ 256 ∧ kd t ≠ 59 ∧ kd t ≠ 58) := by
  revert h t; decide
theorem kd1 {t : Nat} (h : t ∈ toks) : t = 115 ∨ t = 97 ∨ (t ≠ 115 ∧ t ≠ 97 ∧ kd t ≠ 512 ∧ kd t ≠ 513 ∧ (t ≠ 58 → kd t ≠ 58)) := by
  revert h t; decide
theorem kd2 {t : Nat} (h : t ∈ toks) : t = 110 ∨ (t ≠ 110 ∧ kd t ≠ 256) := by
  revert h t; decide
theorem step_3 (hn : n ≤ 600) (htx : ∀ k, k < n → tb k = tx k &&& 255) {d : Nat} (h1 : ∀ d', d = d' + 1 → HQ1 n tb tx y1 nm0 tp w0 d0 o0 wait done kind left right d') (h3 : ∀ d', d = d' + 1 → HQ3 n tb tx y1 nm0 tp w0 d0 o0 wait done kind left right d') : HQ3 n tb tx y1 nm0 tp w0 d0 o0 wait done kind left right d := by
  intro r wn N B sz nb own ok s t b p nC nM nN nx st kk cd c1 c2 y2 y3 xo xs xk xb mk mnb mm ma ops steps levels firsts lasts op cl places sym hrd hst hB hH ht hb hp ha hc hC hM hN
  have hs2 : s ≠ 4 ∧ s ≠ 5 := by rcases hst with ⟨rfl, -⟩ | ⟨rfl, -⟩ <;> decide
  obtain ⟨nN, rfl⟩ : ∃ x, nN = x + 1 := ⟨nN - 1, by omega⟩
  obtain ⟨nM, rfl⟩ : ∃ x, nM = x + 1 := ⟨nM - 1, by omega⟩
  rw [lp_X12_header_162]
  by_cases h110 : t = 110
  · subst h110
    obtain ⟨nC, rfl⟩ : ∃ x, nC = x + 1 := ⟨nC - 1, by omega⟩
    obtain ⟨rfl, hcode⟩ := hc rfl
    have hs : s = 2 ∨ s = 3 := by rcases hst with ⟨rfl, -⟩ | ⟨rfl, -⟩; · exact Or.inl rfl
                                  · exact Or.inr rfl
    obtain ⟨rr, f1, f2⟩ := name_ok (c := c1) hH hB
    rw [if_pos (c := nI 110 = 110) rfl, f1, Option.bind_some]
    rcases f2 with ⟨e1, e2⟩ | ⟨e1, e2, e3⟩ | ⟨e1, e2, e3⟩
    · rw [lp_H (by omega) hs2 ha (tib_name hs e2), if_neg (c := (3 : Int32) = 0) (by decide), if_neg e1]
      unfold f_X12_refuses
      rw [Option.bind_some]
      exact ⟨_, _, rfl, rfl, Or.inl ⟨3, b, by omega, by omega, rfl, rfl, rfl, rfl, rfl⟩⟩
    · rw [lp_H (by omega) hs2 ha (tib_name hs e3), if_neg (c := (4 : Int32) = 0) (by decide), if_pos e1, if_pos (show nI N = 10 by rw [e2]; rfl)]
      unfold f_X12_refuses
      rw [Option.bind_some]
      exact ⟨_, _, rfl, rfl, Or.inl ⟨4, b, by omega, by omega, rfl, rfl, rfl, rfl, rfl⟩⟩
    · have hB6 : B ≤ 6 := Nat.le_trans hH.2.1 hH.1
      obtain ⟨B', rfl⟩ : ∃ x, B = x + 1 := ⟨B - 1, by omega⟩
      rw [lp_H (by omega) hs2 ha (tib_name hs e3), if_pos (c := (0 : Int32) = 0) rfl, if_neg (c := nI (kd 110) = 514) (by decide), if_pos e1, if_neg (nI_neL (k := 10) (c := 10) (by omega) (by omega) (by omega)), if_pos (ix_t (show N < 12 by omega) (by decide)), if_pos (ix_t (show N < 12 by omega) (by decide)), nI_pred, if_pos (ix_t (show B' < 6 by omega) (by decide)), if_pos (ix_t (show B' < 6 by omega) (by decide)), nI_clamp (by omega), nI_clamp (by omega), (hH.2.2.2.1 B' (by omega)).2.1, nI_1, nI_1]
      have hH' := hb_name (c := c1) hH hcode hB e2
      rw [show B' + 1 - 1 = B' by omega] at hH' ⊢
      cases d with
      | zero =>
        obtain rfl : r = 160 := by omega
        obtain ⟨nC, rfl⟩ : ∃ x, nC = x + 1 := ⟨nC - 1, by omega⟩
        rw [takes_no, Option.bind_some, lp_full]
        dsimp only
        rw [if_pos (c := b2i false = 0) (by decide)]
        exact ⟨_, _, rfl, rfl, Or.inl ⟨4, b, by omega, by omega, rfl, rfl, rfl, rfl, rfl⟩⟩
      | succ d =>
        obtain ⟨t', b', p', c1', c2', g1, g2, g3, g4, g5, g6⟩ := takes_ok hn hp htx (show r + 1 ≤ 160 by omega) (nI b) (nI (kd 110)) c1 (nI 110) (nI b) c1 0 (-1)
        rw [g5, Option.bind_some]
        dsimp only
        rw [if_neg (c := b2i true = 0) (by decide)]
        exact h3 d rfl (r + 1) wn (N + 1) (B' + 1) _ _ own true 3 t' b' p' nC (nM + 1) nN _ _ _ _ c1' c2' y2 y3 _ _ _ _ _ _ _ _ ops steps levels firsts lasts op cl places sym (by omega) (Or.inr ⟨rfl, rfl⟩) hB hH' g1 g2 g3 g4 g6 (by omega) (by omega) (by omega)
  · obtain ⟨rfl, rfl⟩ : s = 3 ∧ ok = true := by
      rcases hst with ⟨-, q⟩ | q
      · exact absurd q h110
      · exact q
    have hkl := kd_lt ht
    rw [if_neg (nI_neL (k := 110) (c := 110) (by omega) (by omega) h110)]
    unfold KN
    by_cases h59 : t = 59
    · subst h59
      obtain ⟨nC, rfl⟩ : ∃ x, nC = x + 1 := ⟨nC - 1, by omega⟩
      rw [if_pos (c := nI 59 = 59) rfl, if_neg (c := (1 : Int32) = 0) (by decide), lp_H (by omega) hs2 ha tib_semi, if_pos (c := (0 : Int32) = 0) rfl, if_neg (c := nI (kd 59) = 514) (by decide)]
      cases d with
      | zero =>
        obtain rfl : r = 160 := by omega
        obtain ⟨nC, rfl⟩ : ∃ x, nC = x + 1 := ⟨nC - 1, by omega⟩
        rw [takes_no, Option.bind_some, lp_full]
        dsimp only
        rw [if_pos (c := b2i false = 0) (by decide)]
        exact ⟨_, _, rfl, rfl, Or.inl ⟨4, b, by omega, by omega, rfl, rfl, rfl, rfl, rfl⟩⟩
      | succ d =>
        obtain ⟨t', b', p', c1', c2', g1, g2, g3, g4, g5, g6⟩ := takes_ok hn hp htx (show r + 1 ≤ 160 by omega) (nI b) (nI (kd 59)) c1 (nI 59) (nI b) c2 0 (-1)
        rw [g5, Option.bind_some]
        dsimp only
        rw [if_neg (c := b2i true = 0) (by decide)]
        exact h1 d rfl (r + 1) wn N B sz nb own 1 t' b' p' nC (nM + 1) _ _ _ _ c1' c2' _ _ _ _ _ _ _ _ ops steps levels firsts lasts op cl places sym (by omega) (Or.inr rfl) hH g1 g2 g3 g4 (by omega) (by omega)
    · rw [if_neg (nI_neL (k := 59) (c := 59) (by omega) (by omega) h59), if_pos (c := (0 : Int32) = 0) rfl, lp_X12_header_27, if_pos (c := (0 : Int32) = 0) rfl]
      by_cases h58 : t = 58
      · subst h58
        exact hcolon hn htx hrd (Or.inr rfl) hH hb hp ha hC
      · obtain ⟨nC, rfl⟩ : ∃ x, nC = x + 1 := ⟨nC - 1, by omega⟩
        have hk3 : kd t ≠ 256 ∧ kd t ≠ 59 ∧ kd t ≠ 58 := by
          rcases kd3 ht with q | q | q | q
          · exact absurd q h110
          · exact absurd q h59
          · exact absurd q h58
          · exact q.2.2.2
        unfold KH
        rw [if_neg (nI_neL (k := 58) (c := 58) (by omega) (by omega) h58), lp_H (by omega) hs2 ha (tib_else (Or.inr (Or.inr (Or.inr ⟨rfl, toks_ne ht (z := 256) (by omega) hk3.1, toks_ne ht (z := 59) (by omega) hk3.2.1, toks_ne ht (z := 58) (by omega) hk3.2.2⟩)))), if_neg (c := (1 : Int32) = 0) (by decide)]
        unfold f_X12_refuses
        rw [Option.bind_some]
        exact ⟨_, _, rfl, rfl, Or.inl ⟨1, b, by omega, by omega, rfl, rfl, rfl, rfl, rfl⟩⟩
theorem after_word (hn : n ≤ 600) (htx : ∀ k, k < n → tb k = tx k &&& 255) {d : Nat} (h3 : ∀ d', d = d' + 1 → HQ3 n tb tx y1 nm0 tp w0 d0 o0 wait done kind left right d') {r wn N B : Nat} {sz nb : Nat → Nat} {own : Nat → Bool} {ok : Bool} {b p nC nM : Nat} {kk cd c2 tok y2 y3 : Int32} {xo xs xk xb mk mnb mm ma ops steps levels firsts lasts op cl places sym : Nat → Int32}
    (hrd : r + d = 160) (hB : 1 ≤ B) (hH : HB wn N B sz nb own ok xo xs xk xb mk mnb mm ma) (hb : b ≤ n) (hp : p ≤ n) (hC : d + 1 ≤ nC) (hM : d + 2 ≤ nM) :
  ∃ R H, lp_X6_readText_49 y1 (nI n) tb nC (nI (r + 1)) 2 (nI p) (nI b) kk cd (nI wn) (nI B) (nI N) (nI 0) (nI 0) (nI 0) (nI 0) (nI 0) (nI 0) xk xb xs xo ops steps levels firsts lasts op cl places sym (KX (nI n)) = some R ∧ ((f_X12_takes (nI n) tok (nI b) (nI p) (nI (r + 1)) c2 0 (-1) tx).bind fun (r_4, v_token_5, v_begin_6, v_end_7, v_tokens_8, v_code_9, v_faultKind_10, v_faultPlace_11) =>
    if b2i r_4 = 0 then
    some (false, v_token_5, v_begin_6, v_end_7, v_tokens_8, v_code_9, v_faultKind_10, v_faultPlace_11, nI N, nI B, ma, mk, mnb, mm)
    else
    (if v_token_5 = 110 then
    lp_X12_header_162 (nI wn) y2 y3 (nI n) (nI B) ma tx 5000 v_token_5 v_begin_6 v_end_7 v_tokens_8 v_code_9 v_faultKind_10 v_faultPlace_11 (nI N) mk mnb mm (KN (nI n) tx nM (nI wn) (nI B) ma)
    else
    ((f_X12_refuses v_begin_6 v_faultKind_10 v_faultPlace_11 1).bind fun (r_65, v_faultKind_66, v_faultPlace_67) =>
    some (r_65, v_token_5, v_begin_6, v_end_7, v_tokens_8, v_code_9, v_faultKind_66, v_faultPlace_67, nI N, nI B, ma, mk, mnb, mm)))) = some H ∧ HPost n tx nm0 tp w0 d0 o0 wait done kind left right R H := by
  obtain ⟨nC, rfl⟩ : ∃ x, nC = x + 1 := ⟨nC - 1, by omega⟩
  cases d with
  | zero =>
    obtain rfl : r = 160 := by omega
    rw [takes_no, Option.bind_some, lp_full]
    dsimp only
    rw [if_pos (c := b2i false = 0) (by decide)]
    exact ⟨_, _, rfl, rfl, Or.inl ⟨4, b, by omega, by omega, rfl, rfl, rfl, rfl, rfl⟩⟩
  | succ d =>
    obtain ⟨t', b', p', c1', c2', g1, g2, g3, g4, g5, g6⟩ := takes_ok hn hp htx (show r + 1 ≤ 160 by omega) (nI b) kk cd tok (nI b) c2 0 (-1)
    rw [g5, Option.bind_some]
    dsimp only
    rw [if_neg (c := b2i true = 0) (by decide)]
    have hkl := kd_lt g1
    rcases kd2 g1 with rfl | ⟨q1, q2⟩
    · rw [if_pos (c := nI 110 = 110) rfl]
      exact h3 d rfl (r + 1) wn N B sz nb own ok 2 110 b' p' (nC + 1) nM 5000 _ _ _ _ c1' c2' y2 y3 _ _ _ _ _ _ _ _ ops steps levels firsts lasts op cl places sym (by omega) (Or.inl ⟨rfl, rfl⟩) hB hH g1 g2 g3 g4 g6 (by omega) (by omega) (by omega)
    · rw [if_neg (nI_neL (k := 110) (c := 110) (by omega) (by omega) q1), lp_H (by omega) (s := 2) (by decide) g4 (tib_else (Or.inr (Or.inr (Or.inl ⟨rfl, toks_ne g1 (z := 256) (by omega) q2⟩)))), if_neg (c := (1 : Int32) = 0) (by decide)]
      unfold f_X12_refuses
      rw [Option.bind_some]
      exact ⟨_, _, rfl, rfl, Or.inl ⟨1, b', by omega, by omega, rfl, rfl, rfl, rfl, rfl⟩⟩
theorem step_1 (hn : n ≤ 600) (htx : ∀ k, k < n → tb k = tx k &&& 255) {d : Nat} (h3 : ∀ d', d = d' + 1 → HQ3 n tb tx y1 nm0 tp w0 d0 o0 wait done kind left right d') : HQ1 n tb tx y1 nm0 tp w0 d0 o0 wait done kind left right d := by
  intro r wn N B sz nb own s t b p nC nM nx st kk cd c1 c2 xo xs xk xb mk mnb mm ma ops steps levels firsts lasts op cl places sym hrd hst hH ht hb hp ha hC hM
  have hs : s = 0 ∨ s = 1 := by rcases hst with ⟨q, -⟩ | q; · exact Or.inl q
                                · exact Or.inr q
  have hs2 : s ≠ 4 ∧ s ≠ 5 := by rcases hs with rfl | rfl <;> decide
  have hkl := kd_lt ht
  obtain ⟨nC, rfl⟩ : ∃ x, nC = x + 1 := ⟨nC - 1, by omega⟩
  obtain ⟨nM, rfl⟩ : ∃ x, nM = x + 1 := ⟨nM - 1, by omega⟩
  rw [lp_X12_header_27, if_neg (c := (1 : Int32) = 0) (by decide)]
  unfold jn
  dsimp only
  by_cases hw : t = 115 ∨ t = 97
  · obtain ⟨q, hq, hq2, hq3⟩ : ∃ q : Bool, ((nI (kd t) = 512 ∧ q = false) ∨ (nI (kd t) = 513 ∧ q = true)) ∧ (∀ (α : Type) (x y : α), (if nI t = 97 then x else y) = if q then x else y) ∧ (∀ (α : Type) (x y : α), (if nI t = 115 then x else if nI t = 97 then x else y) = x) := by
      rcases hw with rfl | rfl
      · exact ⟨false, Or.inl ⟨rfl, rfl⟩, fun α x y => rfl, fun α x y => rfl⟩
      · exact ⟨true, Or.inr ⟨rfl, rfl⟩, fun α x y => rfl, fun α x y => rfl⟩
    rw [hq3]
    by_cases h6 : wn = 6
    · subst h6
      rw [if_pos (c := nI 6 = 6) rfl, lp_H (by omega) hs2 ha (tib_word hs hq addW_no), if_neg (c := (4 : Int32) = 0) (by decide)]
      unfold f_X12_refuses
      rw [Option.bind_some]
      exact ⟨_, _, rfl, rfl, Or.inl ⟨4, b, by omega, by omega, rfl, rfl, rfl, rfl, rfl⟩⟩
    · have hwn : wn < 6 := by have := hH.1; omega
      have hBw : B ≤ wn := hH.2.1
      have hne : ¬ nI (kd t) = 514 := by rcases hq with ⟨q, -⟩ | ⟨q, -⟩ <;> rw [q] <;> decide
      rw [if_neg (nI_neL (k := 6) (c := 6) (by omega) (by omega) h6), hq2]
      have hW := addW_ok (q := q) hH hwn
      by_cases hsame : 0 < B ∧ own (B - 1) = q
      · rw [if_pos hsame] at hW
        rw [lp_H (by omega) hs2 ha (tib_word hs hq hW), if_pos (c := (0 : Int32) = 0) rfl, if_neg hne]
        obtain ⟨R, H, g1, g2, g3⟩ := after_word hn htx h3 (y1 := y1) (nm0 := nm0) (tp := tp) (w0 := w0) (d0 := d0) (o0 := o0) (wait := wait) (done := done) (kind := kind) (left := left) (right := right) (nC := nC) (nM := nM) (kk := nI (kd t)) (cd := c1) (c2 := c2) (tok := nI t) (y2 := 1) (y3 := b2i q) (ops := ops) (steps := steps) (levels := levels) (firsts := firsts) (lasts := lasts) (op := op) (cl := cl) (places := places) (sym := sym) hrd (by omega) (hb_same hH hwn) hb hp (by omega) (by omega)
        refine ⟨R, H, g1, ?_, g3⟩
        rw [← g2]
        obtain ⟨B', rfl⟩ : ∃ x, B = x + 1 := ⟨B - 1, by omega⟩
        rw [show B' + 1 - 1 = B' by omega] at hsame
        have hba : ma B' = b2i q := by rw [(hH.2.2.2.1 B' (by omega)).2.2.2.1, hsame.2]
        cases q with
        | true =>
          rw [if_pos (c := (true : Bool) = true) rfl, if_neg (nI_ne0 (by omega) (by omega)), nI_pred, if_pos (ix_t (by omega) (by decide)), nI_clamp (by omega), if_pos (show ma B' = 1 from hba), nI_1]
          rfl
        | false =>
          rw [if_neg (c := (false : Bool) = true) (by decide), if_neg (nI_ne0 (by omega) (by omega)), nI_pred, if_pos (ix_t (by omega) (by decide)), nI_clamp (by omega), if_pos (show ma B' = 0 from hba), nI_1]
          rfl
      · rw [if_neg hsame] at hW
        rw [lp_H (by omega) hs2 ha (tib_word hs hq hW), if_pos (c := (0 : Int32) = 0) rfl, if_neg hne]
        obtain ⟨R, H, g1, g2, g3⟩ := after_word hn htx h3 (y1 := y1) (nm0 := nm0) (tp := tp) (w0 := w0) (d0 := d0) (o0 := o0) (wait := wait) (done := done) (kind := kind) (left := left) (right := right) (nC := nC) (nM := nM) (kk := nI (kd t)) (cd := c1) (c2 := c2) (tok := nI t) (y2 := 1) (y3 := b2i q) (ops := ops) (steps := steps) (levels := levels) (firsts := firsts) (lasts := lasts) (op := op) (cl := cl) (places := places) (sym := sym) hrd (by omega) (hb_new (q := q) hH hwn) hb hp (by omega) (by omega)
        refine ⟨R, H, g1, ?_, g3⟩
        rw [← g2]
        have hnb : ∀ (α : Type) (x y : Option α), (if nI B = 0 then x else (if ix (nI B - (1 : Int32)) 6 then (if ma (nI B - (1 : Int32)).toNatClampNeg = b2i q then y else x) else none)) = x := by
          intro α x y
          by_cases h0 : B = 0
          · subst h0; exact if_pos rfl
          · obtain ⟨B', rfl⟩ : ∃ x, B = x + 1 := ⟨B - 1, by omega⟩
            rw [show B' + 1 - 1 = B' by omega] at hsame
            rw [if_neg (nI_ne0 (by omega) (by omega)), nI_pred, if_pos (ix_t (by omega) (by decide)), nI_clamp (by omega), (hH.2.2.2.1 B' (by omega)).2.2.2.1, if_neg (fun z => hsame ⟨by omega, b2i_inj z⟩)]
        cases q with
        | true =>
          rw [if_pos (c := (true : Bool) = true) rfl]
          refine (hnb _ _ _).trans ?_
          rw [if_pos (ix_t (show B < 6 by omega) (by decide)), if_pos (ix_t (show B < 6 by omega) (by decide)), nI_1, nI_1, nI_clamp (by omega)]
          rfl
        | false =>
          rw [if_neg (c := (false : Bool) = true) (by decide)]
          refine (hnb _ _ _).trans ?_
          rw [if_pos (ix_t (show B < 6 by omega) (by decide)), if_pos (ix_t (show B < 6 by omega) (by decide)), nI_1, nI_1, nI_clamp (by omega)]
          rfl
  · have hk : kd t ≠ 512 ∧ kd t ≠ 513 ∧ (t ≠ 58 → kd t ≠ 58) := by
      rcases kd1 ht with q | q | q
      · exact absurd (Or.inl q) hw
      · exact absurd (Or.inr q) hw
      · exact q.2.2
    have hx : f_X6_takeInBlocks s (nI (kd t)) c1 (nI wn) (nI B) (nI N) xk xb xs xo = some (1, s, nI wn, nI B, nI N, xk, xb, xs, xo) := by
      refine tib_else ?_
      rcases hst with ⟨q1, q2⟩ | q1
      · exact Or.inl ⟨q1, toks_ne ht (z := 512) (by omega) hk.1, toks_ne ht (z := 513) (by omega) hk.2.1, toks_ne ht (z := 58) (by omega) (hk.2.2 q2)⟩
      · exact Or.inr (Or.inl ⟨q1, toks_ne ht (z := 512) (by omega) hk.1, toks_ne ht (z := 513) (by omega) hk.2.1⟩)
    rw [if_neg (nI_neL (k := 115) (c := 115) (by omega) (by omega) (fun z => hw (Or.inl z))), if_neg (nI_neL (k := 97) (c := 97) (by omega) (by omega) (fun z => hw (Or.inr z))), lp_H (by omega) hs2 ha hx, if_neg (c := (1 : Int32) = 0) (by decide)]
    unfold f_X12_refuses
    rw [Option.bind_some]
    exact ⟨_, _, rfl, rfl, Or.inl ⟨1, b, by omega, by omega, rfl, rfl, rfl, rfl, rfl⟩⟩
theorem head_all (hn : n ≤ 600) (htx : ∀ k, k < n → tb k = tx k &&& 255) : ∀ d, HQ1 n tb tx y1 nm0 tp w0 d0 o0 wait done kind left right d ∧ HQ3 n tb tx y1 nm0 tp w0 d0 o0 wait done kind left right d := by
  intro d
  induction d with
  | zero => exact ⟨step_1 hn htx (fun d' q => absurd q (by omega)), step_3 hn htx (fun d' q => absurd q (by omega)) (fun d' q => absurd q (by omega))⟩
  | succ d ih => exact ⟨step_1 hn htx (fun d' q => by have e : d' = d := (by omega); subst e; exact ih.2), step_3 hn htx (fun d' q => by have e : d' = d := (by omega); subst e; exact ih.1) (fun d' q => by have e : d' = d := (by omega); subst e; exact ih.2)⟩
end HDR

