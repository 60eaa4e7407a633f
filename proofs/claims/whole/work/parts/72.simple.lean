/-! blocks and history: the plain operations -/
def psum (f : Nat → Nat) : Nat → Nat
  | 0 => 0
  | n + 1 => psum f n + f n
theorem psum_le {f : Nat → Nat} {a b : Nat} (h : a ≤ b) : psum f a ≤ psum f b := by
  induction b with
  | zero => have : a = 0 := by omega
            subst this; exact Nat.le_refl _
  | succ b ih =>
    by_cases hab : a = b + 1
    · subst hab; exact Nat.le_refl _
    · have := ih (by omega)
      show _ ≤ psum f b + f b
      omega
/-- a name's code: a letter, and perhaps a digit -/
def codeOK (c : Int32) : Prop := ∃ (l d : Nat), 97 ≤ l ∧ l ≤ 122 ∧ d ≤ 10 ∧ c = nI (l + 256 * d)
def IBlk (N B : Nat) (sz nb : Nat → Nat) (own : Nat → Bool) (xc xn : Int32) (xo xs xk xb : Nat → Int32) (mn mb : Int32) (mk mnb mm ma : Nat → Int32) : Prop :=
  B ≤ 6 ∧ N ≤ 10 ∧ xc = nI B ∧ mb = nI B ∧ xn = nI N ∧ mn = nI N ∧ (∀ b, b < B → xs b = nI (sz b) ∧ mm b = nI (sz b) ∧ xo b = b2i (own b) ∧ ma b = b2i (own b) ∧ 1 ≤ sz b) ∧ (∀ k, k < N → xk k = mk k ∧ xb k = nI (nb k) ∧ mnb k = nI (nb k) ∧ nb k < B ∧ codeOK (mk k)) ∧ psum sz B = N
def IHist (B : Nat) (sz : Nat → Nat) (pl dp pv : Nat) (xb xn xv : Int32) (xp : Nat → Int32) (mp md mx : Int32) (mm : Nat → Int32) : Prop :=
  pl ≤ B ∧ dp = psum sz pl ∧ pv < 2 ^ dp ∧ xb = nI pl ∧ mp = nI pl ∧ xn = nI dp ∧ md = nI dp ∧ xv = nI pv ∧ mx = nI pv ∧ ∀ k, k < pl → xp k = mm k
def IPage (xs : Int32) (xb : Nat → Int32) (mw : Int32) (mo : Nat → Int32) : Prop := ∃ w : Nat, w ≤ 320 ∧ xs = nI w ∧ mw = nI w ∧ ∀ k, k < w → xb k = mo k &&& 255
theorem shl_nI {n k : Nat} (hk : k < 32) (h : n * 2 ^ k < 2 ^ 32) : nI n <<< (nI k &&& 31) = nI (n * 2 ^ k) := pk_shlN _ k (s_l k hk) h
theorem shr_nI {n k : Nat} (hk : k < 32) (h : n < 2 ^ 31) : nI n >>> (nI k &&& 31) = nI (n / 2 ^ k) := pk_shrN h _ k (s_l k hk)
theorem or_nI (a b : Nat) : nI a ||| nI b = nI (a ||| b) := by
  apply Int32.toBitVec_inj.1
  show BitVec.ofNat 32 a ||| BitVec.ofNat 32 b = BitVec.ofNat 32 (a ||| b)
  apply BitVec.eq_of_getLsbD_eq
  intro i hi
  simp [hi]
theorem or_add {a b s : Nat} (h : b < 2 ^ s) : a * 2 ^ s ||| b = a * 2 ^ s + b := by
  rw [Nat.mul_comm]
  exact (Nat.two_pow_add_eq_or_of_lt h a).symm
theorem pow_le10 {s : Nat} (h : s ≤ 10) : 2 ^ s ≤ 1024 := Nat.le_trans (Nat.pow_le_pow_right (by omega) h) (by decide)
theorem owner_ok {B : Nat} {xo : Nat → Int32} (hB : B ≤ 6) (i : Nat) (hi : i < 2 ^ 31) : f_X0_ownerOf (nI B) xo (nI i) = some (if i < B then xo i else -1) := by
  unfold f_X0_ownerOf
  rw [w_nI hi (by omega), Option.bind_some]
  by_cases h : i < B
  · rw [decide_eq_true h, if_neg (by decide), show (6 : Int32) = nI 6 from rfl, if_neg (nI_ge (by omega) (by omega)), if_pos (ix_t (by omega) (by decide)), nI_clamp hi, if_pos h]
  · rw [decide_eq_false h, if_pos (by decide), if_neg h]
theorem size_ok {B : Nat} {xo : Nat → Int32} (hB : B ≤ 6) (i : Nat) (hi : i < 2 ^ 31) : f_X0_sizeOf (nI B) xo (nI i) = some (if i < B then xo i else -1) := by
  unfold f_X0_sizeOf
  rw [w_nI hi (by omega), Option.bind_some]
  by_cases h : i < B
  · rw [decide_eq_true h, if_neg (by decide), show (6 : Int32) = nI 6 from rfl, if_neg (nI_ge (by omega) (by omega)), if_pos (ix_t (by omega) (by decide)), nI_clamp hi, if_pos h]
  · rw [decide_eq_false h, if_pos (by decide), if_neg h]
theorem code_ok {N : Nat} {xo : Nat → Int32} (hB : N ≤ 10) (i : Nat) (hi : i < 2 ^ 31) : f_X0_codeOf (nI N) xo (nI i) = some (if i < N then xo i else -1) := by
  unfold f_X0_codeOf
  rw [w_nI hi (by omega), Option.bind_some]
  by_cases h : i < N
  · rw [decide_eq_true h, if_neg (by decide), show (10 : Int32) = nI 10 from rfl, if_neg (nI_ge (by omega) (by omega)), if_pos (ix_t (by omega) (by decide)), nI_clamp hi, if_pos h]
  · rw [decide_eq_false h, if_pos (by decide), if_neg h]
theorem block_ok {N : Nat} {xo : Nat → Int32} (hB : N ≤ 10) (i : Nat) (hi : i < 2 ^ 31) : f_X0_blockOf (nI N) xo (nI i) = some (if i < N then xo i else -1) := by
  unfold f_X0_blockOf
  rw [w_nI hi (by omega), Option.bind_some]
  by_cases h : i < N
  · rw [decide_eq_true h, if_neg (by decide), show (10 : Int32) = nI 10 from rfl, if_neg (nI_ge (by omega) (by omega)), if_pos (ix_t (by omega) (by decide)), nI_clamp hi, if_pos h]
  · rw [decide_eq_false h, if_pos (by decide), if_neg h]
theorem fault_ok {xf xp mf mp : Int32} (h1 : xf = mf) (h2 : xp = mp) (a : Int32) : ∃ r, f_X11_fault xf xp a = some r ∧ f_X12_fault mf mp a = some r := by
  subst h1; subst h2
  unfold f_X11_fault f_X12_fault
  by_cases h0 : a = 0
  · exact ⟨xf, by rw [if_pos h0], by rw [if_pos h0]⟩
  · by_cases h1 : a = 1
    · exact ⟨xp, by rw [if_neg h0, if_pos h1], by rw [if_neg h0, if_pos h1]⟩
    · exact ⟨-1, by rw [if_neg h0, if_neg h1], by rw [if_neg h0, if_neg h1]⟩
section BH
variable {N B : Nat} {sz nb : Nat → Nat} {own : Nat → Bool} {xc xn : Int32} {xo xs xk xb : Nat → Int32} {mn mb : Int32} {mk mnb mm ma : Nat → Int32}
variable {pl dp pv : Nat} {hb hn hv : Int32} {hp : Nat → Int32} {qp qd qx : Int32} {qm : Nat → Int32}
theorem sz_le (h : IBlk N B sz nb own xc xn xo xs xk xb mn mb mk mnb mm ma) {b : Nat} (hb : b < B) : psum sz b + sz b ≤ N := by
  obtain ⟨-, -, -, -, -, -, -, -, hs⟩ := h
  rw [← hs]
  exact psum_le (f := sz) (a := b + 1) (by omega)
theorem dp_le (h : IBlk N B sz nb own xc xn xo xs xk xb mn mb mk mnb mm ma) (hh : IHist B sz pl dp pv hb hn hv hp qp qd qx qm) : dp ≤ N := by
  obtain ⟨-, -, -, -, -, -, -, -, hs⟩ := h
  obtain ⟨h1, h2, -⟩ := hh
  rw [h2, ← hs]
  exact psum_le h1
theorem turn_ok (h : IBlk N B sz nb own xc xn xo xs xk xb mn mb mk mnb mm ma) (hh : IHist B sz pl dp pv hb hn hv hp qp qd qx qm) : ∃ r, f_X11_turn hb xc xo = some r ∧ f_X12_turn mb qp ma = some r ∧ r = if pl < B then b2i (own pl) else -1 := by
  obtain ⟨hB, hN, rfl, rfl, rfl, rfl, hbl, hk, hs⟩ := h
  obtain ⟨h1, rfl, h3, rfl, rfl, rfl, rfl, rfl, rfl, hpm⟩ := hh
  refine ⟨if pl < B then b2i (own pl) else -1, ?_, ?_, rfl⟩
  · unfold f_X11_turn
    rw [owner_ok hB pl (by omega), Option.bind_some]
    by_cases hp : pl < B
    · rw [if_pos hp, if_pos hp, (hbl pl hp).2.2.1]
    · rw [if_neg hp, if_neg hp]
  · unfold f_X12_turn
    by_cases hp : pl < B
    · rw [if_neg (by rw [nI_eq (by omega) (by omega)]; omega), if_pos (ix_t (by omega) (by decide)), nI_clamp (by omega), if_pos hp, (hbl pl hp).2.2.2.1]
      cases own pl <;> rfl
    · rw [if_pos (by rw [nI_eq (by omega) (by omega)]; omega), if_neg hp]
theorem ismove_ok (h : IBlk N B sz nb own xc xn xo xs xk xb mn mb mk mnb mm ma) (hh : IHist B sz pl dp pv hb hn hv hp qp qd qx qm) (a : Int32) :
    (∃ j : Nat, pl < B ∧ j < 2 ^ sz pl ∧ a = nI j ∧ f_X11_isMove hb xc xs a = some true ∧ f_X12_isMove mb qp mm a = some true) ∨ (f_X11_isMove hb xc xs a = some false ∧ f_X12_isMove mb qp mm a = some false) := by
  have hsz : pl < B → psum sz pl + sz pl ≤ N := fun q => sz_le h q
  obtain ⟨hB, hN, rfl, rfl, rfl, rfl, hbl, hk, hs⟩ := h
  obtain ⟨h1, rfl, h3, rfl, rfl, rfl, rfl, rfl, rfl, hpm⟩ := hh
  by_cases hp : pl < B
  · obtain ⟨e1, e2, -⟩ := hbl pl hp
    have h10 := hsz hp
    have hpw : 2 ^ sz pl ≤ 1024 := pow_le10 (by omega)
    have ec : f_X11_countOfMoves (nI pl) (nI B) xs = some (nI (2 ^ sz pl)) := by
      unfold f_X11_countOfMoves f_X11_allPlayed
      rw [if_pos (nI_lt hp (by omega)), Option.bind_some, if_pos (by decide), size_ok hB pl (by omega), Option.bind_some, if_pos hp, e1, show (1 : Int32) = nI 1 from rfl, shl_nI (by omega) (by omega), Nat.one_mul]
    have em : (1 : Int32) <<< ((mm pl) &&& 31) = nI (2 ^ sz pl) := by rw [e2, show (1 : Int32) = nI 1 from rfl, shl_nI (by omega) (by omega), Nat.one_mul]
    unfold f_X11_isMove f_X12_isMove
    rw [ec, Option.bind_some, if_neg (nI_ge hp (by omega)), nI_clamp (by omega), em]
    rcases w_any a (b := 2 ^ sz pl) (by omega) with ⟨j, hj, rfl, hw⟩ | ⟨hc, hw⟩
    · refine Or.inl ⟨j, hp, hj, rfl, by rw [hw]; rfl, ?_⟩
      rw [if_neg (nI_pos (by omega)), if_pos (ix_t (by omega) (by decide)), if_neg (nI_ge hj (by omega))]
    · refine Or.inr ⟨by rw [hw]; rfl, ?_⟩
      by_cases h0 : a < 0
      · rw [if_pos h0]
      · rw [if_neg h0, if_pos (ix_t (by omega) (by decide)), if_pos (hc.resolve_left h0)]
  · refine Or.inr ⟨?_, ?_⟩
    · unfold f_X11_isMove f_X11_countOfMoves f_X11_allPlayed
      rw [if_neg (nI_nlt (by omega) (by omega)), Option.bind_some, if_neg (by decide), Option.bind_some, show (0 : Int32) = nI 0 from rfl]
      rcases w_any a (b := 0) (by omega) with ⟨j, hj, -, -⟩ | ⟨-, hw⟩
      · omega
      · rw [hw]; rfl
    · unfold f_X12_isMove
      rw [if_pos (nI_le (by omega) (by omega))]
theorem play_ok (h : IBlk N B sz nb own xc xn xo xs xk xb mn mb mk mnb mm ma) (hh : IHist B sz pl dp pv hb hn hv hp qp qd qx qm) (a : Int32) :
    ∃ (r : Bool) (u1 u2 u3 : Int32) (u4 : Nat → Int32) (w1 w2 w3 : Int32) (w4 : Nat → Int32) (pl' dp' pv' : Nat), f_X11_play hb hn hv xc xs hp a = some (r, u1, u2, u3, u4) ∧ f_X12_play mb qp qd qx mm qm a = some (r, w1, w2, w3, w4) ∧ IHist B sz pl' dp' pv' u1 u2 u3 u4 w1 w2 w3 w4 := by
  have hsz : pl < B → psum sz pl + sz pl ≤ N := fun q => sz_le h q
  rcases ismove_ok h hh a with ⟨j, hp1, hj, rfl, e1, e2⟩ | ⟨e1, e2⟩
  · obtain ⟨hB, hN, rfl, rfl, rfl, rfl, hbl, hk, hs⟩ := h
    obtain ⟨h1, rfl, h3, rfl, rfl, rfl, rfl, rfl, rfl, hpm⟩ := hh
    obtain ⟨s1, s2, -⟩ := hbl pl hp1
    have h10 := hsz hp1
    have hpw : 2 ^ sz pl ≤ 1024 := pow_le10 (by omega)
    have hpd : 2 ^ psum sz pl ≤ 1024 := pow_le10 (by omega)
    have hmul : pv * 2 ^ sz pl ≤ 1024 * 1024 := Nat.mul_le_mul (by omega) hpw
    have ev : (nI pv <<< (nI (sz pl) &&& 31)) ||| nI j = nI (pv * 2 ^ sz pl + j) := by rw [shl_nI (by omega) (by omega), or_nI, or_add hj]
    unfold f_X11_play f_X12_play
    rw [e1, e2, Option.bind_some, Option.bind_some, if_neg (by decide), if_neg (by decide), size_ok hB pl (by omega), Option.bind_some, if_pos hp1, s1]
    unfold f_X4_add
    rw [show (6 : Int32) = nI 6 from rfl, w_nI (by omega) (by omega), decide_eq_true (by omega), Option.bind_some, if_neg (by decide)]
    rw [if_pos (ix_t (by omega) (by decide)), if_pos (ix_t (by omega) (by decide)), if_pos (ix_t (by omega) (by decide)), if_pos (ix_t (by omega) (by decide))]
    rw [nI_clamp (by omega), s2, ev, nI_1, nI_add]
    refine ⟨_, _, _, _, _, _, _, _, _, pl + 1, psum sz pl + sz pl, pv * 2 ^ sz pl + j, rfl, rfl, by omega, rfl, ?_, rfl, rfl, rfl, rfl, rfl, rfl, ?_⟩
    · rw [Nat.pow_add]
      calc pv * 2 ^ sz pl + j < pv * 2 ^ sz pl + 2 ^ sz pl := by omega
        _ = (pv + 1) * 2 ^ sz pl := by rw [Nat.add_mul, Nat.one_mul]
        _ ≤ 2 ^ psum sz pl * 2 ^ sz pl := Nat.mul_le_mul_right _ h3
    · intro k hk2
      by_cases hkp : k = pl
      · subst hkp; rw [upd_same, upd_same]
      · rw [upd_ne hkp, upd_ne hkp]; exact hpm k (by omega)
  · unfold f_X11_play f_X12_play
    rw [e1, e2, Option.bind_some, Option.bind_some, if_pos (by decide), if_pos (by decide)]
    exact ⟨_, _, _, _, _, _, _, _, _, pl, dp, pv, rfl, rfl, hh⟩
theorem undo_ok (h : IBlk N B sz nb own xc xn xo xs xk xb mn mb mk mnb mm ma) (hh : IHist B sz pl dp pv hb hn hv hp qp qd qx qm) :
    ∃ (r u1 u2 u3 w1 w2 w3 : Int32) (pl' dp' pv' : Nat), f_X11_undo hb hn hv xc xs hp = some (r, u1, u2, u3) ∧ f_X12_undo qp qd qx mm qm = some (r, w1, w2, w3) ∧ IHist B sz pl' dp' pv' u1 u2 u3 hp w1 w2 w3 qm := by
  by_cases h0 : pl = 0
  · have hh2 := hh
    obtain ⟨h1, rfl, h3, rfl, rfl, rfl, rfl, rfl, rfl, hpm⟩ := hh
    subst h0
    unfold f_X11_undo f_X12_undo
    rw [if_pos (by decide), if_pos (by decide)]
    exact ⟨_, _, _, _, _, _, _, _, _, _, rfl, rfl, hh2⟩
  · obtain ⟨p, rfl⟩ : ∃ p, pl = p + 1 := ⟨pl - 1, by omega⟩
    have hsz : p < B → psum sz p + sz p ≤ N := fun q => sz_le h q
    obtain ⟨hB, hN, rfl, rfl, rfl, rfl, hbl, hk, hs⟩ := h
    obtain ⟨h1, rfl, h3, rfl, rfl, rfl, rfl, rfl, rfl, hpm⟩ := hh
    obtain ⟨s1, s2, -⟩ := hbl p (by omega)
    have h10 := hsz (by omega)
    have hpd : 2 ^ psum sz (p + 1) ≤ 1024 := pow_le10 (by show psum sz p + sz p ≤ 10; omega)
    unfold f_X11_undo f_X12_undo
    rw [if_neg (nI_ne0 (by omega) (by omega)), if_neg (nI_ne0 (by omega) (by omega)), nI_pred, size_ok hB p (by omega), Option.bind_some, if_pos (by omega), s1]
    unfold f_X4_takeBack
    rw [nI_pred, show (6 : Int32) = nI 6 from rfl, w_nI (by omega) (by omega), decide_eq_true (by omega), Option.bind_some, if_neg (by decide)]
    rw [if_pos (ix_t (by omega) (by decide)), if_pos (ix_t (by omega) (by decide)), if_pos (ix_t (by omega) (by decide)), if_pos (ix_t (by omega) (by decide))]
    rw [nI_clamp (by omega), s2, shr_nI (by omega) (by omega), show psum sz (p + 1) = psum sz p + sz p from rfl, pk_sub (by omega), Nat.add_sub_cancel, hpm p (by omega)]
    refine ⟨_, _, _, _, _, _, _, p, psum sz p, pv / 2 ^ sz p, rfl, rfl, by omega, rfl, ?_, rfl, rfl, rfl, rfl, rfl, rfl, fun k hk2 => hpm k (by omega)⟩
    rw [Nat.div_lt_iff_lt_mul (Nat.two_pow_pos _), ← Nat.pow_add]
    exact h3
end BH
theorem octet_ok {xs mw : Int32} {xb mo : Nat → Int32} (h : IPage xs xb mw mo) (a : Int32) : ∃ r, f_X11_octet xs xb a = some r ∧ f_X12_octet mw mo a = some r := by
  obtain ⟨w, hw, rfl, rfl, hk⟩ := h
  unfold f_X11_octet f_X5_byteAt f_X12_octet
  rcases w_any a (b := w) (by omega) with ⟨j, hj, rfl, e⟩ | ⟨hc, e⟩
  · refine ⟨mo j &&& 255, ?_, ?_⟩
    · rw [e, Option.bind_some, if_neg (by decide), show (320 : Int32) = nI 320 from rfl, if_neg (nI_ge (by omega) (by omega)), if_pos (ix_t (by omega) (by decide)), nI_clamp (by omega), hk j hj]
      rfl
    · rw [if_neg (nI_pos (by omega)), if_neg (nI_ge hj (by omega)), if_pos (ix_t (by omega) (by decide)), nI_clamp (by omega)]
  · refine ⟨-1, by rw [e]; rfl, ?_⟩
    by_cases h0 : a < 0
    · rw [if_pos h0]
    · rw [if_neg h0, if_pos (hc.resolve_left h0)]
