/-! saving, restoring, copying the text -/
def cpy (m : Nat) (s d : Nat → Int32) : Nat → Int32 := fun k => if k < m then s k else d k
theorem cpy_0 (s d : Nat → Int32) : cpy 0 s d = d := by
  funext k
  exact if_neg (by omega)
theorem cpy_up (m : Nat) (s d : Nat → Int32) : upd (cpy m s d) m (s m) = cpy (m + 1) s d := by
  funext k
  by_cases h : k = m
  · subst h
    rw [upd_same]
    exact (if_pos (by omega)).symm
  · rw [upd_ne h]
    unfold cpy
    by_cases h2 : k < m
    · rw [if_pos h2, if_pos (by omega)]
    · rw [if_neg h2, if_neg (by omega)]
theorem cpy_lt {m k : Nat} {s d : Nat → Int32} (h : k < m) : cpy m s d k = s k := if_pos h
theorem cpy_ge {m k : Nat} {s d : Nat → Int32} (h : ¬ k < m) : cpy m s d k = d k := if_neg h
theorem l73_s {v_names_73f : Int32} {v_blocks_73f : Int32} {v_nodeMany_73f : Int32} {v_top_73f : Int32} {v_namesWas_73f : Int32} {v_blocksWas_73f : Int32} {v_nodeManyWas_73f : Int32} {v_topWas_73f : Int32} {v_blockManyWas_73f : Nat → Int32} {v_blockMany_73f : Nat → Int32} {v_blockAllWas_73f : Nat → Int32} {v_blockAll_73f : Nat → Int32} {v_kindWas_73f : Nat → Int32} {v_kind_73f : Nat → Int32} {v_leftWas_73f : Nat → Int32} {v_left_73f : Nat → Int32} {v_rightWas_73f : Nat → Int32} {v_right_73f : Nat → Int32} {K : Int32 → (Nat → Int32) → (Nat → Int32) → (Nat → Int32) → (Nat → Int32) → Option (Int32 × Int32 × Int32 × Int32 × Int32 × Int32 × Int32 × Int32 × (Nat → Int32) × (Nat → Int32) × (Nat → Int32) × (Nat → Int32) × (Nat → Int32) × (Nat → Int32) × (Nat → Int32) × (Nat → Int32) × (Nat → Int32) × (Nat → Int32) × (Nat → Int32) × (Nat → Int32) × (Nat → Int32) × (Nat → Int32))} (cw c : Nat → Int32) (bw b : Nat → Int32) : ∀ (j i n : Nat), i + j = 12 → j < n →
    lp_X12_lays_73 1 v_names_73f v_blocks_73f v_nodeMany_73f v_top_73f v_namesWas_73f v_blocksWas_73f v_nodeManyWas_73f v_topWas_73f v_blockManyWas_73f v_blockMany_73f v_blockAllWas_73f v_blockAll_73f v_kindWas_73f v_kind_73f v_leftWas_73f v_left_73f v_rightWas_73f v_right_73f n (nI i) (cpy i c cw) c (cpy i b bw) b K = K (nI 12) (cpy 12 c cw) c (cpy 12 b bw) b := by
  intro j
  induction j with
  | zero =>
    intro i n h1 h2
    obtain rfl : i = 12 := by omega
    obtain ⟨n, rfl⟩ : ∃ x, n = x + 1 := ⟨n - 1, by omega⟩
    rw [lp_X12_lays_73, if_pos (show (12 : Int32) ≤ nI 12 from nI_le (a := 12) (b := 12) (by omega) (by omega))]
  | succ j ih =>
    intro i n h1 h2
    obtain ⟨n, rfl⟩ : ∃ x, n = x + 1 := ⟨n - 1, by omega⟩
    rw [lp_X12_lays_73, if_neg (ge_lit (k := 12) (c := 12) rfl (by omega) (by omega))]
    unfold jn
    dsimp only
    simp only [if_pos (ix_t (show i < 12 by omega) (show 12 < 2 ^ 31 by decide)), nI_clamp (show i < 2 ^ 31 by omega)]
    rw [if_neg (c := (1 : Int32) = 0) (by decide), if_neg (c := (1 : Int32) = 0) (by decide), nI_1]
    have := ih (i + 1) n (by omega) (by omega)
    rw [← cpy_up i c cw] at this
    rw [← cpy_up i b bw] at this
    exact this
theorem l73_r {v_names_73f : Int32} {v_blocks_73f : Int32} {v_nodeMany_73f : Int32} {v_top_73f : Int32} {v_namesWas_73f : Int32} {v_blocksWas_73f : Int32} {v_nodeManyWas_73f : Int32} {v_topWas_73f : Int32} {v_blockManyWas_73f : Nat → Int32} {v_blockMany_73f : Nat → Int32} {v_blockAllWas_73f : Nat → Int32} {v_blockAll_73f : Nat → Int32} {v_kindWas_73f : Nat → Int32} {v_kind_73f : Nat → Int32} {v_leftWas_73f : Nat → Int32} {v_left_73f : Nat → Int32} {v_rightWas_73f : Nat → Int32} {v_right_73f : Nat → Int32} {K : Int32 → (Nat → Int32) → (Nat → Int32) → (Nat → Int32) → (Nat → Int32) → Option (Int32 × Int32 × Int32 × Int32 × Int32 × Int32 × Int32 × Int32 × (Nat → Int32) × (Nat → Int32) × (Nat → Int32) × (Nat → Int32) × (Nat → Int32) × (Nat → Int32) × (Nat → Int32) × (Nat → Int32) × (Nat → Int32) × (Nat → Int32) × (Nat → Int32) × (Nat → Int32) × (Nat → Int32) × (Nat → Int32))} (cw c : Nat → Int32) (bw b : Nat → Int32) : ∀ (j i n : Nat), i + j = 12 → j < n →
    lp_X12_lays_73 0 v_names_73f v_blocks_73f v_nodeMany_73f v_top_73f v_namesWas_73f v_blocksWas_73f v_nodeManyWas_73f v_topWas_73f v_blockManyWas_73f v_blockMany_73f v_blockAllWas_73f v_blockAll_73f v_kindWas_73f v_kind_73f v_leftWas_73f v_left_73f v_rightWas_73f v_right_73f n (nI i) cw (cpy i cw c) bw (cpy i bw b) K = K (nI 12) cw (cpy 12 cw c) bw (cpy 12 bw b) := by
  intro j
  induction j with
  | zero =>
    intro i n h1 h2
    obtain rfl : i = 12 := by omega
    obtain ⟨n, rfl⟩ : ∃ x, n = x + 1 := ⟨n - 1, by omega⟩
    rw [lp_X12_lays_73, if_pos (show (12 : Int32) ≤ nI 12 from nI_le (a := 12) (b := 12) (by omega) (by omega))]
  | succ j ih =>
    intro i n h1 h2
    obtain ⟨n, rfl⟩ : ∃ x, n = x + 1 := ⟨n - 1, by omega⟩
    rw [lp_X12_lays_73, if_neg (ge_lit (k := 12) (c := 12) rfl (by omega) (by omega))]
    unfold jn
    dsimp only
    simp only [if_pos (ix_t (show i < 12 by omega) (show 12 < 2 ^ 31 by decide)), nI_clamp (show i < 2 ^ 31 by omega), ↓reduceIte]
    rw [nI_1]
    have := ih (i + 1) n (by omega) (by omega)
    rw [← cpy_up i cw c] at this
    rw [← cpy_up i bw b] at this
    exact this
theorem l149_s {v_names_149f : Int32} {v_blocks_149f : Int32} {v_nodeMany_149f : Int32} {v_top_149f : Int32} {v_namesWas_149f : Int32} {v_blocksWas_149f : Int32} {v_nodeManyWas_149f : Int32} {v_topWas_149f : Int32} {v_nameCodeWas_149f : Nat → Int32} {v_nameCode_149f : Nat → Int32} {v_nameBlockWas_149f : Nat → Int32} {v_nameBlock_149f : Nat → Int32} {v_kindWas_149f : Nat → Int32} {v_kind_149f : Nat → Int32} {v_leftWas_149f : Nat → Int32} {v_left_149f : Nat → Int32} {v_rightWas_149f : Nat → Int32} {v_right_149f : Nat → Int32} {K : Int32 → (Nat → Int32) → (Nat → Int32) → (Nat → Int32) → (Nat → Int32) → Option (Int32 × Int32 × Int32 × Int32 × Int32 × Int32 × Int32 × Int32 × (Nat → Int32) × (Nat → Int32) × (Nat → Int32) × (Nat → Int32) × (Nat → Int32) × (Nat → Int32) × (Nat → Int32) × (Nat → Int32) × (Nat → Int32) × (Nat → Int32) × (Nat → Int32) × (Nat → Int32) × (Nat → Int32) × (Nat → Int32))} (mw m : Nat → Int32) (aw a : Nat → Int32) : ∀ (j i n : Nat), i + j = 6 → j < n →
    lp_X12_lays_149 1 v_names_149f v_blocks_149f v_nodeMany_149f v_top_149f v_namesWas_149f v_blocksWas_149f v_nodeManyWas_149f v_topWas_149f v_nameCodeWas_149f v_nameCode_149f v_nameBlockWas_149f v_nameBlock_149f v_kindWas_149f v_kind_149f v_leftWas_149f v_left_149f v_rightWas_149f v_right_149f n (nI i) (cpy i m mw) m (cpy i (fun k => vp_nar .boolean (a k)) aw) a K = K (nI 6) (cpy 6 m mw) m (cpy 6 (fun k => vp_nar .boolean (a k)) aw) a := by
  intro j
  induction j with
  | zero =>
    intro i n h1 h2
    obtain rfl : i = 6 := by omega
    obtain ⟨n, rfl⟩ : ∃ x, n = x + 1 := ⟨n - 1, by omega⟩
    rw [lp_X12_lays_149, if_pos (show (6 : Int32) ≤ nI 6 from nI_le (a := 6) (b := 6) (by omega) (by omega))]
  | succ j ih =>
    intro i n h1 h2
    obtain ⟨n, rfl⟩ : ∃ x, n = x + 1 := ⟨n - 1, by omega⟩
    rw [lp_X12_lays_149, if_neg (ge_lit (k := 6) (c := 6) rfl (by omega) (by omega))]
    unfold jn
    dsimp only
    simp only [if_pos (ix_t (show i < 6 by omega) (show 6 < 2 ^ 31 by decide)), nI_clamp (show i < 2 ^ 31 by omega)]
    rw [if_neg (c := (1 : Int32) = 0) (by decide), if_neg (c := (1 : Int32) = 0) (by decide), nI_1]
    have := ih (i + 1) n (by omega) (by omega)
    rw [← cpy_up i m mw] at this
    rw [← cpy_up i (fun k => vp_nar .boolean (a k)) aw] at this
    exact this
theorem l149_r {v_names_149f : Int32} {v_blocks_149f : Int32} {v_nodeMany_149f : Int32} {v_top_149f : Int32} {v_namesWas_149f : Int32} {v_blocksWas_149f : Int32} {v_nodeManyWas_149f : Int32} {v_topWas_149f : Int32} {v_nameCodeWas_149f : Nat → Int32} {v_nameCode_149f : Nat → Int32} {v_nameBlockWas_149f : Nat → Int32} {v_nameBlock_149f : Nat → Int32} {v_kindWas_149f : Nat → Int32} {v_kind_149f : Nat → Int32} {v_leftWas_149f : Nat → Int32} {v_left_149f : Nat → Int32} {v_rightWas_149f : Nat → Int32} {v_right_149f : Nat → Int32} {K : Int32 → (Nat → Int32) → (Nat → Int32) → (Nat → Int32) → (Nat → Int32) → Option (Int32 × Int32 × Int32 × Int32 × Int32 × Int32 × Int32 × Int32 × (Nat → Int32) × (Nat → Int32) × (Nat → Int32) × (Nat → Int32) × (Nat → Int32) × (Nat → Int32) × (Nat → Int32) × (Nat → Int32) × (Nat → Int32) × (Nat → Int32) × (Nat → Int32) × (Nat → Int32) × (Nat → Int32) × (Nat → Int32))} (mw m : Nat → Int32) (aw a : Nat → Int32) : ∀ (j i n : Nat), i + j = 6 → j < n →
    lp_X12_lays_149 0 v_names_149f v_blocks_149f v_nodeMany_149f v_top_149f v_namesWas_149f v_blocksWas_149f v_nodeManyWas_149f v_topWas_149f v_nameCodeWas_149f v_nameCode_149f v_nameBlockWas_149f v_nameBlock_149f v_kindWas_149f v_kind_149f v_leftWas_149f v_left_149f v_rightWas_149f v_right_149f n (nI i) mw (cpy i mw m) aw (cpy i (fun k => vp_nar .boolean (aw k)) a) K = K (nI 6) mw (cpy 6 mw m) aw (cpy 6 (fun k => vp_nar .boolean (aw k)) a) := by
  intro j
  induction j with
  | zero =>
    intro i n h1 h2
    obtain rfl : i = 6 := by omega
    obtain ⟨n, rfl⟩ : ∃ x, n = x + 1 := ⟨n - 1, by omega⟩
    rw [lp_X12_lays_149, if_pos (show (6 : Int32) ≤ nI 6 from nI_le (a := 6) (b := 6) (by omega) (by omega))]
  | succ j ih =>
    intro i n h1 h2
    obtain ⟨n, rfl⟩ : ∃ x, n = x + 1 := ⟨n - 1, by omega⟩
    rw [lp_X12_lays_149, if_neg (ge_lit (k := 6) (c := 6) rfl (by omega) (by omega))]
    unfold jn
    dsimp only
    simp only [if_pos (ix_t (show i < 6 by omega) (show 6 < 2 ^ 31 by decide)), nI_clamp (show i < 2 ^ 31 by omega), ↓reduceIte]
    rw [nI_1]
    have := ih (i + 1) n (by omega) (by omega)
    rw [← cpy_up i mw m] at this
    rw [← cpy_up i (fun k => vp_nar .boolean (aw k)) a] at this
    exact this
theorem l225_s {v_names_225f : Int32} {v_blocks_225f : Int32} {v_nodeMany_225f : Int32} {v_top_225f : Int32} {v_namesWas_225f : Int32} {v_blocksWas_225f : Int32} {v_nodeManyWas_225f : Int32} {v_topWas_225f : Int32} {v_nameCodeWas_225f : Nat → Int32} {v_nameCode_225f : Nat → Int32} {v_nameBlockWas_225f : Nat → Int32} {v_nameBlock_225f : Nat → Int32} {v_blockManyWas_225f : Nat → Int32} {v_blockMany_225f : Nat → Int32} {v_blockAllWas_225f : Nat → Int32} {v_blockAll_225f : Nat → Int32} {K : Int32 → (Nat → Int32) → (Nat → Int32) → (Nat → Int32) → (Nat → Int32) → (Nat → Int32) → (Nat → Int32) → Option (Int32 × Int32 × Int32 × Int32 × Int32 × Int32 × Int32 × Int32 × (Nat → Int32) × (Nat → Int32) × (Nat → Int32) × (Nat → Int32) × (Nat → Int32) × (Nat → Int32) × (Nat → Int32) × (Nat → Int32) × (Nat → Int32) × (Nat → Int32) × (Nat → Int32) × (Nat → Int32) × (Nat → Int32) × (Nat → Int32))} (kw k : Nat → Int32) (lw l : Nat → Int32) (rw r : Nat → Int32) : ∀ (j i n : Nat), i + j = 161 → j < n →
    lp_X12_lays_225 1 v_names_225f v_blocks_225f v_nodeMany_225f v_top_225f v_namesWas_225f v_blocksWas_225f v_nodeManyWas_225f v_topWas_225f v_nameCodeWas_225f v_nameCode_225f v_nameBlockWas_225f v_nameBlock_225f v_blockManyWas_225f v_blockMany_225f v_blockAllWas_225f v_blockAll_225f n (nI i) (cpy i k kw) k (cpy i l lw) l (cpy i r rw) r K = K (nI 161) (cpy 161 k kw) k (cpy 161 l lw) l (cpy 161 r rw) r := by
  intro j
  induction j with
  | zero =>
    intro i n h1 h2
    obtain rfl : i = 161 := by omega
    obtain ⟨n, rfl⟩ : ∃ x, n = x + 1 := ⟨n - 1, by omega⟩
    rw [lp_X12_lays_225, if_pos (show (161 : Int32) ≤ nI 161 from nI_le (a := 161) (b := 161) (by omega) (by omega))]
  | succ j ih =>
    intro i n h1 h2
    obtain ⟨n, rfl⟩ : ∃ x, n = x + 1 := ⟨n - 1, by omega⟩
    rw [lp_X12_lays_225, if_neg (ge_lit (k := 161) (c := 161) rfl (by omega) (by omega))]
    unfold jn
    dsimp only
    simp only [if_pos (ix_t (show i < 161 by omega) (show 161 < 2 ^ 31 by decide)), nI_clamp (show i < 2 ^ 31 by omega)]
    rw [if_neg (c := (1 : Int32) = 0) (by decide), if_neg (c := (1 : Int32) = 0) (by decide), if_neg (c := (1 : Int32) = 0) (by decide), nI_1]
    have := ih (i + 1) n (by omega) (by omega)
    rw [← cpy_up i k kw] at this
    rw [← cpy_up i l lw] at this
    rw [← cpy_up i r rw] at this
    exact this
theorem l225_r {v_names_225f : Int32} {v_blocks_225f : Int32} {v_nodeMany_225f : Int32} {v_top_225f : Int32} {v_namesWas_225f : Int32} {v_blocksWas_225f : Int32} {v_nodeManyWas_225f : Int32} {v_topWas_225f : Int32} {v_nameCodeWas_225f : Nat → Int32} {v_nameCode_225f : Nat → Int32} {v_nameBlockWas_225f : Nat → Int32} {v_nameBlock_225f : Nat → Int32} {v_blockManyWas_225f : Nat → Int32} {v_blockMany_225f : Nat → Int32} {v_blockAllWas_225f : Nat → Int32} {v_blockAll_225f : Nat → Int32} {K : Int32 → (Nat → Int32) → (Nat → Int32) → (Nat → Int32) → (Nat → Int32) → (Nat → Int32) → (Nat → Int32) → Option (Int32 × Int32 × Int32 × Int32 × Int32 × Int32 × Int32 × Int32 × (Nat → Int32) × (Nat → Int32) × (Nat → Int32) × (Nat → Int32) × (Nat → Int32) × (Nat → Int32) × (Nat → Int32) × (Nat → Int32) × (Nat → Int32) × (Nat → Int32) × (Nat → Int32) × (Nat → Int32) × (Nat → Int32) × (Nat → Int32))} (kw k : Nat → Int32) (lw l : Nat → Int32) (rw r : Nat → Int32) : ∀ (j i n : Nat), i + j = 161 → j < n →
    lp_X12_lays_225 0 v_names_225f v_blocks_225f v_nodeMany_225f v_top_225f v_namesWas_225f v_blocksWas_225f v_nodeManyWas_225f v_topWas_225f v_nameCodeWas_225f v_nameCode_225f v_nameBlockWas_225f v_nameBlock_225f v_blockManyWas_225f v_blockMany_225f v_blockAllWas_225f v_blockAll_225f n (nI i) kw (cpy i kw k) lw (cpy i lw l) rw (cpy i rw r) K = K (nI 161) kw (cpy 161 kw k) lw (cpy 161 lw l) rw (cpy 161 rw r) := by
  intro j
  induction j with
  | zero =>
    intro i n h1 h2
    obtain rfl : i = 161 := by omega
    obtain ⟨n, rfl⟩ : ∃ x, n = x + 1 := ⟨n - 1, by omega⟩
    rw [lp_X12_lays_225, if_pos (show (161 : Int32) ≤ nI 161 from nI_le (a := 161) (b := 161) (by omega) (by omega))]
  | succ j ih =>
    intro i n h1 h2
    obtain ⟨n, rfl⟩ : ∃ x, n = x + 1 := ⟨n - 1, by omega⟩
    rw [lp_X12_lays_225, if_neg (ge_lit (k := 161) (c := 161) rfl (by omega) (by omega))]
    unfold jn
    dsimp only
    simp only [if_pos (ix_t (show i < 161 by omega) (show 161 < 2 ^ 31 by decide)), nI_clamp (show i < 2 ^ 31 by omega), ↓reduceIte]
    rw [nI_1]
    have := ih (i + 1) n (by omega) (by omega)
    rw [← cpy_up i kw k] at this
    rw [← cpy_up i lw l] at this
    rw [← cpy_up i rw r] at this
    exact this
theorem lays_s (nm bl nd tp nmW blW ndW tpW : Int32) (ncW nc nbW nb bmW bm baW ba kW k lW l rW r : Nat → Int32) : f_X12_lays nm bl nd tp nmW blW ndW tpW ncW nc nbW nb bmW bm baW ba kW k lW l rW r 1 = some (nm, bl, nd, tp, nm, bl, nd, tp, cpy 12 nc ncW, nc, cpy 12 nb nbW, nb, cpy 6 bm bmW, bm, cpy 6 (fun k => vp_nar .boolean (ba k)) baW, ba, cpy 161 k kW, k, cpy 161 l lW, l, cpy 161 r rW, r) := by
  have h1 : ∀ K, lp_X12_lays_73 1 nm bl nd tp nm bl nd tp bmW bm baW ba kW k lW l rW r 5000 0 ncW nc nbW nb K = K (nI 12) (cpy 12 nc ncW) nc (cpy 12 nb nbW) nb := by
    intro K
    have := l73_s (v_names_73f := nm) (v_blocks_73f := bl) (v_nodeMany_73f := nd) (v_top_73f := tp) (v_namesWas_73f := nm) (v_blocksWas_73f := bl) (v_nodeManyWas_73f := nd) (v_topWas_73f := tp) (K := K) (v_blockManyWas_73f := bmW) (v_blockMany_73f := bm) (v_blockAllWas_73f := baW) (v_blockAll_73f := ba) (v_kindWas_73f := kW) (v_kind_73f := k) (v_leftWas_73f := lW) (v_left_73f := l) (v_rightWas_73f := rW) (v_right_73f := r) ncW nc nbW nb 12 0 5000 (by omega) (by omega)
    rw [cpy_0, cpy_0] at this
    exact this
  have h2 : ∀ (q1 q2 q3 q4 : Nat → Int32) K, lp_X12_lays_149 1 nm bl nd tp nm bl nd tp q1 q2 q3 q4 kW k lW l rW r 5000 0 bmW bm baW ba K = K (nI 6) (cpy 6 bm bmW) bm (cpy 6 (fun k => vp_nar .boolean (ba k)) baW) ba := by
    intro q1 q2 q3 q4 K
    have := l149_s (v_names_149f := nm) (v_blocks_149f := bl) (v_nodeMany_149f := nd) (v_top_149f := tp) (v_namesWas_149f := nm) (v_blocksWas_149f := bl) (v_nodeManyWas_149f := nd) (v_topWas_149f := tp) (K := K) (v_nameCodeWas_149f := q1) (v_nameCode_149f := q2) (v_nameBlockWas_149f := q3) (v_nameBlock_149f := q4) (v_kindWas_149f := kW) (v_kind_149f := k) (v_leftWas_149f := lW) (v_left_149f := l) (v_rightWas_149f := rW) (v_right_149f := r) bmW bm baW ba 6 0 5000 (by omega) (by omega)
    rw [cpy_0, cpy_0] at this
    exact this
  have h3 : ∀ (q1 q2 q3 q4 q5 q6 q7 q8 : Nat → Int32) K, lp_X12_lays_225 1 nm bl nd tp nm bl nd tp q1 q2 q3 q4 q5 q6 q7 q8 5000 0 kW k lW l rW r K = K (nI 161) (cpy 161 k kW) k (cpy 161 l lW) l (cpy 161 r rW) r := by
    intro q1 q2 q3 q4 q5 q6 q7 q8 K
    have := l225_s (v_names_225f := nm) (v_blocks_225f := bl) (v_nodeMany_225f := nd) (v_top_225f := tp) (v_namesWas_225f := nm) (v_blocksWas_225f := bl) (v_nodeManyWas_225f := nd) (v_topWas_225f := tp) (K := K) (v_nameCodeWas_225f := q1) (v_nameCode_225f := q2) (v_nameBlockWas_225f := q3) (v_nameBlock_225f := q4) (v_blockManyWas_225f := q5) (v_blockMany_225f := q6) (v_blockAllWas_225f := q7) (v_blockAll_225f := q8) kW k lW l rW r 161 0 5000 (by omega) (by omega)
    rw [cpy_0, cpy_0, cpy_0] at this
    exact this
  unfold f_X12_lays
  rw [if_neg (c := (1 : Int32) = 0) (by decide), h1, h2, h3]
theorem lays_r (nm bl nd tp nmW blW ndW tpW : Int32) (ncW nc nbW nb bmW bm baW ba kW k lW l rW r : Nat → Int32) : f_X12_lays nm bl nd tp nmW blW ndW tpW ncW nc nbW nb bmW bm baW ba kW k lW l rW r 0 = some (nmW, blW, ndW, tpW, nmW, blW, ndW, tpW, ncW, cpy 12 ncW nc, nbW, cpy 12 nbW nb, bmW, cpy 6 bmW bm, baW, cpy 6 (fun k => vp_nar .boolean (baW k)) ba, kW, cpy 161 kW k, lW, cpy 161 lW l, rW, cpy 161 rW r) := by
  have h1 : ∀ K, lp_X12_lays_73 0 nmW blW ndW tpW nmW blW ndW tpW bmW bm baW ba kW k lW l rW r 5000 0 ncW nc nbW nb K = K (nI 12) ncW (cpy 12 ncW nc) nbW (cpy 12 nbW nb) := by
    intro K
    have := l73_r (v_names_73f := nmW) (v_blocks_73f := blW) (v_nodeMany_73f := ndW) (v_top_73f := tpW) (v_namesWas_73f := nmW) (v_blocksWas_73f := blW) (v_nodeManyWas_73f := ndW) (v_topWas_73f := tpW) (K := K) (v_blockManyWas_73f := bmW) (v_blockMany_73f := bm) (v_blockAllWas_73f := baW) (v_blockAll_73f := ba) (v_kindWas_73f := kW) (v_kind_73f := k) (v_leftWas_73f := lW) (v_left_73f := l) (v_rightWas_73f := rW) (v_right_73f := r) ncW nc nbW nb 12 0 5000 (by omega) (by omega)
    rw [cpy_0, cpy_0] at this
    exact this
  have h2 : ∀ (q1 q2 q3 q4 : Nat → Int32) K, lp_X12_lays_149 0 nmW blW ndW tpW nmW blW ndW tpW q1 q2 q3 q4 kW k lW l rW r 5000 0 bmW bm baW ba K = K (nI 6) bmW (cpy 6 bmW bm) baW (cpy 6 (fun k => vp_nar .boolean (baW k)) ba) := by
    intro q1 q2 q3 q4 K
    have := l149_r (v_names_149f := nmW) (v_blocks_149f := blW) (v_nodeMany_149f := ndW) (v_top_149f := tpW) (v_namesWas_149f := nmW) (v_blocksWas_149f := blW) (v_nodeManyWas_149f := ndW) (v_topWas_149f := tpW) (K := K) (v_nameCodeWas_149f := q1) (v_nameCode_149f := q2) (v_nameBlockWas_149f := q3) (v_nameBlock_149f := q4) (v_kindWas_149f := kW) (v_kind_149f := k) (v_leftWas_149f := lW) (v_left_149f := l) (v_rightWas_149f := rW) (v_right_149f := r) bmW bm baW ba 6 0 5000 (by omega) (by omega)
    rw [cpy_0, cpy_0] at this
    exact this
  have h3 : ∀ (q1 q2 q3 q4 q5 q6 q7 q8 : Nat → Int32) K, lp_X12_lays_225 0 nmW blW ndW tpW nmW blW ndW tpW q1 q2 q3 q4 q5 q6 q7 q8 5000 0 kW k lW l rW r K = K (nI 161) kW (cpy 161 kW k) lW (cpy 161 lW l) rW (cpy 161 rW r) := by
    intro q1 q2 q3 q4 q5 q6 q7 q8 K
    have := l225_r (v_names_225f := nmW) (v_blocks_225f := blW) (v_nodeMany_225f := ndW) (v_top_225f := tpW) (v_namesWas_225f := nmW) (v_blocksWas_225f := blW) (v_nodeManyWas_225f := ndW) (v_topWas_225f := tpW) (K := K) (v_nameCodeWas_225f := q1) (v_nameCode_225f := q2) (v_nameBlockWas_225f := q3) (v_nameBlock_225f := q4) (v_blockManyWas_225f := q5) (v_blockMany_225f := q6) (v_blockAllWas_225f := q7) (v_blockAll_225f := q8) kW k lW l rW r 161 0 5000 (by omega) (by omega)
    rw [cpy_0, cpy_0, cpy_0] at this
    exact this
  unfold f_X12_lays
  rw [if_pos (c := (0 : Int32) = 0) rfl, h1, h2, h3]
theorem text_go {m : Nat} (hm : m ≤ 600) {v_taped_16f : Int32} {v_size_16f : Int32} {v_token_16f : Int32} {v_begin_16f : Int32} {v_end_16f : Int32} {v_tokens_16f : Int32} {v_code_16f : Int32} {v_faultKind_16f : Int32} {v_faultPlace_16f : Int32} {v_names_16f : Int32} {v_blocks_16f : Int32} {v_nodeMany_16f : Int32} {v_top_16f : Int32} {v_namesWas_16f : Int32} {v_blocksWas_16f : Int32} {v_nodeManyWas_16f : Int32} {v_topWas_16f : Int32} {v_waits_16f : Int32} {v_dones_16f : Int32} {v_opened_16f : Int32} {v_played_16f : Int32} {v_depth_16f : Int32} {v_prefix_16f : Int32} {v_tape_16f : Nat → Int32} {v_nameCodeWas_16f : Nat → Int32} {v_nameCode_16f : Nat → Int32} {v_nameBlockWas_16f : Nat → Int32} {v_nameBlock_16f : Nat → Int32} {v_blockManyWas_16f : Nat → Int32} {v_blockMany_16f : Nat → Int32} {v_blockAllWas_16f : Nat → Int32} {v_blockAll_16f : Nat → Int32} {v_kindWas_16f : Nat → Int32} {v_kind_16f : Nat → Int32} {v_leftWas_16f : Nat → Int32} {v_left_16f : Nat → Int32} {v_rightWas_16f : Nat → Int32} {v_right_16f : Nat → Int32} {v_wait_16f : Nat → Int32} {v_done_16f : Nat → Int32} {v_now_16f : Nat → Int32} {v_leaf_16f : Nat → Int32} {v_fold_16f : Nat → Int32} {v_kept_16f : Nat → Int32} {K : (Int32 → (Nat → Int32) → Option (Int32 × Int32 × Int32 × Int32 × Int32 × Int32 × Int32 × Int32 × Int32 × Int32 × Int32 × Int32 × Int32 × Int32 × Int32 × Int32 × Int32 × Int32 × Int32 × Int32 × Int32 × Int32 × Int32 × Int32 × (Nat → Int32) × (Nat → Int32) × (Nat → Int32) × (Nat → Int32) × (Nat → Int32) × (Nat → Int32) × (Nat → Int32) × (Nat → Int32) × (Nat → Int32) × (Nat → Int32) × (Nat → Int32) × (Nat → Int32) × (Nat → Int32) × (Nat → Int32) × (Nat → Int32) × (Nat → Int32) × (Nat → Int32) × (Nat → Int32) × (Nat → Int32) × (Nat → Int32) × (Nat → Int32)))} {text : Nat → Int32} : ∀ (j i n : Nat), i + j = m → j < n →
    lp_X12_read_16 (nI m) v_taped_16f v_size_16f v_token_16f v_begin_16f v_end_16f v_tokens_16f v_code_16f v_faultKind_16f v_faultPlace_16f v_names_16f v_blocks_16f v_nodeMany_16f v_top_16f v_namesWas_16f v_blocksWas_16f v_nodeManyWas_16f v_topWas_16f v_waits_16f v_dones_16f v_opened_16f v_played_16f v_depth_16f v_prefix_16f v_tape_16f v_nameCodeWas_16f v_nameCode_16f v_nameBlockWas_16f v_nameBlock_16f v_blockManyWas_16f v_blockMany_16f v_blockAllWas_16f v_blockAll_16f v_kindWas_16f v_kind_16f v_leftWas_16f v_left_16f v_rightWas_16f v_right_16f v_wait_16f v_done_16f v_now_16f v_leaf_16f v_fold_16f v_kept_16f n (nI i) (cpy i (fun k => vp_nar .byte (v_tape_16f k)) text) K = K (nI m) (cpy m (fun k => vp_nar .byte (v_tape_16f k)) text) := by
  intro j
  induction j with
  | zero =>
    intro i n h1 h2
    obtain rfl : i = m := by omega
    obtain ⟨n, rfl⟩ : ∃ x, n = x + 1 := ⟨n - 1, by omega⟩
    rw [lp_X12_read_16, if_pos (nI_le (by omega) (by omega))]
  | succ j ih =>
    intro i n h1 h2
    obtain ⟨n, rfl⟩ : ∃ x, n = x + 1 := ⟨n - 1, by omega⟩
    rw [lp_X12_read_16, if_neg (nI_ge (by omega) (by omega)), if_pos (ix_t (by omega) (by decide)), if_pos (ix_t (by omega) (by decide)), nI_clamp (by omega), nI_1]
    have := ih (i + 1) n (by omega) (by omega)
    rw [← cpy_up i (fun k => vp_nar .byte (v_tape_16f k)) text] at this
    exact this
theorem text_ok {m : Nat} (hm : m ≤ 600) {v_taped_16f : Int32} {v_size_16f : Int32} {v_token_16f : Int32} {v_begin_16f : Int32} {v_end_16f : Int32} {v_tokens_16f : Int32} {v_code_16f : Int32} {v_faultKind_16f : Int32} {v_faultPlace_16f : Int32} {v_names_16f : Int32} {v_blocks_16f : Int32} {v_nodeMany_16f : Int32} {v_top_16f : Int32} {v_namesWas_16f : Int32} {v_blocksWas_16f : Int32} {v_nodeManyWas_16f : Int32} {v_topWas_16f : Int32} {v_waits_16f : Int32} {v_dones_16f : Int32} {v_opened_16f : Int32} {v_played_16f : Int32} {v_depth_16f : Int32} {v_prefix_16f : Int32} {v_tape_16f : Nat → Int32} {v_nameCodeWas_16f : Nat → Int32} {v_nameCode_16f : Nat → Int32} {v_nameBlockWas_16f : Nat → Int32} {v_nameBlock_16f : Nat → Int32} {v_blockManyWas_16f : Nat → Int32} {v_blockMany_16f : Nat → Int32} {v_blockAllWas_16f : Nat → Int32} {v_blockAll_16f : Nat → Int32} {v_kindWas_16f : Nat → Int32} {v_kind_16f : Nat → Int32} {v_leftWas_16f : Nat → Int32} {v_left_16f : Nat → Int32} {v_rightWas_16f : Nat → Int32} {v_right_16f : Nat → Int32} {v_wait_16f : Nat → Int32} {v_done_16f : Nat → Int32} {v_now_16f : Nat → Int32} {v_leaf_16f : Nat → Int32} {v_fold_16f : Nat → Int32} {v_kept_16f : Nat → Int32} {K : (Int32 → (Nat → Int32) → Option (Int32 × Int32 × Int32 × Int32 × Int32 × Int32 × Int32 × Int32 × Int32 × Int32 × Int32 × Int32 × Int32 × Int32 × Int32 × Int32 × Int32 × Int32 × Int32 × Int32 × Int32 × Int32 × Int32 × Int32 × (Nat → Int32) × (Nat → Int32) × (Nat → Int32) × (Nat → Int32) × (Nat → Int32) × (Nat → Int32) × (Nat → Int32) × (Nat → Int32) × (Nat → Int32) × (Nat → Int32) × (Nat → Int32) × (Nat → Int32) × (Nat → Int32) × (Nat → Int32) × (Nat → Int32) × (Nat → Int32) × (Nat → Int32) × (Nat → Int32) × (Nat → Int32) × (Nat → Int32) × (Nat → Int32)))} {text : Nat → Int32} :
    lp_X12_read_16 (nI m) v_taped_16f v_size_16f v_token_16f v_begin_16f v_end_16f v_tokens_16f v_code_16f v_faultKind_16f v_faultPlace_16f v_names_16f v_blocks_16f v_nodeMany_16f v_top_16f v_namesWas_16f v_blocksWas_16f v_nodeManyWas_16f v_topWas_16f v_waits_16f v_dones_16f v_opened_16f v_played_16f v_depth_16f v_prefix_16f v_tape_16f v_nameCodeWas_16f v_nameCode_16f v_nameBlockWas_16f v_nameBlock_16f v_blockManyWas_16f v_blockMany_16f v_blockAllWas_16f v_blockAll_16f v_kindWas_16f v_kind_16f v_leftWas_16f v_left_16f v_rightWas_16f v_right_16f v_wait_16f v_done_16f v_now_16f v_leaf_16f v_fold_16f v_kept_16f 5000 0 text K = K (nI m) (cpy m (fun k => vp_nar .byte (v_tape_16f k)) text) := by
  have := text_go hm (K := K) (text := text) (v_taped_16f := v_taped_16f) (v_size_16f := v_size_16f) (v_token_16f := v_token_16f) (v_begin_16f := v_begin_16f) (v_end_16f := v_end_16f) (v_tokens_16f := v_tokens_16f) (v_code_16f := v_code_16f) (v_faultKind_16f := v_faultKind_16f) (v_faultPlace_16f := v_faultPlace_16f) (v_names_16f := v_names_16f) (v_blocks_16f := v_blocks_16f) (v_nodeMany_16f := v_nodeMany_16f) (v_top_16f := v_top_16f) (v_namesWas_16f := v_namesWas_16f) (v_blocksWas_16f := v_blocksWas_16f) (v_nodeManyWas_16f := v_nodeManyWas_16f) (v_topWas_16f := v_topWas_16f) (v_waits_16f := v_waits_16f) (v_dones_16f := v_dones_16f) (v_opened_16f := v_opened_16f) (v_played_16f := v_played_16f) (v_depth_16f := v_depth_16f) (v_prefix_16f := v_prefix_16f) (v_tape_16f := v_tape_16f) (v_nameCodeWas_16f := v_nameCodeWas_16f) (v_nameCode_16f := v_nameCode_16f) (v_nameBlockWas_16f := v_nameBlockWas_16f) (v_nameBlock_16f := v_nameBlock_16f) (v_blockManyWas_16f := v_blockManyWas_16f) (v_blockMany_16f := v_blockMany_16f) (v_blockAllWas_16f := v_blockAllWas_16f) (v_blockAll_16f := v_blockAll_16f) (v_kindWas_16f := v_kindWas_16f) (v_kind_16f := v_kind_16f) (v_leftWas_16f := v_leftWas_16f) (v_left_16f := v_left_16f) (v_rightWas_16f := v_rightWas_16f) (v_right_16f := v_right_16f) (v_wait_16f := v_wait_16f) (v_done_16f := v_done_16f) (v_now_16f := v_now_16f) (v_leaf_16f := v_leaf_16f) (v_fold_16f := v_fold_16f) (v_kept_16f := v_kept_16f) m 0 5000 (by omega) (by omega)
  rw [cpy_0] at this
  exact this
set_option maxRecDepth 100000 in
theorem head_ok {n : Nat} {tb tx : Nat → Int32} (hn : n ≤ 600) (htx : ∀ k, k < n → tb k = tx k &&& 255) (nm0 tp w0 d0 o0 : Int32) (wait done kind left right : Nat → Int32) (st0 en0 nx0 st kk cd wd ct nm ln sc wt od os pp tok bg code mn mb : Int32) (ncs nbs szs ows ops steps levels firsts lasts op cl places sym mk mnb mm ma : Nat → Int32) :
    ∃ (R : CT) (H : HT) (t b p c2 : Int32), f_X6_readText st0 en0 nx0 st kk cd wd ct nm ln sc wt od os pp tb ncs nbs szs ows ops steps levels firsts lasts op cl places sym (nI n) = some R ∧ f_X12_next (nI n) tok bg 0 0 code tx = some (t, b, p, 0 + 1, c2) ∧ f_X12_header (nI n) t b p (0 + 1) c2 0 (-1) mn mb ma tx mk mnb mm = some H ∧ HPost n tx nm0 tp w0 d0 o0 wait done kind left right R H := by
  obtain ⟨t, b, p, c1, c2, h1, h2, h3, h4, h5, h6⟩ := adv_ok hn (Nat.zero_le n) htx st kk cd tok bg 0 code
  have hH : HB 0 0 0 (fun _ => 0) (fun _ => 0) (fun _ => false) true ows szs ncs nbs mk mnb mm ma := ⟨by omega, by omega, by omega, fun b hb => absurd hb (by omega), fun b hb => absurd hb (by omega), rfl⟩
  have key : ∃ R H, lp_X6_readText_49 (nI n) (nI n) tb 5000 (nI 0) 0 (nI 0) st kk cd (nI 0) (nI 0) (nI 0) (nI 0) (nI 0) (nI 0) (nI 0) (nI 0) (nI 0) ncs nbs szs ows ops steps levels firsts lasts op cl places sym (KX (nI n)) = some R ∧ f_X12_header (nI n) (nI t) (nI b) (nI p) (0 + 1) c2 0 (-1) mn mb ma tx mk mnb mm = some H ∧ HPost n tx nm0 tp w0 d0 o0 wait done kind left right R H := by
    have hk := kd_lt h1
    unfold f_X12_header
    by_cases h58 : t = 58
    · subst h58
      rw [if_pos (c := nI 58 = 58) rfl, lp_X12_header_27, if_pos (c := (0 : Int32) = 0) rfl]
      exact hcolon (y1 := nI n) (x1 := 0) (x2 := 0) hn htx (d := 160) (r := 0) (by omega) (Or.inl rfl) hH h2 h3 h4 (by omega)
    · rw [if_neg (nI_neL (c := 58) (by omega) (by omega) h58)]
      exact (head_all (y1 := nI n) hn htx 160).1 0 0 0 0 (fun _ => 0) (fun _ => 0) (fun _ => false) 0 t b p 5000 5000 (nI 0) st kk cd c1 c2 ows szs ncs nbs mk mnb mm ma ops steps levels firsts lasts op cl places sym (by omega) (Or.inl ⟨rfl, h58⟩) hH h1 h2 h3 h4 (by omega) (by omega)
  obtain ⟨R, H, k1, k2, k3⟩ := key
  exact ⟨R, H, nI t, nI b, nI p, c2, k1, h5, k2, k3⟩
