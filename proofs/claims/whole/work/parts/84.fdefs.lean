/-! the formula being built: two stacks as lists, the nodes as a table -/
abbrev Ent : Type := Nat × Nat × Nat × Nat × Bool × List Nat × (Nat → Int64)
abbrev TT : Type := Nat → Nat × Nat × Nat × List Nat × (Nat → Int64)
def eJ (x : Ent) : Nat := x.1
def eF (x : Ent) : Nat := x.2.1
def eL (x : Ent) : Nat := x.2.2.1
def eV (x : Ent) : Nat := x.2.2.2.1
def eC (x : Ent) : Bool := x.2.2.2.2.1
def eX (x : Ent) : List Nat := x.2.2.2.2.2.1
def eU (x : Ent) : Nat → Int64 := x.2.2.2.2.2.2
def up {α : Type} (f : Nat → α) (k : Nat) (x : α) : Nat → α := fun j => if j = k then x else f j
theorem up_same {α : Type} {f : Nat → α} {k : Nat} {x : α} : up f k x k = x := if_pos rfl
theorem up_ne {α : Type} {f : Nat → α} {k j : Nat} {x : α} (h : j ≠ k) : up f k x j = f j := if_neg h
def stk {α : Type} (R : Nat → α → Prop) : List α → Prop
  | [] => True
  | a :: l => R l.length a ∧ stk R l
theorem stk_mono {α : Type} {R R' : Nat → α → Prop} : ∀ {l : List α}, stk R l → (∀ i a, i < l.length → R i a → R' i a) → stk R' l
  | [], _, _ => trivial
  | a :: l, h, m => ⟨m l.length a (Nat.lt_succ_self _) h.1, stk_mono h.2 (fun i b hi q => m i b (Nat.lt_succ_of_lt hi) q)⟩
def clev (s : Nat) : Nat := if s = 33 then 6 else if s = 38 then 5 else if s = 61 then 1 else if s = 62 then 2 else if s = 94 then 4 else if s = 124 then 3 else 0
def klev (k : Nat) : Nat := if k = 38 then 5 else if k = 61 then 1 else if k = 62 then 2 else if k = 94 then 4 else if k = 124 then 3 else 6
def isB (s : Nat) : Prop := s = 61 ∨ s = 62 ∨ s = 124 ∨ s = 94 ∨ s = 38
theorem isB_lev {s : Nat} (h : isB s) : clev s = klev s ∧ 1 ≤ clev s ∧ clev s ≤ 5 ∧ s ≠ 33 ∧ s ≠ 40 ∧ s < 256 ∧ s ≠ 48 ∧ s ≠ 49 ∧ s ≠ 110 := by
  rcases h with rfl | rfl | rfl | rfl | rfl <;> decide
theorem lev_x {s : Nat} (hs : s < 2 ^ 31) : f_X11_levelOf (nI s) = some (nI (clev s)) := by
  have e : ∀ k : Nat, k < 2 ^ 31 → (nI s = nI k) = (s = k) := fun k hk => propext (nI_eq hs hk)
  unfold f_X11_levelOf clev
  rw [show (33 : Int32) = nI 33 from rfl, show (38 : Int32) = nI 38 from rfl, show (61 : Int32) = nI 61 from rfl, show (62 : Int32) = nI 62 from rfl, show (94 : Int32) = nI 94 from rfl, show (124 : Int32) = nI 124 from rfl]
  simp only [e 33 (by omega), e 38 (by omega), e 61 (by omega), e 62 (by omega), e 94 (by omega), e 124 (by omega)]
  split
  · rfl
  split
  · rfl
  split
  · rfl
  split
  · rfl
  split
  · rfl
  split
  · rfl
  · rfl
theorem lev_m {s : Nat} (hs : s < 2 ^ 31) : f_X12_levelOf (nI s) = some (nI (klev s)) := by
  have e : ∀ k : Nat, k < 2 ^ 31 → (nI s = nI k) = (s = k) := fun k hk => propext (nI_eq hs hk)
  unfold f_X12_levelOf klev
  rw [show (38 : Int32) = nI 38 from rfl, show (61 : Int32) = nI 61 from rfl, show (62 : Int32) = nI 62 from rfl, show (94 : Int32) = nI 94 from rfl, show (124 : Int32) = nI 124 from rfl]
  simp only [e 38 (by omega), e 61 (by omega), e 62 (by omega), e 94 (by omega), e 124 (by omega)]
  split
  · rfl
  split
  · rfl
  split
  · rfl
  split
  · rfl
  split
  · rfl
  · rfl
def reqL (s : Nat) : Nat := if s = 62 then 3 else clev s
def reqR (s : Nat) : Nat := if s = 62 then 2 else clev s + 1
theorem reqR_le {s : Nat} (h : isB s) : reqR s ≤ 6 := by rcases h with rfl | rfl | rfl | rfl | rfl <;> decide
def rq : List (Nat × Nat) → Nat
  | [] => 0
  | y :: _ => if y.1 = 40 then 0 else if y.1 = 33 then 6 else reqR y.1
def wr (b : Bool) (x : List Nat) : List Nat := if b then 40 :: (x ++ [41]) else x
def cmb (s : Nat) (x y : Int64) : Int64 := if s = 38 then x &&& y else if s = 62 then (x ^^^ (-1)) ||| y else if s = 94 then x ^^^ y else if s = 124 then x ||| y else (x ^^^ y) ^^^ (-1)
def mkN (M p : Nat) (a : Ent) : Ent := (M, p, eL a, 6, false, 33 :: wr (decide (eV a < 6)) (eX a), fun w => eU a w ^^^ (-1))
def mkB (M s : Nat) (b a : Ent) : Ent := (M, eF b, eL a, clev s, false, wr (decide (eV b < reqL s)) (eX b) ++ (s :: wr (decide (eV a < reqR s)) (eX a)), fun w => cmb s (eU b w) (eU a w))
def red (L : Nat) : List (Nat × Nat) → List Ent → Nat → TT → List (Nat × Nat) × List Ent × Nat × TT
  | [], D, M, T => ([], D, M, T)
  | y :: W, D, M, T => if clev y.1 < L then (y :: W, D, M, T) else
    match D with
    | [] => (y :: W, [], M, T)
    | a :: D1 => if y.1 = 33 then red L W (mkN M y.2 a :: D1) (M + 1) (up T M (33, eJ a, 0, eX (mkN M y.2 a), eU (mkN M y.2 a))) else
      match D1 with
      | [] => (y :: W, a :: [], M, T)
      | b :: D2 => red L W (mkB M y.1 b a :: D2) (M + 1) (up T M (y.1, eJ b, eJ a, eX (mkB M y.1 b a), eU (mkB M y.1 b a)))
def layA : List (Nat × Nat) → List Ent → Nat → Prop
  | [], D, e => D = [] ∧ e = 0
  | y :: W, D, e => (y.1 = 40 ∧ layA W D e) ∨ (y.1 = 33 ∧ e = y.2 + 1 ∧ layA W D y.2) ∨ (isB y.1 ∧ e = y.2 + 1 ∧ rq W ≤ clev y.1 ∧ ∃ a D', D = a :: D' ∧ y.2 = eL a + 1 ∧ eF a ≤ eL a ∧ (eC a = true ∨ reqL y.1 ≤ eV a) ∧ layA W D' (eF a))
def layB (W : List (Nat × Nat)) (D : List Ent) (e : Nat) : Prop := ∃ a D', D = a :: D' ∧ e = eL a + 1 ∧ eF a ≤ eL a ∧ (eC a = true ∨ rq W ≤ eV a) ∧ layA W D' (eF a)
theorem rq_le6 {W : List (Nat × Nat)} {D : List Ent} {e : Nat} (h : layA W D e) : rq W ≤ 6 := by
  cases W with
  | nil => exact Nat.zero_le _
  | cons y W =>
    show (if y.1 = 40 then 0 else if y.1 = 33 then 6 else reqR y.1) ≤ 6
    rcases h with ⟨h1, -⟩ | ⟨h1, -⟩ | ⟨h1, -⟩
    · rw [if_pos h1]; omega
    · rw [if_neg (by omega), if_pos h1]; omega
    · have := isB_lev h1
      rw [if_neg (by omega), if_neg (by omega)]
      exact reqR_le h1
theorem lay_lt : ∀ {W : List (Nat × Nat)} {D : List Ent} {e : Nat}, layA W D e → (∀ x ∈ D, eF x ≤ eL x ∧ eL x < e) ∧ ∀ y ∈ W, y.1 ≠ 40 → y.2 < e
  | [], D, e, h => by
    obtain ⟨rfl, rfl⟩ := h
    exact ⟨fun x hx => absurd hx List.not_mem_nil, fun y hy => absurd hy List.not_mem_nil⟩
  | y :: W, D, e, h => by
    rcases h with ⟨h1, h2⟩ | ⟨h1, h2, h3⟩ | ⟨h1, h2, h3, a, D', rfl, h4, h5, h6, h7⟩
    · obtain ⟨i1, i2⟩ := lay_lt h2
      refine ⟨i1, fun z hz q => ?_⟩
      rcases List.mem_cons.1 hz with rfl | hz
      · exact absurd h1 q
      · exact i2 z hz q
    · obtain ⟨i1, i2⟩ := lay_lt h3
      refine ⟨fun x hx => ?_, fun z hz q => ?_⟩
      · have := i1 x hx; omega
      · rcases List.mem_cons.1 hz with rfl | hz
        · omega
        · have := i2 z hz q; omega
    · obtain ⟨i1, i2⟩ := lay_lt h7
      refine ⟨fun x hx => ?_, fun z hz q => ?_⟩
      · rcases List.mem_cons.1 hx with rfl | hx
        · omega
        · have := i1 x hx; omega
      · rcases List.mem_cons.1 hz with rfl | hz
        · omega
        · have := i2 z hz q; omega
theorem lay_not {y : Nat × Nat} {W : List (Nat × Nat)} {D : List Ent} {e : Nat} (M : Nat) (hy : y.1 = 33) (h : layB (y :: W) D e) : ∃ a D1, D = a :: D1 ∧ eF a = y.2 + 1 ∧ eF a ≤ eL a ∧ e = eL a + 1 ∧ layA W D1 y.2 ∧ (eC a = true ∨ 6 ≤ eV a) ∧ layB W (mkN M y.2 a :: D1) e := by
  obtain ⟨a, D1, rfl, h1, h2, h3, h4⟩ := h
  rcases h4 with ⟨q, -⟩ | ⟨-, q1, q2⟩ | ⟨q, -⟩
  · omega
  · have h3' : eC a = true ∨ 6 ≤ eV a := by
      have e6 : rq (y :: W) = 6 := by
        show (if y.1 = 40 then 0 else if y.1 = 33 then 6 else reqR y.1) = 6
        rw [if_neg (by omega), if_pos hy]
      rw [e6] at h3; exact h3
    exact ⟨a, D1, rfl, q1, h2, h1, q2, h3', mkN M y.2 a, D1, rfl, h1, (by show y.2 ≤ eL a; omega), Or.inr (rq_le6 q2), q2⟩
  · exact absurd hy (isB_lev q).2.2.2.1
theorem lay_bin {y : Nat × Nat} {W : List (Nat × Nat)} {D : List Ent} {e : Nat} (M : Nat) (hy : isB y.1) (h : layB (y :: W) D e) : ∃ a b D2, D = a :: b :: D2 ∧ eF a = y.2 + 1 ∧ eF a ≤ eL a ∧ e = eL a + 1 ∧ y.2 = eL b + 1 ∧ eF b ≤ eL b ∧ layA W D2 (eF b) ∧ (eC a = true ∨ reqR y.1 ≤ eV a) ∧ (eC b = true ∨ reqL y.1 ≤ eV b) ∧ layB W (mkB M y.1 b a :: D2) e := by
  have hl := isB_lev hy
  obtain ⟨a, D1, rfl, h1, h2, h3, h4⟩ := h
  rcases h4 with ⟨q, -⟩ | ⟨q, -⟩ | ⟨-, q1, q2, b, D2, rfl, q3, q4, q5, q6⟩
  · omega
  · omega
  · have h3' : eC a = true ∨ reqR y.1 ≤ eV a := by
      have e6 : rq (y :: W) = reqR y.1 := by
        show (if y.1 = 40 then 0 else if y.1 = 33 then 6 else reqR y.1) = _
        rw [if_neg (by omega), if_neg (by omega)]
      rw [e6] at h3; exact h3
    exact ⟨a, b, D2, rfl, q1, h2, h1, q3, q4, q6, h3', q5, mkB M y.1 b a, D2, rfl, h1, (by show eF b ≤ eL a; omega), Or.inr q2, q6⟩
/-- a sign that waits is (, ! or an operator -/
theorem lay_sign {y : Nat × Nat} {W : List (Nat × Nat)} {D : List Ent} {e : Nat} (h : layA (y :: W) D e) : y.1 = 40 ∨ y.1 = 33 ∨ isB y.1 := by
  rcases h with ⟨h, -⟩ | ⟨h, -⟩ | ⟨h, -⟩
  · exact Or.inl h
  · exact Or.inr (Or.inl h)
  · exact Or.inr (Or.inr h)
theorem layB_sign {y : Nat × Nat} {W : List (Nat × Nat)} {D : List Ent} {e : Nat} (h : layB (y :: W) D e) : y.1 = 40 ∨ y.1 = 33 ∨ isB y.1 := by
  obtain ⟨a, D1, -, -, -, -, h4⟩ := h
  exact lay_sign h4
/-! the text of a stretch of symbols -/
section SEG
variable (nmb : Nat → List Nat)
def sby (s : Nat) : List Nat := if s < 256 then [s] else nmb (s - 256)
def rnd (op cl sy : Nat → Nat) (i : Nat) : List Nat := List.replicate (op i) 40 ++ (sby nmb (sy i) ++ List.replicate (cl i) 41)
def seg (op cl sy : Nat → Nat) : Nat → Nat → List Nat
  | _, 0 => []
  | f, n + 1 => rnd nmb op cl sy f ++ seg op cl sy (f + 1) n
theorem seg_congr {op cl sy op' cl' sy' : Nat → Nat} : ∀ {n f : Nat}, (∀ i, f ≤ i → i < f + n → op i = op' i ∧ cl i = cl' i ∧ sy i = sy' i) → seg nmb op cl sy f n = seg nmb op' cl' sy' f n
  | 0, _, _ => rfl
  | n + 1, f, h => by
    obtain ⟨h1, h2, h3⟩ := h f (Nat.le_refl _) (by omega)
    show rnd nmb op cl sy f ++ seg nmb op cl sy (f + 1) n = rnd nmb op' cl' sy' f ++ seg nmb op' cl' sy' (f + 1) n
    rw [seg_congr (n := n) (f := f + 1) (fun i q1 q2 => h i (by omega) (by omega))]
    unfold rnd
    rw [h1, h2, h3]
theorem seg_add (op cl sy : Nat → Nat) : ∀ (m n f : Nat), seg nmb op cl sy f (m + n) = seg nmb op cl sy f m ++ seg nmb op cl sy (f + m) n
  | 0, n, f => by rw [Nat.zero_add]; rfl
  | m + 1, n, f => by
    rw [show m + 1 + n = (m + n) + 1 by omega]
    show rnd nmb op cl sy f ++ seg nmb op cl sy (f + 1) (m + n) = (rnd nmb op cl sy f ++ seg nmb op cl sy (f + 1) m) ++ _
    rw [seg_add op cl sy m n (f + 1), List.append_assoc, show f + 1 + m = f + (m + 1) by omega]
theorem seg_one (op cl sy : Nat → Nat) (f : Nat) : seg nmb op cl sy f 1 = rnd nmb op cl sy f := List.append_nil _
theorem seg_open (op cl sy : Nat → Nat) (f n : Nat) : seg nmb (up op f (op f + 1)) cl sy f (n + 1) = 40 :: seg nmb op cl sy f (n + 1) := by
  show rnd nmb (up op f (op f + 1)) cl sy f ++ seg nmb (up op f (op f + 1)) cl sy (f + 1) n = 40 :: (rnd nmb op cl sy f ++ seg nmb op cl sy (f + 1) n)
  rw [seg_congr nmb (op := up op f (op f + 1)) (op' := op) (cl' := cl) (sy' := sy) (n := n) (f := f + 1) (fun i q1 q2 => ⟨up_ne (by omega), rfl, rfl⟩)]
  unfold rnd
  rw [up_same, List.replicate_succ]
  rfl
theorem seg_close (op cl sy : Nat → Nat) (f n : Nat) : seg nmb op (up cl (f + n) (cl (f + n) + 1)) sy f (n + 1) = seg nmb op cl sy f (n + 1) ++ [41] := by
  rw [seg_add, seg_add, seg_one, seg_one, seg_congr nmb (cl := up cl (f + n) (cl (f + n) + 1)) (op' := op) (cl' := cl) (sy' := sy) (n := n) (f := f) (fun i q1 q2 => ⟨rfl, up_ne (by omega), rfl⟩)]
  unfold rnd
  rw [up_same, List.replicate_succ', List.append_assoc, List.append_assoc, List.append_assoc]
theorem seg_wrap (op cl sy : Nat → Nat) (f l : Nat) (h : f ≤ l) : seg nmb (up op f (op f + 1)) (up cl l (cl l + 1)) sy f (l + 1 - f) = wr true (seg nmb op cl sy f (l + 1 - f)) := by
  obtain ⟨n, rfl⟩ : ∃ n, l = f + n := ⟨l - f, by omega⟩
  rw [show f + n + 1 - f = n + 1 by omega, seg_open, seg_close]
  rfl
end SEG
