/-! the formula: both in step -/
theorem find_go {N : Nat} (hN : N ≤ 10) {xk mk : Nat → Int32} (h : ∀ k, k < N → xk k = mk k) (c : Int32) : ∀ (n i : Nat), i ≤ N → N - i < n →
    ∃ r, lp_X0_find_2 c (nI N) xk n (nI i) (fun _ => some (-1)) = some r ∧ lp_X12_find_2 c (nI N) mk n (nI i) (fun _ => some (-1)) = some r ∧ (r = -1 ∨ ∃ j, j < N ∧ r = nI j) := by
  intro n
  induction n with
  | zero => intro i h1 h2; omega
  | succ n ih =>
    intro i h1 h2
    rw [lp_X0_find_2, lp_X12_find_2]
    by_cases hi : i = N
    · subst hi
      rw [if_pos (nI_le (Nat.le_refl _) (by omega)), if_pos (nI_le (Nat.le_refl _) (by omega))]
      exact ⟨-1, rfl, rfl, Or.inl rfl⟩
    · rw [if_neg (nI_ge (by omega) (by omega)), if_neg (nI_ge (by omega) (by omega)), code_ok hN i (by omega), Option.bind_some, if_pos (show i < N by omega), if_pos (ix_t (by omega) (by decide)), nI_clamp (by omega), h i (by omega)]
      by_cases hc : mk i = c
      · rw [if_pos hc, if_pos hc]
        exact ⟨nI i, rfl, rfl, Or.inr ⟨i, by omega, rfl⟩⟩
      · rw [if_neg hc, if_neg hc, nI_1]
        exact ih (i + 1) (by omega) (by omega)
theorem find_ok {N : Nat} (hN : N ≤ 10) {xk mk : Nat → Int32} (h : ∀ k, k < N → xk k = mk k) (c : Int32) : ∃ r, f_X0_find (nI N) xk c = some r ∧ f_X12_find (nI N) mk c = some r ∧ (r = -1 ∨ ∃ j, j < N ∧ r = nI j) :=
  find_go hN h c 5000 0 (by omega) (by omega)

abbrev CT : Type := Int32 × Int32 × Int32 × Int32 × Int32 × Int32 × Int32 × Int32 × Int32 × Int32 × Int32 × Int32 × Int32 × Int32 × Int32 × Int32 × (Nat → Int32) × (Nat → Int32) × (Nat → Int32) × (Nat → Int32) × (Nat → Int32) × (Nat → Int32) × (Nat → Int32) × (Nat → Int32) × (Nat → Int32) × (Nat → Int32) × (Nat → Int32) × (Nat → Int32) × (Nat → Int32)
def KX (en : Int32) : Int32 → Int32 → Int32 → Int32 → Int32 → Int32 → Int32 → Int32 → Int32 → Int32 → Int32 → Int32 → Int32 → Int32 → Int32 → (Nat → Int32) → (Nat → Int32) → (Nat → Int32) → (Nat → Int32) → (Nat → Int32) → (Nat → Int32) → (Nat → Int32) → (Nat → Int32) → (Nat → Int32) → (Nat → Int32) → (Nat → Int32) → (Nat → Int32) → (Nat → Int32) → Option CT := fun _ a1 a2 a3 a4 a5 a6 a7 a8 a9 a10 a11 a12 a13 a14 b1 b2 b3 b4 b5 b6 b7 b8 b9 b10 b11 b12 b13 => some (4, a1, en, a2, a3, a4, a5, a6, a7, a8, a9, a10, a11, a12, a13, a14, b1, b2, b3, b4, b5, b6, b7, b8, b9, b10, b11, b12, b13)
def KM : MK := fun _ tok bg en tks cd fk fp nd ws ds op wait done kind left right => if ix 0 161 then some (true, tok, bg, en, tks, cd, fk, fp, nd, done (0 : Int32).toNatClampNeg, ws, ds, op, wait, done, kind, left, right) else none
section FORM
variable (n N : Nat) (nmb : Nat → List Nat) (tb tx ncs nbs szs ows mnc : Nat → Int32) (y1 wds cnt tp fk fp : Int32)
def FPost (R : CT) (R' : MT) : Prop :=
  (∃ f b : Nat, 1 ≤ f ∧ f ≤ 4 ∧ R.1 = nI f ∧ R.2.2.2.2.1 = nI b ∧ MF R' (nI f) (nI b)) ∨
  (R.1 = 0 ∧ R.2.2.2.2.2.2.2.1 = wds ∧ R.2.2.2.2.2.2.2.2.1 = cnt ∧ R.2.2.2.2.2.2.2.2.2.1 = nI N ∧ R.2.2.2.2.2.2.2.2.2.2.2.2.2.2.2.2.1 = ncs ∧ R.2.2.2.2.2.2.2.2.2.2.2.2.2.2.2.2.2.1 = nbs ∧ R.2.2.2.2.2.2.2.2.2.2.2.2.2.2.2.2.2.2.1 = szs ∧ R.2.2.2.2.2.2.2.2.2.2.2.2.2.2.2.2.2.2.2.1 = ows ∧ R'.1 = true ∧ R'.2.2.2.2.2.2.1 = fk ∧ R'.2.2.2.2.2.2.2.1 = fp ∧
    ∃ (M : Nat) (T : TT) (e k : Nat) (x : Ent), k ≤ 160 ∧ eF x = 0 ∧ e = eL x + 1 ∧ R.2.2.2.2.2.2.2.2.2.2.1 = nI e ∧ R.2.2.2.2.2.2.2.2.2.2.2.1 = nI M ∧ R'.2.2.2.2.2.2.2.2.1 = nI M ∧ R'.2.2.2.2.2.2.2.2.2.1 = nI (eJ x) ∧ TXT nmb [] [x] e (R.2.2.2.2.2.2.2.2.2.2.2.2.2.2.2.2.2.2.2.2.2.2.2.2.2.1) (R.2.2.2.2.2.2.2.2.2.2.2.2.2.2.2.2.2.2.2.2.2.2.2.2.2.2.1) (R.2.2.2.2.2.2.2.2.2.2.2.2.2.2.2.2.2.2.2.2.2.2.2.2.2.2.2.2) ∧ STP N [x] M (R.2.2.2.2.2.2.2.2.2.2.2.2.2.2.2.2.2.2.2.2.2.1) ∧ G N nmb [] [x] M T e k ∧ ∀ j, j < M → (R'.2.2.2.2.2.2.2.2.2.2.2.2.2.2.2.1) j = nI (T j).1 ∧ (R'.2.2.2.2.2.2.2.2.2.2.2.2.2.2.2.2.1) j = nI (T j).2.1 ∧ (R'.2.2.2.2.2.2.2.2.2.2.2.2.2.2.2.2.2) j = nI (T j).2.2.1)
def SX (md : Bool) (W : List (Nat × Nat)) (D : List Ent) (M : Nat) (T : TT) (e k : Nat) : Prop := if md then SA N nmb W D M T e k else SB N nmb W D M T e k
def FQ (d : Nat) : Prop := ∀ (r k : Nat) (md : Bool) (W : List (Nat × Nat)) (D : List Ent) (M : Nat) (T : TT) (e t b p nC nM : Nat) (nx st kk cd c1 c2 : Int32) (ops steps levels firsts lasts op cl places sym wait done kind left right : Nat → Int32),
  r + d = 160 → k + 1 ≤ r → SX N nmb md W D M T e k → RC N nmb W D M e sym op cl steps ops levels firsts lasts places → RM W D M T wait done kind left right → t ∈ toks → b ≤ n → p ≤ n → f_X7_advance (nI n) nx st kk cd tb = some (nI p, nI b, nI (kd t), c1) → (t = 110 → c1 = c2 ∧ codeOK c1) → d + 2 ≤ nC → d + 3 ≤ nM →
  ∃ R R', lp_X6_readText_49 y1 (nI n) tb nC (nI r) (if md then 4 else 5) nx st kk cd wds cnt (nI N) (nI e) (nI M) (nI W.length) (nI D.length) (nI (oc W)) (nI (pc W)) ncs nbs szs ows ops steps levels firsts lasts op cl places sym (KX (nI n)) = some R ∧ lp_X12_formula_22 (nI n) (nI N) tp tx mnc nM (if md then 1 else 0) (nI t) (nI b) (nI p) (nI (r + 1)) c2 fk fp (nI M) (nI W.length) (nI D.length) (nI (oc W)) wait done kind left right KM = some R' ∧ FPost N nmb ncs nbs szs ows wds cnt fk fp R R'

def GQ (d : Nat) : Prop := ∀ (r k : Nat) (md : Bool) (W : List (Nat × Nat)) (D : List Ent) (M : Nat) (T : TT) (e b p nC nM : Nat) (kk cd c2 tok : Int32) (ops steps levels firsts lasts op cl places sym wait done kind left right : Nat → Int32),
  r + d = 160 → k + 1 ≤ r + 1 → SX N nmb md W D M T e k → RC N nmb W D M e sym op cl steps ops levels firsts lasts places → RM W D M T wait done kind left right → b ≤ n → p ≤ n → d + 1 ≤ nC → d + 2 ≤ nM →
  ∃ R R', lp_X6_readText_49 y1 (nI n) tb nC (nI (r + 1)) (if md then 4 else 5) (nI p) (nI b) kk cd wds cnt (nI N) (nI e) (nI M) (nI W.length) (nI D.length) (nI (oc W)) (nI (pc W)) ncs nbs szs ows ops steps levels firsts lasts op cl places sym (KX (nI n)) = some R ∧ TK (nI n) (nI N) tp tx mnc nM (if md then 1 else 0) tok (nI b) (nI p) (nI (r + 1)) c2 fk fp (nI M) (nI W.length) (nI D.length) (nI (oc W)) wait done kind left right KM = some R' ∧ FPost N nmb ncs nbs szs ows wds cnt fk fp R R'

variable {n N nmb tb tx ncs nbs szs ows mnc y1 wds cnt tp fk fp}
theorem go_of (hn : n ≤ 600) (htx : ∀ k, k < n → tb k = tx k &&& 255) {d : Nat} (h : ∀ d', d = d' + 1 → FQ n N nmb tb tx ncs nbs szs ows mnc y1 wds cnt tp fk fp d') : GQ n N nmb tb tx ncs nbs szs ows mnc y1 wds cnt tp fk fp d := by
  intro r k md W D M T e b p nC nM kk cd c2 tok ops steps levels firsts lasts op cl places sym wait done kind left right hrd hk hS hR hR2 hb hp hC hM
  cases d with
  | zero =>
    obtain rfl : r = 160 := by omega
    obtain ⟨nC, rfl⟩ : ∃ x, nC = x + 1 := ⟨nC - 1, by omega⟩
    rw [lp_X6_readText_49, if_pos (c := (160 : Int32) < nI (160 + 1)) (by decide)]
    unfold TK
    rw [takes_no, Option.bind_some]
    dsimp only
    rw [if_pos (c := b2i false = 0) (by decide)]
    exact ⟨_, _, rfl, rfl, Or.inl ⟨4, b, by omega, by omega, rfl, rfl, rfl, rfl, rfl⟩⟩
  | succ d =>
    obtain ⟨t, b', p', c1', c2', h1, h2, h3, h4, h5, h6⟩ := takes_ok hn hp htx (show r + 1 ≤ 160 by omega) (nI b) kk cd tok (nI b) c2 fk fp
    unfold TK
    rw [h5, Option.bind_some]
    dsimp only
    rw [if_neg (c := b2i true = 0) (by decide)]
    exact h d rfl (r + 1) k md W D M T e t b' p' nC nM (nI p) (nI b) kk cd c1' c2' ops steps levels firsts lasts op cl places sym wait done kind left right (by omega) hk hS hR hR2 h1 h2 h3 h4 h6 (by omega) (by omega)
theorem kd_lt {t : Nat} (h : t ∈ toks) : kd t < 600 ∧ t < 600 ∧ (kd t = 514 ↔ t = 0) := by
  revert h t; decide
theorem kd_cases {t : Nat} (h : t ∈ toks) : t = 33 ∨ t = 40 ∨ t = 110 ∨ t = 48 ∨ t = 49 ∨ (t ≠ 33 ∧ t ≠ 40 ∧ t ≠ 110 ∧ t ≠ 48 ∧ t ≠ 49 ∧ kd t ≠ 33 ∧ kd t ≠ 40 ∧ kd t ≠ 256 ∧ kd t ≠ 48 ∧ kd t ≠ 49) := by
  revert h t; decide
theorem kd_cases2 {t : Nat} (h : t ∈ toks) : t = 0 ∨ t = 41 ∨ (isB t ∧ kd t = t) ∨ (t ≠ 0 ∧ t ≠ 41 ∧ ¬ isB t ∧ kd t ≠ 514 ∧ kd t ≠ 41 ∧ (clev (kd t) = 0 ∨ kd t = 33)) := by
  unfold isB
  revert h t; decide

theorem lp_A {nC r : Nat} (hr : r ≤ 160) {nx st kk cd nx' st' kk' cd' : Int32} {nm ln sc wt od os pp : Int32} {ops steps levels firsts lasts op cl places sym : Nat → Int32} (ha : f_X7_advance (nI n) nx st kk cd tb = some (nx', st', kk', cd')) {f s wt' od' os' pp' ln' sc' : Int32} {sym' op' cl' steps' ops' levels' firsts' lasts' places' : Nat → Int32}
    (ht : f_X6_takeOperand 4 kk' cd' nm ncs wt od os pp ln sc sym op cl steps ops levels firsts lasts places = some (f, s, wt', od', os', pp', ln', sc', sym', op', cl', steps', ops', levels', firsts', lasts', places')) :
    lp_X6_readText_49 y1 (nI n) tb (nC + 1) (nI r) 4 nx st kk cd wds cnt nm ln sc wt od os pp ncs nbs szs ows ops steps levels firsts lasts op cl places sym (KX (nI n)) = if f = 0 then (if kk' = 514 then some (f, s, nI n, nx', st', kk', cd', wds, cnt, nm, ln', sc', wt', od', os', pp', ncs, nbs, szs, ows, ops', steps', levels', firsts', lasts', op', cl', places', sym') else lp_X6_readText_49 y1 (nI n) tb nC (nI (r + 1)) s nx' st' kk' cd' wds cnt nm ln' sc' wt' od' os' pp' ncs nbs szs ows ops' steps' levels' firsts' lasts' op' cl' places' sym' (KX (nI n))) else some (f, s, nI n, nx', st', kk', cd', wds, cnt, nm, ln', sc', wt', od', os', pp', ncs, nbs, szs, ows, ops', steps', levels', firsts', lasts', op', cl', places', sym') := by
  rw [lp_X6_readText_49, if_neg (show ¬ (160 : Int32) < nI r from nI_nlt (b := r) (a := 160) (by omega) (by omega)), ha, Option.bind_some]
  unfold jn
  dsimp only
  rw [if_pos (c := (4 : Int32) = 4) rfl, ht, Option.bind_some, nI_1]
theorem lp_B {nC r : Nat} (hr : r ≤ 160) {nx st kk cd nx' st' kk' cd' : Int32} {nm ln sc wt od os pp : Int32} {ops steps levels firsts lasts op cl places sym : Nat → Int32} (ha : f_X7_advance (nI n) nx st kk cd tb = some (nx', st', kk', cd')) {f s wt' od' os' pp' ln' sc' : Int32} {sym' op' cl' steps' ops' levels' firsts' lasts' places' : Nat → Int32}
    (ht : f_X6_takeOperator 5 kk' wt od os pp ops ln sc steps levels firsts lasts op cl places sym = some (f, s, wt', od', os', pp', ops', ln', sc', steps', levels', firsts', lasts', op', cl', places', sym')) :
    lp_X6_readText_49 y1 (nI n) tb (nC + 1) (nI r) 5 nx st kk cd wds cnt nm ln sc wt od os pp ncs nbs szs ows ops steps levels firsts lasts op cl places sym (KX (nI n)) = if f = 0 then (if kk' = 514 then some (f, s, nI n, nx', st', kk', cd', wds, cnt, nm, ln', sc', wt', od', os', pp', ncs, nbs, szs, ows, ops', steps', levels', firsts', lasts', op', cl', places', sym') else lp_X6_readText_49 y1 (nI n) tb nC (nI (r + 1)) s nx' st' kk' cd' wds cnt nm ln' sc' wt' od' os' pp' ncs nbs szs ows ops' steps' levels' firsts' lasts' op' cl' places' sym' (KX (nI n))) else some (f, s, nI n, nx', st', kk', cd', wds, cnt, nm, ln', sc', wt', od', os', pp', ncs, nbs, szs, ows, ops', steps', levels', firsts', lasts', op', cl', places', sym') := by
  rw [lp_X6_readText_49, if_neg (show ¬ (160 : Int32) < nI r from nI_nlt (b := r) (a := 160) (by omega) (by omega)), ha, Option.bind_some]
  unfold jn
  dsimp only
  rw [if_neg (c := (5 : Int32) = 4) (by decide), if_pos (c := (5 : Int32) = 5) rfl, ht, Option.bind_some, nI_1]
theorem step_A (hN : N ≤ 10) (hnm : ∀ i, i < N → (nmb i).length ≤ 2) (hnc : ∀ k, k < N → ncs k = mnc k) {d : Nat} (hG : GQ n N nmb tb tx ncs nbs szs ows mnc y1 wds cnt tp fk fp d) {r k : Nat} {W : List (Nat × Nat)} {D : List Ent} {M : Nat} {T : TT} {e t b p nC nM : Nat} {nx st kk cd c1 c2 : Int32} {ops steps levels firsts lasts op cl places sym wait done kind left right : Nat → Int32}
    (hrd : r + d = 160) (hk : k + 1 ≤ r) (hS : SA N nmb W D M T e k) (hR : RC N nmb W D M e sym op cl steps ops levels firsts lasts places) (hR2 : RM W D M T wait done kind left right) (ht : t ∈ toks) (hb : b ≤ n) (hp : p ≤ n) (ha : f_X7_advance (nI n) nx st kk cd tb = some (nI p, nI b, nI (kd t), c1)) (hc : t = 110 → c1 = c2 ∧ codeOK c1) (hC : d + 2 ≤ nC) (hM : d + 3 ≤ nM) :
  ∃ R R', lp_X6_readText_49 y1 (nI n) tb nC (nI r) 4 nx st kk cd wds cnt (nI N) (nI e) (nI M) (nI W.length) (nI D.length) (nI (oc W)) (nI (pc W)) ncs nbs szs ows ops steps levels firsts lasts op cl places sym (KX (nI n)) = some R ∧ lp_X12_formula_22 (nI n) (nI N) tp tx mnc nM 1 (nI t) (nI b) (nI p) (nI (r + 1)) c2 fk fp (nI M) (nI W.length) (nI D.length) (nI (oc W)) wait done kind left right KM = some R' ∧ FPost N nmb ncs nbs szs ows wds cnt fk fp R R' := by
  obtain ⟨nC, rfl⟩ : ∃ x, nC = x + 1 := ⟨nC - 1, by omega⟩
  obtain ⟨nM, rfl⟩ : ∃ x, nM = x + 1 := ⟨nM - 1, by omega⟩
  have hS' := hS
  obtain ⟨s1, s2, s3, s4, s5, s6, s7, s8⟩ := hS'
  have h6 : ∀ x ∈ D, eV x ≤ 6 := fun x hx => (s2 x hx).2.2.2.2
  rcases kd_cases ht with rfl | rfl | rfl | rfl | rfl | hq
  · by_cases ho : oc W < 20
    · obtain ⟨y', o', c', p', l', q1, q2⟩ := xo_not (cd := c1) (nm := nI N) (nc := ncs) s1 (by omega) (by omega) ho hR
      rw [lp_A (by omega) ha q1, if_pos (c := (0 : Int32) = 0) rfl, if_neg (c := nI (kd 33) = 514) (by decide), mo_open (Or.inl rfl) ho (by omega)]
      have hR3 : RM ((33, e) :: W) D M T (upd wait W.length (nI 33)) done kind left right := ⟨⟨upd_same, stk_mono hR2.1 (fun i x hi q => by rw [upd_ne (by omega)]; exact q)⟩, hR2.2⟩
      have := hG r (k + 1) true ((33, e) :: W) D M T (e + 1) b p nC nM (nI (kd 33)) c1 c2 (nI 33) _ _ _ _ _ _ _ _ _ _ _ _ _ _ hrd (by omega) (st_not hS ho) q2 hR3 hb hp (by omega) (by omega)
      rw [show oc ((33, e) :: W) = oc W + 1 by rw [oc_cons, if_pos (Or.inl rfl), Nat.add_comm]] at this
      rw [show oc ((33, e) :: W) = oc W + 1 by rw [oc_cons, if_pos (Or.inl rfl), Nat.add_comm]]
      exact this
    · have ho' : oc W = 20 := by omega
      rw [lp_A (by omega) ha (xo_full (Or.inl rfl) (by rw [ho']; rfl)), if_neg (c := (1 : Int32) = 0) (by decide), ho']
      obtain ⟨R', q1, q2⟩ := mo_full (sz := nI n) (nm := nI N) (tp := tp) (tx := tx) (nc := mnc) (bg := nI b) (en := nI p) (tks := nI (r + 1)) (cd := c2) (fk := fk) (fp := fp) (n := nM) (nd := nI M) (ws := nI W.length) (ds := nI D.length) (wait := wait) (done := done) (kind := kind) (left := left) (right := right) (K := KM) (t := 33) (Or.inl rfl)
      exact ⟨_, R', rfl, q1, Or.inl ⟨1, b, by omega, by omega, rfl, rfl, q2⟩⟩
  · by_cases ho : oc W < 20
    · obtain ⟨y', o', c', p', l', q1, q2⟩ := xo_par (cd := c1) (nm := nI N) (nc := ncs) (by omega) ho hR
      rw [lp_A (by omega) ha q1, if_pos (c := (0 : Int32) = 0) rfl, if_neg (c := nI (kd 40) = 514) (by decide), mo_open (Or.inr rfl) ho (by omega)]
      have hR3 : RM ((40, e) :: W) D M T (upd wait W.length (nI 40)) done kind left right := ⟨⟨upd_same, stk_mono hR2.1 (fun i x hi q => by rw [upd_ne (by omega)]; exact q)⟩, hR2.2⟩
      have := hG r (k + 1) true ((40, e) :: W) D M T e b p nC nM (nI (kd 40)) c1 c2 (nI 40) _ _ _ _ _ _ _ _ _ _ _ _ _ _ hrd (by omega) (st_par hS ho) q2 hR3 hb hp (by omega) (by omega)
      rw [show oc ((40, e) :: W) = oc W + 1 by rw [oc_cons, if_pos (Or.inr rfl), Nat.add_comm]] at this
      rw [show oc ((40, e) :: W) = oc W + 1 by rw [oc_cons, if_pos (Or.inr rfl), Nat.add_comm]]
      exact this
    · have ho' : oc W = 20 := by omega
      rw [lp_A (by omega) ha (xo_full (Or.inr rfl) (by rw [ho']; rfl)), if_neg (c := (1 : Int32) = 0) (by decide), ho']
      obtain ⟨R', q1, q2⟩ := mo_full (sz := nI n) (nm := nI N) (tp := tp) (tx := tx) (nc := mnc) (bg := nI b) (en := nI p) (tks := nI (r + 1)) (cd := c2) (fk := fk) (fp := fp) (n := nM) (nd := nI M) (ws := nI W.length) (ds := nI D.length) (wait := wait) (done := done) (kind := kind) (left := left) (right := right) (K := KM) (t := 40) (Or.inr rfl)
      exact ⟨_, R', rfl, q1, Or.inl ⟨1, b, by omega, by omega, rfl, rfl, q2⟩⟩
  · obtain ⟨rfl, -⟩ := hc rfl
    obtain ⟨rr, f1, f2, f3⟩ := find_ok hN hnc c1
    rcases f3 with rfl | ⟨i, hi, rfl⟩
    · rw [lp_A (by omega) ha (xo_name f1), if_neg (c := (2 : Int32) = 0) (by decide)]
      obtain ⟨R', q1, q2⟩ := mo_name (sz := nI n) (tp := tp) (tx := tx) (bg := nI b) (en := nI p) (tks := nI (r + 1)) (fk := fk) (fp := fp) (n := nM) (nd := nI M) (ws := nI W.length) (ds := nI D.length) (op := nI (oc W)) (wait := wait) (done := done) (kind := kind) (left := left) (right := right) (K := KM) f2
      exact ⟨_, R', rfl, q1, Or.inl ⟨2, b, by omega, by omega, rfl, rfl, q2⟩⟩
    · generalize hr : red 6 W (newE N nmb M e (256 + i) :: D) (M + 1) (up T M ((nkL (256 + i)).1, (nkL (256 + i)).2, 0, sby nmb (256 + i), fun w => leafv N (256 + i) w)) = X
      obtain ⟨W1, D1, M1, T1⟩ := X
      obtain ⟨y', o', c', s', l', f', la', q1, q2⟩ := xo_operand (a := 256 + i) (up T M ((nkL (256 + i)).1, (nkL (256 + i)).2, 0, sby nmb (256 + i), fun w => leafv N (256 + i) w)) (Or.inl ⟨rfl, i, f1, by omega, rfl⟩) s1 (by omega) (by omega) (by omega) h6 hR
      rw [hr] at q1 q2
      obtain ⟨g1, g2⟩ := st_leaf hnm (Or.inl ⟨by omega, by omega⟩) hS hr
      have hnk : nkL (256 + i) = (110, i) := by unfold nkL; rw [if_pos (by omega), show 256 + i - 256 = i by omega]
      rw [hnk] at hr
      obtain ⟨d', k', l2, r', v1, v2⟩ := mo_leaf (sz := nI n) (nm := nI N) (tp := tp) (tx := tx) (nc := mnc) (bg := nI b) (en := nI p) (tks := nI (r + 1)) (cd := c1) (fk := fk) (fp := fp) (n := nM) (K := KM) (t := 110) (i := i) (Or.inl ⟨rfl, f2, by omega⟩) (by omega) (by omega) (lay_leaf s1) hr hR2
      rw [lp_A (by omega) ha q1, if_pos (c := (0 : Int32) = 0) rfl, if_neg (c := nI (kd 110) = 514) (by decide), v1, ← g2]
      exact hG r (k + 1) false W1 D1 M1 T1 (e + 1) b p nC nM _ c1 c1 (nI 110) _ _ _ _ _ _ _ _ _ _ _ _ _ _ hrd (by omega) g1 q2 v2 hb hp (by omega) (by omega)

  · generalize hr : red 6 W (newE N nmb M e 48 :: D) (M + 1) (up T M ((nkL 48).1, (nkL 48).2, 0, sby nmb 48, fun w => leafv N 48 w)) = X
    obtain ⟨W1, D1, M1, T1⟩ := X
    obtain ⟨y', o', c', s', l', f', la', q1, q2⟩ := xo_operand (k := 48) (cd := c1) (nm := nI N) (nc := ncs) (a := 48) (up T M ((nkL 48).1, (nkL 48).2, 0, sby nmb 48, fun w => leafv N 48 w)) (Or.inr (Or.inl ⟨rfl, rfl⟩)) s1 (by omega) (by omega) (by omega) h6 hR
    rw [hr] at q1 q2
    obtain ⟨g1, g2⟩ := st_leaf hnm (Or.inr (Or.inl rfl)) hS hr
    obtain ⟨d', k', l2, r', v1, v2⟩ := mo_leaf (sz := nI n) (nm := nI N) (tp := tp) (tx := tx) (nc := mnc) (bg := nI b) (en := nI p) (tks := nI (r + 1)) (cd := c2) (fk := fk) (fp := fp) (n := nM) (K := KM) (t := 48) (i := 0) (Or.inr ⟨Or.inl rfl, rfl⟩) (by omega) (by omega) (lay_leaf s1) hr hR2
    rw [lp_A (by omega) ha q1, if_pos (c := (0 : Int32) = 0) rfl, if_neg (c := nI (kd 48) = 514) (by decide), v1, ← g2]
    exact hG r (k + 1) false W1 D1 M1 T1 (e + 1) b p nC nM _ c1 c2 (nI 48) _ _ _ _ _ _ _ _ _ _ _ _ _ _ hrd (by omega) g1 q2 v2 hb hp (by omega) (by omega)

  · generalize hr : red 6 W (newE N nmb M e 49 :: D) (M + 1) (up T M ((nkL 49).1, (nkL 49).2, 0, sby nmb 49, fun w => leafv N 49 w)) = X
    obtain ⟨W1, D1, M1, T1⟩ := X
    obtain ⟨y', o', c', s', l', f', la', q1, q2⟩ := xo_operand (k := 49) (cd := c1) (nm := nI N) (nc := ncs) (a := 49) (up T M ((nkL 49).1, (nkL 49).2, 0, sby nmb 49, fun w => leafv N 49 w)) (Or.inr (Or.inr ⟨rfl, rfl⟩)) s1 (by omega) (by omega) (by omega) h6 hR
    rw [hr] at q1 q2
    obtain ⟨g1, g2⟩ := st_leaf hnm (Or.inr (Or.inr rfl)) hS hr
    obtain ⟨d', k', l2, r', v1, v2⟩ := mo_leaf (sz := nI n) (nm := nI N) (tp := tp) (tx := tx) (nc := mnc) (bg := nI b) (en := nI p) (tks := nI (r + 1)) (cd := c2) (fk := fk) (fp := fp) (n := nM) (K := KM) (t := 49) (i := 0) (Or.inr ⟨Or.inr rfl, rfl⟩) (by omega) (by omega) (lay_leaf s1) hr hR2
    rw [lp_A (by omega) ha q1, if_pos (c := (0 : Int32) = 0) rfl, if_neg (c := nI (kd 49) = 514) (by decide), v1, ← g2]
    exact hG r (k + 1) false W1 D1 M1 T1 (e + 1) b p nC nM _ c1 c2 (nI 49) _ _ _ _ _ _ _ _ _ _ _ _ _ _ hrd (by omega) g1 q2 v2 hb hp (by omega) (by omega)

  · have hkd := kd_lt ht
    have hne : ∀ z : Nat, z < 600 → kd t ≠ z → nI (kd t) ≠ nI z := fun z hz q => nI_neL (by omega) (by omega) q
    rw [lp_A (by omega) ha (xo_else ⟨hne 33 (by omega) (by omega), hne 40 (by omega) (by omega), hne 256 (by omega) (by omega), hne 48 (by omega) (by omega), hne 49 (by omega) (by omega)⟩), if_neg (c := (1 : Int32) = 0) (by decide)]
    obtain ⟨R', q1, q2⟩ := mo_else (sz := nI n) (nm := nI N) (tp := tp) (tx := tx) (nc := mnc) (bg := nI b) (en := nI p) (tks := nI (r + 1)) (cd := c2) (fk := fk) (fp := fp) (n := nM) (nd := nI M) (ws := nI W.length) (ds := nI D.length) (op := nI (oc W)) (wait := wait) (done := done) (kind := kind) (left := left) (right := right) (K := KM) (t := t) (by omega) ⟨hq.1, hq.2.1, hq.2.2.1, hq.2.2.2.1, hq.2.2.2.2.1⟩
    exact ⟨_, R', rfl, q1, Or.inl ⟨1, b, by omega, by omega, rfl, rfl, q2⟩⟩

theorem step_B {d : Nat} (hG : GQ n N nmb tb tx ncs nbs szs ows mnc y1 wds cnt tp fk fp d) {r k : Nat} {W : List (Nat × Nat)} {D : List Ent} {M : Nat} {T : TT} {e t b p nC nM : Nat} {nx st kk cd c1 c2 : Int32} {ops steps levels firsts lasts op cl places sym wait done kind left right : Nat → Int32}
    (hrd : r + d = 160) (hk : k + 1 ≤ r) (hS : SB N nmb W D M T e k) (hR : RC N nmb W D M e sym op cl steps ops levels firsts lasts places) (hR2 : RM W D M T wait done kind left right) (ht : t ∈ toks) (hb : b ≤ n) (hp : p ≤ n) (ha : f_X7_advance (nI n) nx st kk cd tb = some (nI p, nI b, nI (kd t), c1)) (hC : d + 2 ≤ nC) (hM : d + 3 ≤ nM) :
  ∃ R R', lp_X6_readText_49 y1 (nI n) tb nC (nI r) 5 nx st kk cd wds cnt (nI N) (nI e) (nI M) (nI W.length) (nI D.length) (nI (oc W)) (nI (pc W)) ncs nbs szs ows ops steps levels firsts lasts op cl places sym (KX (nI n)) = some R ∧ lp_X12_formula_22 (nI n) (nI N) tp tx mnc nM 0 (nI t) (nI b) (nI p) (nI (r + 1)) c2 fk fp (nI M) (nI W.length) (nI D.length) (nI (oc W)) wait done kind left right KM = some R' ∧ FPost N nmb ncs nbs szs ows wds cnt fk fp R R' := by
  obtain ⟨nC, rfl⟩ : ∃ x, nC = x + 1 := ⟨nC - 1, by omega⟩
  obtain ⟨nM, rfl⟩ : ∃ x, nM = x + 1 + 1 := ⟨nM - 2, by omega⟩
  have hS' := hS
  obtain ⟨⟨s1, s2, s3, s4, s5, s6, s7⟩, sn, sc, so⟩ := hS'
  have h6 : ∀ x ∈ D, eV x ≤ 6 := fun x hx => (s2 x hx).2.2.2.2
  rcases kd_cases2 ht with rfl | rfl | ⟨hB, hkt⟩ | hq
  · generalize hr : red 1 W D M T = X
    obtain ⟨W1, D1, M1, T1⟩ := X
    obtain ⟨d', k', l', r', v1, v2, v3⟩ := mb_end (sz := nI n) (nm := nI N) (tp := tp) (tx := tx) (nc := mnc) (bg := nI b) (en := nI p) (tks := nI (r + 1)) (cd := c2) (fk := fk) (fp := fp) (n := nM) (op := nI (oc W)) (K := KM) hr (by omega) s1 sn (by omega) (by omega) hR2
    by_cases hpc : pc W = 0
    · obtain ⟨s', l2, f', la', o', c', q1, q2⟩ := xb_end hr hpc (by omega) s1 (by omega) (by omega) (by omega) h6 hR
      obtain ⟨e1, x, e2, e3, e4, e5⟩ := st_end hpc hS hr
      rw [lp_B (by omega) ha q1, if_pos (c := (0 : Int32) = 0) rfl, if_pos (c := nI (kd 0) = 514) rfl, v2 e1]
      subst e1 e2
      unfold KM
      rw [if_pos (c := ix 0 161) (by decide)]
      exact ⟨_, _, rfl, rfl, Or.inr ⟨rfl, rfl, rfl, rfl, rfl, rfl, rfl, rfl, rfl, rfl, rfl, M1, T1, e, k, x, by omega, e3, e4, rfl, rfl, rfl, v1.2.1.1, q2.2.2.1, q2.2.2.2, e5, v1.2.2⟩⟩
    · have hpl : pc W ≤ W.length := pc_le W
      rw [lp_B (by omega) ha (xb_end_no hpc (by omega)), if_neg (c := (1 : Int32) = 0) (by decide)]
      obtain ⟨w1, w2⟩ := st_stuck hpc hS hr
      obtain ⟨R', z1, z2⟩ := v3 w1 (by omega) (by omega)
      exact ⟨_, R', rfl, z1, Or.inl ⟨1, b, by omega, by omega, rfl, rfl, z2⟩⟩
  · generalize hr : red 1 W D M T = X
    obtain ⟨W1, D1, M1, T1⟩ := X
    by_cases hpc : pc W = 0
    · obtain ⟨e1, -⟩ := st_end hpc hS hr
      have hx := lp_B (n := n) (tb := tb) (ncs := ncs) (nbs := nbs) (szs := szs) (ows := ows) (y1 := y1) (wds := wds) (cnt := cnt) (nm := nI N) (nC := nC) (show r ≤ 160 by omega) ha (xb_close_no (w := nI W.length) (d := nI D.length) (o := nI (oc W)) (e := nI e) (M := nI M) (sym := sym) (op := op) (cl := cl) (steps := steps) (ops := ops) (levels := levels) (firsts := firsts) (lasts := lasts) (places := places))
      rw [hpc, hx, if_neg (c := (1 : Int32) = 0) (by decide)]
      obtain ⟨R', z1, z2⟩ := mb_close_no (sz := nI n) (nm := nI N) (tp := tp) (tx := tx) (nc := mnc) (bg := nI b) (en := nI p) (tks := nI (r + 1)) (cd := c2) (fk := fk) (fp := fp) (n := nM + 1) (op := nI (oc W)) (K := KM) hr e1 (by omega) s1 sn (by omega) (by omega) hR2
      exact ⟨_, R', rfl, z1, Or.inl ⟨1, b, by omega, by omega, rfl, rfl, z2⟩⟩
    · obtain ⟨p0, W2, rfl, b1, b2, b3, b4, b5, b6, b7, b8, b9⟩ := st_close hpc hS hr
      generalize hr3 : red 6 W2 (setC D1) M1 T1 = X
      obtain ⟨W3, D3, M3, T3⟩ := X
      obtain ⟨g1, g2⟩ := b9 W3 D3 M3 T3 hr3
      have hpl : pc W2 ≤ W2.length := pc_le W2
      have hoc : oc W = oc ((40, p0) :: W2) := red_oc (Nat.le_refl 1) hr sn s1
      obtain ⟨s', l2, f', la', o', c', q1, q2⟩ := xb_close hr hr3 b2 (by omega) (by omega) s1 (by omega) (by omega) (by omega) h6 b1 (by omega) (by omega) b5 hR
      obtain ⟨d', k', l', r', v1, v2⟩ := mb_close (sz := nI n) (nm := nI N) (tp := tp) (tx := tx) (nc := mnc) (bg := nI b) (en := nI p) (tks := nI (r + 1)) (cd := c2) (fk := fk) (fp := fp) (n := nM + 1) (K := KM) (op := nI (oc W)) rfl hr hr3 hoc (by omega) s1 sn (by omega) (by omega) b1 (by omega) (by omega) hR2
      rw [lp_B (by omega) ha q1, if_pos (c := (0 : Int32) = 0) rfl, if_neg (c := nI (kd 41) = 514) (by decide), v1, ← g2]
      exact hG r (k + 1) false W3 D3 M3 T3 e b p nC (nM + 1) _ c1 c2 (nI 41) _ _ _ _ _ _ _ _ _ _ _ _ _ _ hrd (by omega) g1 q2 v2 hb hp (by omega) (by omega)
  · generalize hr : red (reqL t) W D M T = X
    obtain ⟨W1, D1, M1, T1⟩ := X
    have hl := isB_lev hB
    obtain ⟨g1, g2, g3, g4⟩ := st_op hB hS hr
    have hL1 : 1 ≤ reqL t := by rcases hB with rfl | rfl | rfl | rfl | rfl <;> decide
    have hoc : oc W1 = oc W := (red_oc hL1 hr sn s1).symm
    obtain ⟨p', s', l2, f', la', o', c', pl', y', q1, q2⟩ := xb_op hB hr (by omega) s1 (by omega) (by omega) (by omega) h6 g3 (by omega) hR
    obtain ⟨d', k', l', r', v1, v2⟩ := mb_op (sz := nI n) (nm := nI N) (tp := tp) (tx := tx) (nc := mnc) (bg := nI b) (en := nI p) (tks := nI (r + 1)) (cd := c2) (fk := fk) (fp := fp) (n := nM + 1) (op := nI (oc W)) (K := KM) hB (by omega) s1 sn (by omega) (by omega) hr (by omega) hR2
    rw [hkt] at ha
    have e1 : oc ((t, e) :: W1) = oc W := by rw [oc_cons, if_neg (show ¬ (t = 33 ∨ t = 40) by omega), hoc, Nat.zero_add]
    rw [lp_B (by omega) ha q1, if_pos (c := (0 : Int32) = 0) rfl, if_neg (nI_neL (k := 514) (c := 514) (by omega) (by omega) (by omega)), v1, ← g2, ← e1]
    exact hG r (k + 1) true ((t, e) :: W1) D1 M1 T1 (e + 1) b p nC (nM + 1) _ c1 c2 (nI t) _ _ _ _ _ _ _ _ _ _ _ _ _ _ hrd (by omega) g1 q2 v2 hb hp (by omega) (by omega)
  · have hkd := kd_lt ht
    rw [lp_B (by omega) ha (xb_else (by omega) hq.2.2.2.1 hq.2.2.2.2.1 hq.2.2.2.2.2), if_neg (c := (1 : Int32) = 0) (by decide)]
    obtain ⟨R', q1, q2⟩ := mb_else (sz := nI n) (nm := nI N) (tp := tp) (tx := tx) (nc := mnc) (bg := nI b) (en := nI p) (tks := nI (r + 1)) (cd := c2) (fk := fk) (fp := fp) (n := nM + 1) (nd := nI M) (ws := nI W.length) (ds := nI D.length) (op := nI (oc W)) (wait := wait) (done := done) (kind := kind) (left := left) (right := right) (K := KM) (t := t) (by omega) hq.1 hq.2.1 hq.2.2.1
    exact ⟨_, R', rfl, q1, Or.inl ⟨1, b, by omega, by omega, rfl, rfl, q2⟩⟩
theorem form_ok (hn : n ≤ 600) (htx : ∀ k, k < n → tb k = tx k &&& 255) (hN : N ≤ 10) (hnm : ∀ i, i < N → (nmb i).length ≤ 2) (hnc : ∀ k, k < N → ncs k = mnc k) : ∀ d, FQ n N nmb tb tx ncs nbs szs ows mnc y1 wds cnt tp fk fp d := by
  intro d
  induction d with
  | zero =>
    have hG : GQ n N nmb tb tx ncs nbs szs ows mnc y1 wds cnt tp fk fp 0 := go_of hn htx (fun d' q => absurd q (by omega))
    intro r k md W D M T e t b p nC nM nx st kk cd c1 c2 ops steps levels firsts lasts op cl places sym wait done kind left right h1 h2 h3 h4 h5 h6 h7 h8 h9 h10 h11 h12
    cases md with
    | true => exact step_A hN hnm hnc hG h1 h2 h3 h4 h5 h6 h7 h8 h9 h10 h11 h12
    | false => exact step_B hG h1 h2 h3 h4 h5 h6 h7 h8 h9 h11 h12
  | succ d ih =>
    have hG : GQ n N nmb tb tx ncs nbs szs ows mnc y1 wds cnt tp fk fp (d + 1) := go_of hn htx (fun d' q => by have e : d' = d := (by omega); subst e; exact ih)
    intro r k md W D M T e t b p nC nM nx st kk cd c1 c2 ops steps levels firsts lasts op cl places sym wait done kind left right h1 h2 h3 h4 h5 h6 h7 h8 h9 h10 h11 h12
    cases md with
    | true => exact step_A hN hnm hnc hG h1 h2 h3 h4 h5 h6 h7 h8 h9 h10 h11 h12
    | false => exact step_B hG h1 h2 h3 h4 h5 h6 h7 h8 h9 h11 h12
end FORM
