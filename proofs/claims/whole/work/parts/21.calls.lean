def b2i (b : Bool) : Int32 := if b then 1 else 0
def ix (i : Int32) (n : Nat) : Bool := !(decide (i < 0)) && decide (i.toNatClampNeg < n)
theorem ix_in {i : Int32} {n : Nat} (h : ix i n = true) : vp_in i n := by
  unfold ix at h
  simp only [Bool.and_eq_true, Bool.not_eq_true', decide_eq_false_iff_not, decide_eq_true_eq] at h
  intro hh
  rcases hh with hh | hh
  · exact h.1 hh
  · omega
theorem ifs {α : Type} {b : Bool} {A : Option α} {r : α} (h : (if b = true then A else none) = some r) : b = true ∧ A = some r := by
  cases b with
  | false => simp at h
  | true => exact ⟨rfl, by simpa using h⟩
theorem ift {α : Type} {c : Prop} {dc : Decidable c} {A B : Option α} {r : α} (h : (if c then A else B) = some r) (hc : c) : A = some r := by rw [if_pos hc] at h; exact h
theorem iff_ {α : Type} {c : Prop} {dc : Decidable c} {A B : Option α} {r : α} (h : (if c then A else B) = some r) (hc : ¬ c) : B = some r := by rw [if_neg hc] at h; exact h
theorem obind {α β : Type} {o : Option α} {k : α → Option β} {r : β} (h : o.bind k = some r) : ∃ a, o = some a ∧ k a = some r := by
  cases o with
  | none => simp at h
  | some a => exact ⟨a, rfl, h⟩
def wlook (ws w1 : va_W) : Nat ⊕ Nat → Option (Nat × va_E)
  | .inl k => ws[k]?
  | .inr j => w1[j]?
def selok (is : List Nat) : Nat → List (Nat ⊕ Nat) → Bool
  | _, [] => true
  | k, .inl i :: r => decide (i = k) && decide (k ∉ is) && selok is (k + 1) r
  | k, .inr j :: r => decide (is[j]? = some k) && selok is (k + 1) r
theorem selok_at {is : List Nat} : ∀ (sel : List (Nat ⊕ Nat)) (b : Nat), selok is b sel = true → ∀ (k : Nat) (x : Nat ⊕ Nat), sel[k]? = some x → match x with
    | .inl i => i = b + k ∧ b + k ∉ is
    | .inr j => is[j]? = some (b + k) := by
  intro sel
  induction sel with
  | nil => intro b _ k x h; simp at h
  | cons y r ih =>
    intro b hok k x h
    cases k with
    | zero =>
      rw [List.getElem?_cons_zero] at h
      cases h
      cases y with
      | inl i => simp only [selok, Bool.and_eq_true, decide_eq_true_eq] at hok; exact ⟨hok.1.1, hok.1.2⟩
      | inr j => simp only [selok, Bool.and_eq_true, decide_eq_true_eq] at hok; exact hok.1
    | succ k =>
      rw [List.getElem?_cons_succ] at h
      have hok2 : selok is (b + 1) r = true := by
        cases y with
        | inl i => simp only [selok, Bool.and_eq_true] at hok; exact hok.2
        | inr j => simp only [selok, Bool.and_eq_true] at hok; exact hok.2
      have := ih (b + 1) hok2 k x h
      rw [show b + 1 + k = b + (k + 1) by omega] at this
      exact this
theorem wjoin2 {A0 : Nat → Prop} {D : va_G} {cl : List vw_C} {ws wc w1 wn : va_W} {H H1 : Heap} (hP : va_P D cl ws H) (hD : va_D A0 ws) (is : List Nat) (hC : is.map (fun i => ws[i]?) = wc.map some) (hw : w1.map Prod.fst = wc.map Prod.fst) (sel : List (Nat ⊕ Nat)) (hsel : wn.map some = sel.map (wlook ws w1)) (hok : selok is 0 sel = true)
    (hk : ∀ q : Nat, q < H.size → ¬ va_A wc H.size q → H1[q]? = H[q]?) (hP1 : va_P D cl w1 H1) : va_P D cl wn H1 ∧ va_D A0 wn := by
  have at' : ∀ (k : Nat) (q : Nat × va_E), wc[k]? = some q → ∃ i, is[k]? = some i ∧ ws[i]? = some q := by
    intro k q hq
    have h1 : (is.map (fun i => ws[i]?))[k]? = some (some q) := by rw [hC, List.getElem?_map, hq]; rfl
    rw [List.getElem?_map] at h1
    cases hi : is[k]? with
    | none => rw [hi] at h1; cases h1
    | some i => rw [hi] at h1; exact ⟨i, rfl, Option.some.inj h1⟩
  have key : ∀ (k : Nat) (q : Nat × va_E), wn[k]? = some q → (ws[k]? = some q ∧ k ∉ is) ∨ ∃ j : Nat, w1[j]? = some q ∧ is[j]? = some k := by
    intro k q hq
    have h1 : (sel.map (wlook ws w1))[k]? = some (some q) := by rw [← hsel, List.getElem?_map, hq]; rfl
    rw [List.getElem?_map] at h1
    cases hx : sel[k]? with
    | none => rw [hx] at h1; cases h1
    | some x =>
      rw [hx] at h1
      have h2 : wlook ws w1 x = some q := Option.some.inj h1
      have h3 := selok_at sel 0 hok k x hx
      cases x with
      | inl i =>
        obtain ⟨h4, h5⟩ := h3
        have h4' : i = k := by omega
        have h5' : k ∉ is := by rw [show k = 0 + k by omega]; exact h5
        subst h4'
        exact Or.inl ⟨h2, h5'⟩
      | inr j =>
        have h3' : is[j]? = some k := by rw [show k = 0 + k by omega]; exact h3
        exact Or.inr ⟨j, h2, h3'⟩
  have fstk : ∀ (k : Nat) (q : Nat × va_E), wn[k]? = some q → ∃ q0, ws[k]? = some q0 ∧ q0.1 = q.1 := by
    intro k q hq
    rcases key k q hq with ⟨h1, -⟩ | ⟨j, h1, h2⟩
    · exact ⟨q, h1, rfl⟩
    · have h3 : (wc.map Prod.fst)[j]? = some q.1 := by rw [← hw, List.getElem?_map, h1]; rfl
      rw [List.getElem?_map] at h3
      cases hh : wc[j]? with
      | none => rw [hh] at h3; cases h3
      | some q0 =>
        rw [hh] at h3
        obtain ⟨i, hi, hwi⟩ := at' j q0 hh
        cases h2.symm.trans hi
        exact ⟨q0, hwi, Option.some.inj h3⟩
  refine ⟨fun k q hq => ?_, fun i j x y hi hj hxy => ?_, fun k q hk2 => ?_⟩
  · rcases key k q hq with ⟨h1, h2⟩ | ⟨j, h1, -⟩
    · have hl := (hP k q h1).lt
      refine (hP k q h1).kept (hk q.1 hl fun hA => ?_)
      rcases hA with ⟨k2, e, h3⟩ | h3
      · obtain ⟨i, hi, hwi⟩ := at' k2 (q.1, e) h3
        have hik := hD.1 k i q (q.1, e) h1 hwi rfl
        subst hik
        exact h2 (List.mem_of_getElem? hi)
      · omega
    · exact hP1 j q h1
  · obtain ⟨x0, h1, h2⟩ := fstk i x hi
    obtain ⟨y0, h3, h4⟩ := fstk j y hj
    exact hD.1 i j x0 y0 h1 h3 (h2.trans (hxy.trans h4.symm))
  · obtain ⟨q0, h1, h2⟩ := fstk k q hk2
    rw [← h2]
    exact hD.2 k q0 h1
section CALLS
variable {p : Program} {l : Launch} {e : Env} {R : Room} {s : State} {m : MethodId} {args : Array Value} {below : List Frame} {meth : Method} {c : Code} {H : Heap} {locs : List Loc} {cells slots : Nat} {Q : State → Prop}
variable {g : GT} {A : Nat → Prop} {bc : ByteArray} {nL : Nat} {rt : Option FieldType} {y0 : MethodName} {pc : Nat} {ls : Array Slot} {ws : va_W} {lv : List (Nat × Value)}
theorem ZS.at {locs : List Loc} (hZ : ZS g A s s.heap) (hS : va_S A s.heap H locs) {U : State} (hU : U.heap = H) (hW : s.WarmedH U.vm) {B : Nat → Prop} (hB : ∀ q, B q → A q) : ZS g B U U.heap := by
  rw [hU]
  exact ((hZ.moved hW.alike).kept (fun a h1 h2 => hS.2.1 a h1 h2)).narrow hB
/-- behind a call -/
theorem call_on {y : MethodName} {wc w1 : va_W} {ov : Option Value} {rest st0 : List Value} (hP : va_P g.1 vwCl ws H) (hD : va_D A ws) (hS : va_S A s.heap H locs) (is : List Nat) (hC : is.map (fun i => ws[i]?) = wc.map some) (hw : w1.map Prod.fst = wc.map Prod.fst) (hF : ∀ q, va_A wc H.size q → A q)
    (hr : va_Run p l e R s m args below meth c H locs cells slots 0 0 (F0 m pc ls st0) rest (QW g wc H.size ov w1) (va_A wc H.size))
    (kk : ∀ (H1 : Heap) (locs1 : List Loc), va_P g.1 vwCl (wput ws is w1) H1 → va_D A (wput ws is w1) → va_S A s.heap H1 locs1 → W p l e R s m args below meth c H1 locs1 cells slots Q (F0 m (pc + 3) ls (ov.toList ++ rest))) :
    W p l e R s m args below meth c H locs cells slots Q (F0 m pc ls st0) := by
  intro T hT X
  obtain ⟨v, st₀, t, T', L, h0, X', hL, e1, e2, ⟨hv, ⟨hP1, hD1⟩, hz, hk⟩, st⟩ := hr T hT X
  cases hv
  rw [h0] at hz hk
  obtain ⟨hPn, hDn⟩ := wjoin (H1 := t.heap) hP hD is hC hw (fun q h1 h2 => hk q h1 h2) hP1
  obtain ⟨t2, a1, b1⟩ := kk T'.heap (locs ++ L) (by rw [e1]; exact hPn) hDn
    ⟨Nat.le_trans hS.1 (by rw [e1]; exact hz), fun q h1 h2 => by rw [e1, hk q (Nat.lt_of_lt_of_le h1 hS.1) (fun z => h2 (hF q z))]; exact hS.2.1 q h1 h2, fun q hq => by
      rcases List.mem_append.mp hq with h | h
      · exact hS.2.2 q h
      · exact hF _ (hL q h)⟩ T' rfl X'
  exact ⟨t2, st t2 a1, b1⟩
theorem call_on2 {y : MethodName} {wc w1 wn : va_W} {ov : Option Value} {rest st0 : List Value} (hP : va_P g.1 vwCl ws H) (hD : va_D A ws) (hS : va_S A s.heap H locs) (is : List Nat) (hC : is.map (fun i => ws[i]?) = wc.map some) (hw : w1.map Prod.fst = wc.map Prod.fst) (sel : List (Nat ⊕ Nat)) (hsel : wn.map some = sel.map (wlook ws w1)) (hok : selok is 0 sel = true) (hF : ∀ q, va_A wc H.size q → A q)
    (hr : va_Run p l e R s m args below meth c H locs cells slots 0 0 (F0 m pc ls st0) rest (QW g wc H.size ov w1) (va_A wc H.size))
    (kk : ∀ (H1 : Heap) (locs1 : List Loc), va_P g.1 vwCl wn H1 → va_D A wn → va_S A s.heap H1 locs1 → W p l e R s m args below meth c H1 locs1 cells slots Q (F0 m (pc + 3) ls (ov.toList ++ rest))) :
    W p l e R s m args below meth c H locs cells slots Q (F0 m pc ls st0) := by
  intro T hT X
  obtain ⟨v, st₀, t, T', L, h0, X', hL, e1, e2, ⟨hv, ⟨hP1, hD1⟩, hz, hk⟩, st⟩ := hr T hT X
  cases hv
  rw [h0] at hz hk
  obtain ⟨hPn, hDn⟩ := wjoin2 (H1 := t.heap) hP hD is hC hw sel hsel hok (fun q h1 h2 => hk q h1 h2) hP1
  obtain ⟨t2, a1, b1⟩ := kk T'.heap (locs ++ L) (by rw [e1]; exact hPn) hDn
    ⟨Nat.le_trans hS.1 (by rw [e1]; exact hz), fun q h1 h2 => by rw [e1, hk q (Nat.lt_of_lt_of_le h1 hS.1) (fun z => h2 (hF q z))]; exact hS.2.1 q h1 h2, fun q hq => by
      rcases List.mem_append.mp hq with h | h
      · exact hS.2.2 q h
      · exact hF _ (hL q h)⟩ T' rfl X'
  exact ⟨t2, st t2 a1, b1⟩
theorem pre_call {As : List Value} {wc : va_W} (X : CX g A p s m args meth c bc nL rt y0) (hP : va_P g.1 vwCl ws H) (hD : va_D A ws) (hS : va_S A s.heap H locs) (is : List Nat) (hn : va_nd is = true) (hC : is.map (fun i => ws[i]?) = wc.map some) (hF : ∀ q, va_A wc H.size q → A q) :
    ∀ U : State, U.heap = H → s.WarmedH U.vm → va_Pc As (PW g wc H.size) As.toArray U := by
  intro U hU hW
  obtain ⟨-, -, -, -, -, -, -, -, hA, hG, hZ⟩ := X
  have hDc := hD.sub is hn hC
  refine ⟨rfl, by rw [hU], fun k q hq => ?_, hG.warm hW, hDc.weaken (fun _ _ _ _ => trivial), hZ.at hS hU hW hF⟩
  rw [hU]
  have h1 : (is.map (fun i => ws[i]?))[k]? = some (some q) := by rw [hC, List.getElem?_map, hq]; rfl
  rw [List.getElem?_map] at h1
  cases hi : is[k]? with
  | none => rw [hi] at h1; cases h1
  | some i => rw [hi] at h1; exact hP i q (Option.some.inj h1)
theorem card_B {y : MethodName} {b2 : ByteArray} {n2 k : Nat} {r2 : Option FieldType} {rm : Room} {index : Nat} (X : CX g A p s m args meth c bc nL rt y0) (cd : Card y b2 n2 r2 k) (hl : Cond.methodLink y0.cls index y ∈ TG) (hc : rm.cells = 0) (hs : rm.slots = 0) (hR : rm.frames + 1 ≤ R.frames ∧ 8 + (n2 + 11) + rm.locals ≤ R.locals) :
    CallB R s args y0.cls index y b2 n2 r2 (.code y b2 n2 r2 :: TG) rm 0 0 k := by
  have hts := X.2.2.2.2.2.1
  exact callB_of k hts (goodTG (args := args) (s := s) cd.1) rfl hc hs (hts _ cd.2.1) (hts _ hl) cd.2.2 hR
/-- a call of an instance's method -/
theorem gcV {y : MethodName} {b2 : ByteArray} {n2 k : Nat} {r2 : Option FieldType} {rm : Room} {index : Nat} {a ci : Nat} {q9 : vw_C} {fs : List Value} {As rest : List Value} {wc w1 wn : va_W} {ov : Option Value} {st0 : List Value} (X : CX g A p s m args meth c bc nL rt y0) (hP : va_P g.1 vwCl ws H) (hD : va_D A ws) (hS : va_S A s.heap H locs) (hl : lv_has ls nL lv)
    (K : Con l g y b2 n2 r2 rm (.ref a :: As) wc ov w1) (is : List Nat) (hn : va_nd is = true) (hC : is.map (fun i => ws[i]?) = wc.map some) (hw : w1.map Prod.fst = wc.map Prod.fst) (sel : List (Nat ⊕ Nat)) (hsel : wn.map some = sel.map (wlook ws w1)) (hok : selok is 0 sel = true)
    (cd : Card y b2 n2 r2 k) (hk : As.length = k) (hin : Cond.instanceMethod y ∈ TG) (hse : Cond.selects y.cls y y ∈ TG) (hlk : Cond.methodLink y0.cls index y ∈ TG) (q0 : Nat) (he : ws[q0]? = some (a, .inr (ci, fs))) (hci : vwCl[ci]? = some q9) (hcy : q9.1 = y.cls)
    (hc : rm.cells = 0) (hs : rm.slots = 0) (hR : rm.frames + 1 ≤ R.frames ∧ 8 + (n2 + 11) + rm.locals ≤ R.locals) (hst : st0 = As.reverse ++ .ref a :: rest) (hrest : (rest.map fun v => v.category).sum ≤ 8) (hdg : decode bc pc = .ok (.invokevirtual index, 3)) (hf : cells ≤ R.cells ∧ slots ≤ R.slots)
    (kk : ∀ (H1 : Heap) (locs1 : List Loc), va_P g.1 vwCl wn H1 → va_D A wn → va_S A s.heap H1 locs1 → W p l e R s m args below meth c H1 locs1 cells slots Q (F0 m (pc + 3) ls (ov.toList ++ rest))) :
    W p l e R s m args below meth c H locs cells slots Q (F0 m pc ls st0) := by
  obtain ⟨hx, hb, hml, hr, hown, hts, hlo, hnm, hA, hG, hZ⟩ := id X
  have hF := va_free (wc := wc) hD hS hA is hC
  have hrec := va_recv hG.1 hP hci he
  rw [hcy] at hrec
  exact call_on2 (y := y) hP hD hS is hC hw sel hsel hok hF (va_runV (As := As) (rest := rest) ⟨hx, hb, hml, hown, hts⟩ (K H.size) ⟨card_B X cd hlk hc hs hR, hts _ hin, hts _ hse⟩ ⟨PW_blind, hrec, pre_call X hP hD hS is hn hC hF⟩ rfl hk hl.1 hst (lv_room hrest) hdg hf) kk
/-- a call of a static method of the class itself -/
theorem gcS {y : MethodName} {b2 : ByteArray} {n2 k : Nat} {r2 : Option FieldType} {rm : Room} {index : Nat} {As rest : List Value} {wc w1 wn : va_W} {ov : Option Value} {st0 : List Value} (X : CX g A p s m args meth c bc nL rt y0) (hP : va_P g.1 vwCl ws H) (hD : va_D A ws) (hS : va_S A s.heap H locs) (hl : lv_has ls nL lv)
    (K : Con l g y b2 n2 r2 rm As wc ov w1) (is : List Nat) (hn : va_nd is = true) (hC : is.map (fun i => ws[i]?) = wc.map some) (hw : w1.map Prod.fst = wc.map Prod.fst) (sel : List (Nat ⊕ Nat)) (hsel : wn.map some = sel.map (wlook ws w1)) (hok : selok is 0 sel = true)
    (cd : Card y b2 n2 r2 k) (hk : As.length = k) (hin : Cond.static y ∈ TG) (hlk : Cond.methodLink y0.cls index y ∈ TG)
    (hc : rm.cells = 0) (hs : rm.slots = 0) (hR : rm.frames + 1 ≤ R.frames ∧ 8 + (n2 + 11) + rm.locals ≤ R.locals) (hst : st0 = As.reverse ++ rest) (hrest : (rest.map fun v => v.category).sum ≤ 8) (hdg : decode bc pc = .ok (.invokestatic index, 3)) (hf : cells ≤ R.cells ∧ slots ≤ R.slots)
    (kk : ∀ (H1 : Heap) (locs1 : List Loc), va_P g.1 vwCl wn H1 → va_D A wn → va_S A s.heap H1 locs1 → W p l e R s m args below meth c H1 locs1 cells slots Q (F0 m (pc + 3) ls (ov.toList ++ rest))) :
    W p l e R s m args below meth c H locs cells slots Q (F0 m pc ls st0) := by
  obtain ⟨hx, hb, hml, hr, hown, hts, hlo, hnm, hA, hG, hZ⟩ := id X
  have hF := va_free (wc := wc) hD hS hA is hC
  exact call_on2 (y := y) hP hD hS is hC hw sel hsel hok hF (va_runS (As := As) (rest := rest) ⟨hx, hb, hml, hown, hts⟩ (K H.size) ⟨card_B X cd hlk hc hs hR, hts _ hin⟩ ⟨PW_blind, pre_call X hP hD hS is hn hC hF⟩ rfl hk hl.1 hst (lv_room hrest) hdg hf) kk
/-- a call of a nest mate's static method -/
theorem gcSN {y : MethodName} {b2 : ByteArray} {n2 k : Nat} {r2 : Option FieldType} {rm : Room} {index : Nat} {host : String} {As rest : List Value} {wc w1 wn : va_W} {ov : Option Value} {st0 : List Value} (X : CX g A p s m args meth c bc nL rt y0) (hP : va_P g.1 vwCl ws H) (hD : va_D A ws) (hS : va_S A s.heap H locs) (hl : lv_has ls nL lv)
    (K : Con l g y b2 n2 r2 rm As wc ov w1) (is : List Nat) (hn : va_nd is = true) (hC : is.map (fun i => ws[i]?) = wc.map some) (hw : w1.map Prod.fst = wc.map Prod.fst) (sel : List (Nat ⊕ Nat)) (hsel : wn.map some = sel.map (wlook ws w1)) (hok : selok is 0 sel = true)
    (cd : Card y b2 n2 r2 k) (hk : As.length = k) (hin : Cond.static y ∈ TG) (hlk : Cond.methodLinkNest y0.cls index y host ∈ lw_tbl)
    (hc : rm.cells = 0) (hs : rm.slots = 0) (hR : rm.frames + 1 ≤ R.frames ∧ 8 + (n2 + 11) + rm.locals ≤ R.locals) (hst : st0 = As.reverse ++ rest) (hrest : (rest.map fun v => v.category).sum ≤ 8) (hdg : decode bc pc = .ok (.invokestatic index, 3)) (hf : cells ≤ R.cells ∧ slots ≤ R.slots)
    (kk : ∀ (H1 : Heap) (locs1 : List Loc), va_P g.1 vwCl wn H1 → va_D A wn → va_S A s.heap H1 locs1 → W p l e R s m args below meth c H1 locs1 cells slots Q (F0 m (pc + 3) ls (ov.toList ++ rest))) :
    W p l e R s m args below meth c H locs cells slots Q (F0 m pc ls st0) := by
  obtain ⟨hx, hb, hml, hr, hown, hts, hlo, hnm, hA, hG, hZ⟩ := id X
  have hF := va_free (wc := wc) hD hS hA is hC
  exact call_on2 (y := y) hP hD hS is hC hw sel hsel hok hF (va_runSN (As := As) (rest := rest) ⟨hx, hb, hml, hown, hts⟩ (K H.size) ⟨va_cnB k hts (goodTG (args := args) (s := s) cd.1) rfl hc hs (hG.2.1 _ hlk rfl) (hts _ cd.2.1) cd.2.2 hR, hts _ hin, trivial⟩ ⟨PW_blind, pre_call X hP hD hS is hn hC hF⟩ rfl hk hl.1 hst (lv_room hrest) hdg hf) kk
/-- a call of a nest mate's instance method -/
theorem gcVN {y : MethodName} {b2 : ByteArray} {n2 k : Nat} {r2 : Option FieldType} {rm : Room} {index : Nat} {host : String} {a ci : Nat} {q9 : vw_C} {fs : List Value} {As rest : List Value} {wc w1 wn : va_W} {ov : Option Value} {st0 : List Value} (X : CX g A p s m args meth c bc nL rt y0) (hP : va_P g.1 vwCl ws H) (hD : va_D A ws) (hS : va_S A s.heap H locs) (hl : lv_has ls nL lv)
    (K : Con l g y b2 n2 r2 rm (.ref a :: As) wc ov w1) (is : List Nat) (hn : va_nd is = true) (hC : is.map (fun i => ws[i]?) = wc.map some) (hw : w1.map Prod.fst = wc.map Prod.fst) (sel : List (Nat ⊕ Nat)) (hsel : wn.map some = sel.map (wlook ws w1)) (hok : selok is 0 sel = true)
    (cd : Card y b2 n2 r2 k) (hk : As.length = k) (hin : Cond.instanceMethod y ∈ TG) (hse : Cond.selects y.cls y y ∈ TG) (hlk : Cond.methodLinkNest y0.cls index y host ∈ lw_tbl) (q0 : Nat) (he : ws[q0]? = some (a, .inr (ci, fs))) (hci : vwCl[ci]? = some q9) (hcy : q9.1 = y.cls)
    (hc : rm.cells = 0) (hs : rm.slots = 0) (hR : rm.frames + 1 ≤ R.frames ∧ 8 + (n2 + 11) + rm.locals ≤ R.locals) (hst : st0 = As.reverse ++ .ref a :: rest) (hrest : (rest.map fun v => v.category).sum ≤ 8) (hdg : decode bc pc = .ok (.invokevirtual index, 3)) (hf : cells ≤ R.cells ∧ slots ≤ R.slots)
    (kk : ∀ (H1 : Heap) (locs1 : List Loc), va_P g.1 vwCl wn H1 → va_D A wn → va_S A s.heap H1 locs1 → W p l e R s m args below meth c H1 locs1 cells slots Q (F0 m (pc + 3) ls (ov.toList ++ rest))) :
    W p l e R s m args below meth c H locs cells slots Q (F0 m pc ls st0) := by
  obtain ⟨hx, hb, hml, hr, hown, hts, hlo, hnm, hA, hG, hZ⟩ := id X
  have hF := va_free (wc := wc) hD hS hA is hC
  have hrec := va_recv hG.1 hP hci he
  rw [hcy] at hrec
  exact call_on2 (y := y) hP hD hS is hC hw sel hsel hok hF (va_runVN (As := As) (rest := rest) ⟨hx, hb, hml, hown, hts⟩ (K H.size) ⟨va_cnB k hts (goodTG (args := args) (s := s) cd.1) rfl hc hs (hG.2.1 _ hlk rfl) (hts _ cd.2.1) cd.2.2 hR, hts _ hin, hts _ hse⟩ ⟨PW_blind, hrec, pre_call X hP hD hS is hn hC hF⟩ rfl hk hl.1 hst (lv_room hrest) hdg hf) kk
theorem ret_i {w w' : va_W} {v : Int32} (X : CX g A p s m args meth c bc nL rt y0) (hAe : va_A w s.heap.size = A) (hP : va_P g.1 vwCl w' H) (hD : va_D A w') (hS : va_S A s.heap H locs) (hrt : rt = some .int) (hdg : decode bc pc = .ok (.ireturn, 1)) : W p l e R s m args below meth c H locs 0 0 (MQ below (fun _ => QW g w s.heap.size (some (.int v)) w') args s 0 0 (va_A w s.heap.size)) (F0 m pc ls [.int v]) := by
  obtain ⟨hx, hb, hml, hr, hown, hts, hlo, hnm, hA, hG, hZ⟩ := X
  subst hAe
  exact W.iret (v := v) hx hb (hr.trans hrt) (fun t ht hW => ⟨rfl, ⟨by rw [ht]; exact hP, hD⟩, hS.F ht⟩) hS.2.2 hdg hlo
theorem ret_z {w w' : va_W} {v : Bool} (X : CX g A p s m args meth c bc nL rt y0) (hAe : va_A w s.heap.size = A) (hP : va_P g.1 vwCl w' H) (hD : va_D A w') (hS : va_S A s.heap H locs) (hrt : rt = some .boolean) (hdg : decode bc pc = .ok (.ireturn, 1)) : W p l e R s m args below meth c H locs 0 0 (MQ below (fun _ => QW g w s.heap.size (some (.int (b2i v))) w') args s 0 0 (va_A w s.heap.size)) (F0 m pc ls [.int (b2i v)]) := by
  obtain ⟨hx, hb, hml, hr, hown, hts, hlo, hnm, hA, hG, hZ⟩ := X
  subst hAe
  exact W.zret (v := b2i v) hx hb (hr.trans hrt) (by cases v <;> rfl) (fun t ht hW => ⟨rfl, ⟨by rw [ht]; exact hP, hD⟩, hS.F ht⟩) hS.2.2 hdg hlo
theorem ret_l {w w' : va_W} {v : Int64} (X : CX g A p s m args meth c bc nL rt y0) (hAe : va_A w s.heap.size = A) (hP : va_P g.1 vwCl w' H) (hD : va_D A w') (hS : va_S A s.heap H locs) (hrt : rt = some .long) (hdg : decode bc pc = .ok (.lreturn, 1)) : W p l e R s m args below meth c H locs 0 0 (MQ below (fun _ => QW g w s.heap.size (some (.long v)) w') args s 0 0 (va_A w s.heap.size)) (F0 m pc ls [.long v]) := by
  obtain ⟨hx, hb, hml, hr, hown, hts, hlo, hnm, hA, hG, hZ⟩ := X
  subst hAe
  exact W.lret (v := v) hx hb (hr.trans hrt) (fun t ht hW => ⟨rfl, ⟨by rw [ht]; exact hP, hD⟩, hS.F ht⟩) hS.2.2 hdg hlo
theorem ret_v {w w' : va_W} (X : CX g A p s m args meth c bc nL rt y0) (hAe : va_A w s.heap.size = A) (hP : va_P g.1 vwCl w' H) (hD : va_D A w') (hS : va_S A s.heap H locs) (hrt : rt = none) (hdg : decode bc pc = .ok (.return_, 1)) : W p l e R s m args below meth c H locs 0 0 (MQ below (fun _ => QW g w s.heap.size none w') args s 0 0 (va_A w s.heap.size)) (F0 m pc ls []) := by
  obtain ⟨hx, hb, hml, hr, hown, hts, hlo, hnm, hA, hG, hZ⟩ := X
  subst hAe
  exact W.vret hx hb (hr.trans hrt) (fun t ht hW => ⟨rfl, ⟨by rw [ht]; exact hP, hD⟩, hS.F ht⟩) hS.2.2 hdg hlo
theorem ret_a {w w' : va_W} {a : Nat} {C : String} (X : CX g A p s m args meth c bc nL rt y0) (hAe : va_A w s.heap.size = A) (hP : va_P g.1 vwCl w' H) (hD : va_D A w') (hS : va_S A s.heap H locs) (hrt : rt = some (.object C)) (hdg : decode bc pc = .ok (.areturn, 1)) : W p l e R s m args below meth c H locs 0 0 (MQ below (fun _ => QW g w s.heap.size (some (.ref a)) w') args s 0 0 (va_A w s.heap.size)) (F0 m pc ls [.ref a]) := by
  obtain ⟨hx, hb, hml, hr, hown, hts, hlo, hnm, hA, hG, hZ⟩ := X
  subst hAe
  exact W.aret hx hb (hr.trans hrt) (Or.inl ⟨C, rfl⟩) (Or.inr ⟨a, rfl⟩) (fun t ht hW => ⟨rfl, ⟨by rw [ht]; exact hP, hD⟩, hS.F ht⟩) hS.2.2 hdg hlo
end CALLS
