def b2i (b : Bool) : Int32 := if b then 1 else 0
def ix (i : Int32) (n : Nat) : Bool := !(decide (i < 0)) && decide (i.toNatClampNeg < n)
theorem ix_in {i : Int32} {n : Nat} (h : ix i n = true) : vp_in i n := by
  unfold ix at h
  simp only [Bool.and_eq_true, Bool.not_eq_true', decide_eq_false_iff_not, decide_eq_true_eq] at h
  intro hh
  rcases hh with hh | hh
  · exact h.1 hh
  · omega
theorem ifs {α : Type} {b : Bool} {A : Option α} {r : α} (h : (if b = true then A else none) = some r) : b = true ∧ A = some r := by
  cases b with
  | false => simp at h
  | true => exact ⟨rfl, by simpa using h⟩
theorem ift {α : Type} {c : Prop} {dc : Decidable c} {A B : Option α} {r : α} (h : (if c then A else B) = some r) (hc : c) : A = some r := by rw [if_pos hc] at h; exact h
theorem iff_ {α : Type} {c : Prop} {dc : Decidable c} {A B : Option α} {r : α} (h : (if c then A else B) = some r) (hc : ¬ c) : B = some r := by rw [if_neg hc] at h; exact h
theorem obind {α β : Type} {o : Option α} {k : α → Option β} {r : β} (h : o.bind k = some r) : ∃ a, o = some a ∧ k a = some r := by
  cases o with
  | none => simp at h
  | some a => exact ⟨a, rfl, h⟩
section CALLS
variable {p : Program} {l : Launch} {e : Env} {R : Room} {s : State} {m : MethodId} {args : Array Value} {below : List Frame} {meth : Method} {c : Code} {H : Heap} {locs : List Loc} {cells slots : Nat} {Q : State → Prop}
variable {g : GT} {A : Nat → Prop} {bc : ByteArray} {nL : Nat} {rt : Option FieldType} {y0 : MethodName} {pc : Nat} {ls : Array Slot} {ws : va_W} {lv : List (Nat × Value)}
theorem ZS.at {locs : List Loc} (hZ : ZS g A s s.heap) (hS : va_S A s.heap H locs) {U : State} (hU : U.heap = H) (hW : s.WarmedH U.vm) {B : Nat → Prop} (hB : ∀ q, B q → A q) : ZS g B U U.heap := by
  rw [hU]
  exact ((hZ.moved hW.alike).kept (fun a h1 h2 => hS.2.1 a h1 h2)).narrow hB
/-- behind a call -/
theorem call_on {y : MethodName} {wc w1 : va_W} {ov : Option Value} {rest st0 : List Value} (hP : va_P g.1 vwCl ws H) (hD : va_D A ws) (hS : va_S A s.heap H locs) (is : List Nat) (hC : is.map (fun i => ws[i]?) = wc.map some) (hw : w1.map Prod.fst = wc.map Prod.fst) (hF : ∀ q, va_A wc H.size q → A q)
    (hr : va_Run p l e R s m args below meth c H locs cells slots 0 0 (F0 m pc ls st0) rest (QW g wc H.size ov w1) (va_A wc H.size))
    (kk : ∀ (H1 : Heap) (locs1 : List Loc), va_P g.1 vwCl (wput ws is w1) H1 → va_D A (wput ws is w1) → va_S A s.heap H1 locs1 → W p l e R s m args below meth c H1 locs1 cells slots Q (F0 m (pc + 3) ls (ov.toList ++ rest))) :
    W p l e R s m args below meth c H locs cells slots Q (F0 m pc ls st0) := by
  intro T hT X
  obtain ⟨v, st₀, t, T', L, h0, X', hL, e1, e2, ⟨hv, ⟨hP1, hD1⟩, hz, hk⟩, st⟩ := hr T hT X
  cases hv
  rw [h0] at hz hk
  obtain ⟨hPn, hDn⟩ := wjoin (H1 := t.heap) hP hD is hC hw (fun q h1 h2 => hk q h1 h2) hP1
  obtain ⟨t2, a1, b1⟩ := kk T'.heap (locs ++ L) (by rw [e1]; exact hPn) hDn
    ⟨Nat.le_trans hS.1 (by rw [e1]; exact hz), fun q h1 h2 => by rw [e1, hk q (Nat.lt_of_lt_of_le h1 hS.1) (fun z => h2 (hF q z))]; exact hS.2.1 q h1 h2, fun q hq => by
      rcases List.mem_append.mp hq with h | h
      · exact hS.2.2 q h
      · exact hF _ (hL q h)⟩ T' rfl X'
  exact ⟨t2, st t2 a1, b1⟩
theorem pre_call {As : List Value} {wc : va_W} (X : CX g A p s m args meth c bc nL rt y0) (hP : va_P g.1 vwCl ws H) (hD : va_D A ws) (hS : va_S A s.heap H locs) (is : List Nat) (hn : va_nd is = true) (hC : is.map (fun i => ws[i]?) = wc.map some) (hF : ∀ q, va_A wc H.size q → A q) :
    ∀ U : State, U.heap = H → s.WarmedH U.vm → va_Pc As (PW g wc H.size) As.toArray U := by
  intro U hU hW
  obtain ⟨-, -, -, -, -, -, -, -, hA, hG, hZ⟩ := X
  have hDc := hD.sub is hn hC
  refine ⟨rfl, by rw [hU], fun k q hq => ?_, hG.warm hW, hDc.weaken (fun _ _ _ _ => trivial), hZ.at hS hU hW hF⟩
  rw [hU]
  have h1 : (is.map (fun i => ws[i]?))[k]? = some (some q) := by rw [hC, List.getElem?_map, hq]; rfl
  rw [List.getElem?_map] at h1
  cases hi : is[k]? with
  | none => rw [hi] at h1; cases h1
  | some i => rw [hi] at h1; exact hP i q (Option.some.inj h1)
theorem card_B {y : MethodName} {b2 : ByteArray} {n2 k : Nat} {r2 : Option FieldType} {rm : Room} {index : Nat} (X : CX g A p s m args meth c bc nL rt y0) (cd : Card y b2 n2 r2 k) (hl : Cond.methodLink y0.cls index y ∈ TG) (hc : rm.cells = 0) (hs : rm.slots = 0) (hR : rm.frames + 1 ≤ R.frames ∧ 8 + (n2 + 11) + rm.locals ≤ R.locals) :
    CallB R s args y0.cls index y b2 n2 r2 (.code y b2 n2 r2 :: TG) rm 0 0 k := by
  have hts := X.2.2.2.2.2.1
  exact callB_of k hts (goodTG (args := args) (s := s) cd.1) rfl hc hs (hts _ cd.2.1) (hts _ hl) cd.2.2 hR
/-- a call of an instance's method -/
theorem gcV {y : MethodName} {b2 : ByteArray} {n2 k : Nat} {r2 : Option FieldType} {rm : Room} {index : Nat} {a ci : Nat} {q9 : vw_C} {fs : List Value} {As rest : List Value} {wc w1 : va_W} {ov : Option Value} {st0 : List Value} (X : CX g A p s m args meth c bc nL rt y0) (hP : va_P g.1 vwCl ws H) (hD : va_D A ws) (hS : va_S A s.heap H locs) (hl : lv_has ls nL lv)
    (K : Con l g y b2 n2 r2 rm (.ref a :: As) wc ov w1) (is : List Nat) (hn : va_nd is = true) (hC : is.map (fun i => ws[i]?) = wc.map some) (hw : w1.map Prod.fst = wc.map Prod.fst)
    (cd : Card y b2 n2 r2 k) (hk : As.length = k) (hin : Cond.instanceMethod y ∈ TG) (hse : Cond.selects y.cls y y ∈ TG) (hlk : Cond.methodLink y0.cls index y ∈ TG) (q0 : Nat) (he : ws[q0]? = some (a, .inr (ci, fs))) (hci : vwCl[ci]? = some q9) (hcy : q9.1 = y.cls)
    (hc : rm.cells = 0) (hs : rm.slots = 0) (hR : rm.frames + 1 ≤ R.frames ∧ 8 + (n2 + 11) + rm.locals ≤ R.locals) (hst : st0 = As.reverse ++ .ref a :: rest) (hrest : (rest.map fun v => v.category).sum ≤ 8) (hdg : decode bc pc = .ok (.invokevirtual index, 3)) (hf : cells ≤ R.cells ∧ slots ≤ R.slots)
    (kk : ∀ (H1 : Heap) (locs1 : List Loc), va_P g.1 vwCl (wput ws is w1) H1 → va_D A (wput ws is w1) → va_S A s.heap H1 locs1 → W p l e R s m args below meth c H1 locs1 cells slots Q (F0 m (pc + 3) ls (ov.toList ++ rest))) :
    W p l e R s m args below meth c H locs cells slots Q (F0 m pc ls st0) := by
  obtain ⟨hx, hb, hml, hr, hown, hts, hlo, hnm, hA, hG, hZ⟩ := id X
  have hF := va_free (wc := wc) hD hS hA is hC
  have hrec := va_recv hG.1 hP hci he
  rw [hcy] at hrec
  exact call_on (y := y) hP hD hS is hC hw hF (va_runV (As := As) (rest := rest) ⟨hx, hb, hml, hown, hts⟩ (K H.size) ⟨card_B X cd hlk hc hs hR, hts _ hin, hts _ hse⟩ ⟨PW_blind, hrec, pre_call X hP hD hS is hn hC hF⟩ rfl hk hl.1 hst (lv_room hrest) hdg hf) kk
/-- a call of a static method of the class itself -/
theorem gcS {y : MethodName} {b2 : ByteArray} {n2 k : Nat} {r2 : Option FieldType} {rm : Room} {index : Nat} {As rest : List Value} {wc w1 : va_W} {ov : Option Value} {st0 : List Value} (X : CX g A p s m args meth c bc nL rt y0) (hP : va_P g.1 vwCl ws H) (hD : va_D A ws) (hS : va_S A s.heap H locs) (hl : lv_has ls nL lv)
    (K : Con l g y b2 n2 r2 rm As wc ov w1) (is : List Nat) (hn : va_nd is = true) (hC : is.map (fun i => ws[i]?) = wc.map some) (hw : w1.map Prod.fst = wc.map Prod.fst)
    (cd : Card y b2 n2 r2 k) (hk : As.length = k) (hin : Cond.static y ∈ TG) (hlk : Cond.methodLink y0.cls index y ∈ TG)
    (hc : rm.cells = 0) (hs : rm.slots = 0) (hR : rm.frames + 1 ≤ R.frames ∧ 8 + (n2 + 11) + rm.locals ≤ R.locals) (hst : st0 = As.reverse ++ rest) (hrest : (rest.map fun v => v.category).sum ≤ 8) (hdg : decode bc pc = .ok (.invokestatic index, 3)) (hf : cells ≤ R.cells ∧ slots ≤ R.slots)
    (kk : ∀ (H1 : Heap) (locs1 : List Loc), va_P g.1 vwCl (wput ws is w1) H1 → va_D A (wput ws is w1) → va_S A s.heap H1 locs1 → W p l e R s m args below meth c H1 locs1 cells slots Q (F0 m (pc + 3) ls (ov.toList ++ rest))) :
    W p l e R s m args below meth c H locs cells slots Q (F0 m pc ls st0) := by
  obtain ⟨hx, hb, hml, hr, hown, hts, hlo, hnm, hA, hG, hZ⟩ := id X
  have hF := va_free (wc := wc) hD hS hA is hC
  exact call_on (y := y) hP hD hS is hC hw hF (va_runS (As := As) (rest := rest) ⟨hx, hb, hml, hown, hts⟩ (K H.size) ⟨card_B X cd hlk hc hs hR, hts _ hin⟩ ⟨PW_blind, pre_call X hP hD hS is hn hC hF⟩ rfl hk hl.1 hst (lv_room hrest) hdg hf) kk
/-- a call of a nest mate's static method -/
theorem gcSN {y : MethodName} {b2 : ByteArray} {n2 k : Nat} {r2 : Option FieldType} {rm : Room} {index : Nat} {host : String} {As rest : List Value} {wc w1 : va_W} {ov : Option Value} {st0 : List Value} (X : CX g A p s m args meth c bc nL rt y0) (hP : va_P g.1 vwCl ws H) (hD : va_D A ws) (hS : va_S A s.heap H locs) (hl : lv_has ls nL lv)
    (K : Con l g y b2 n2 r2 rm As wc ov w1) (is : List Nat) (hn : va_nd is = true) (hC : is.map (fun i => ws[i]?) = wc.map some) (hw : w1.map Prod.fst = wc.map Prod.fst)
    (cd : Card y b2 n2 r2 k) (hk : As.length = k) (hin : Cond.static y ∈ TG) (hlk : Cond.methodLinkNest y0.cls index y host ∈ lw_tbl)
    (hc : rm.cells = 0) (hs : rm.slots = 0) (hR : rm.frames + 1 ≤ R.frames ∧ 8 + (n2 + 11) + rm.locals ≤ R.locals) (hst : st0 = As.reverse ++ rest) (hrest : (rest.map fun v => v.category).sum ≤ 8) (hdg : decode bc pc = .ok (.invokestatic index, 3)) (hf : cells ≤ R.cells ∧ slots ≤ R.slots)
    (kk : ∀ (H1 : Heap) (locs1 : List Loc), va_P g.1 vwCl (wput ws is w1) H1 → va_D A (wput ws is w1) → va_S A s.heap H1 locs1 → W p l e R s m args below meth c H1 locs1 cells slots Q (F0 m (pc + 3) ls (ov.toList ++ rest))) :
    W p l e R s m args below meth c H locs cells slots Q (F0 m pc ls st0) := by
  obtain ⟨hx, hb, hml, hr, hown, hts, hlo, hnm, hA, hG, hZ⟩ := id X
  have hF := va_free (wc := wc) hD hS hA is hC
  exact call_on (y := y) hP hD hS is hC hw hF (va_runSN (As := As) (rest := rest) ⟨hx, hb, hml, hown, hts⟩ (K H.size) ⟨va_cnB k hts (goodTG (args := args) (s := s) cd.1) rfl hc hs (hG.2.1 _ hlk rfl) (hts _ cd.2.1) cd.2.2 hR, hts _ hin, trivial⟩ ⟨PW_blind, pre_call X hP hD hS is hn hC hF⟩ rfl hk hl.1 hst (lv_room hrest) hdg hf) kk
/-- a call of a nest mate's instance method -/
theorem gcVN {y : MethodName} {b2 : ByteArray} {n2 k : Nat} {r2 : Option FieldType} {rm : Room} {index : Nat} {host : String} {a ci : Nat} {q9 : vw_C} {fs : List Value} {As rest : List Value} {wc w1 : va_W} {ov : Option Value} {st0 : List Value} (X : CX g A p s m args meth c bc nL rt y0) (hP : va_P g.1 vwCl ws H) (hD : va_D A ws) (hS : va_S A s.heap H locs) (hl : lv_has ls nL lv)
    (K : Con l g y b2 n2 r2 rm (.ref a :: As) wc ov w1) (is : List Nat) (hn : va_nd is = true) (hC : is.map (fun i => ws[i]?) = wc.map some) (hw : w1.map Prod.fst = wc.map Prod.fst)
    (cd : Card y b2 n2 r2 k) (hk : As.length = k) (hin : Cond.instanceMethod y ∈ TG) (hse : Cond.selects y.cls y y ∈ TG) (hlk : Cond.methodLinkNest y0.cls index y host ∈ lw_tbl) (q0 : Nat) (he : ws[q0]? = some (a, .inr (ci, fs))) (hci : vwCl[ci]? = some q9) (hcy : q9.1 = y.cls)
    (hc : rm.cells = 0) (hs : rm.slots = 0) (hR : rm.frames + 1 ≤ R.frames ∧ 8 + (n2 + 11) + rm.locals ≤ R.locals) (hst : st0 = As.reverse ++ .ref a :: rest) (hrest : (rest.map fun v => v.category).sum ≤ 8) (hdg : decode bc pc = .ok (.invokevirtual index, 3)) (hf : cells ≤ R.cells ∧ slots ≤ R.slots)
    (kk : ∀ (H1 : Heap) (locs1 : List Loc), va_P g.1 vwCl (wput ws is w1) H1 → va_D A (wput ws is w1) → va_S A s.heap H1 locs1 → W p l e R s m args below meth c H1 locs1 cells slots Q (F0 m (pc + 3) ls (ov.toList ++ rest))) :
    W p l e R s m args below meth c H locs cells slots Q (F0 m pc ls st0) := by
  obtain ⟨hx, hb, hml, hr, hown, hts, hlo, hnm, hA, hG, hZ⟩ := id X
  have hF := va_free (wc := wc) hD hS hA is hC
  have hrec := va_recv hG.1 hP hci he
  rw [hcy] at hrec
  exact call_on (y := y) hP hD hS is hC hw hF (va_runVN (As := As) (rest := rest) ⟨hx, hb, hml, hown, hts⟩ (K H.size) ⟨va_cnB k hts (goodTG (args := args) (s := s) cd.1) rfl hc hs (hG.2.1 _ hlk rfl) (hts _ cd.2.1) cd.2.2 hR, hts _ hin, hts _ hse⟩ ⟨PW_blind, hrec, pre_call X hP hD hS is hn hC hF⟩ rfl hk hl.1 hst (lv_room hrest) hdg hf) kk
theorem ret_i {w w' : va_W} {v : Int32} (X : CX g A p s m args meth c bc nL rt y0) (hAe : va_A w s.heap.size = A) (hP : va_P g.1 vwCl w' H) (hD : va_D A w') (hS : va_S A s.heap H locs) (hrt : rt = some .int) (hdg : decode bc pc = .ok (.ireturn, 1)) : W p l e R s m args below meth c H locs 0 0 (MQ below (fun _ => QW g w s.heap.size (some (.int v)) w') args s 0 0 (va_A w s.heap.size)) (F0 m pc ls [.int v]) := by
  obtain ⟨hx, hb, hml, hr, hown, hts, hlo, hnm, hA, hG, hZ⟩ := X
  subst hAe
  exact W.iret (v := v) hx hb (hr.trans hrt) (fun t ht hW => ⟨rfl, ⟨by rw [ht]; exact hP, hD⟩, hS.F ht⟩) hS.2.2 hdg hlo
theorem ret_z {w w' : va_W} {v : Bool} (X : CX g A p s m args meth c bc nL rt y0) (hAe : va_A w s.heap.size = A) (hP : va_P g.1 vwCl w' H) (hD : va_D A w') (hS : va_S A s.heap H locs) (hrt : rt = some .boolean) (hdg : decode bc pc = .ok (.ireturn, 1)) : W p l e R s m args below meth c H locs 0 0 (MQ below (fun _ => QW g w s.heap.size (some (.int (b2i v))) w') args s 0 0 (va_A w s.heap.size)) (F0 m pc ls [.int (b2i v)]) := by
  obtain ⟨hx, hb, hml, hr, hown, hts, hlo, hnm, hA, hG, hZ⟩ := X
  subst hAe
  exact W.zret (v := b2i v) hx hb (hr.trans hrt) (by cases v <;> rfl) (fun t ht hW => ⟨rfl, ⟨by rw [ht]; exact hP, hD⟩, hS.F ht⟩) hS.2.2 hdg hlo
theorem ret_l {w w' : va_W} {v : Int64} (X : CX g A p s m args meth c bc nL rt y0) (hAe : va_A w s.heap.size = A) (hP : va_P g.1 vwCl w' H) (hD : va_D A w') (hS : va_S A s.heap H locs) (hrt : rt = some .long) (hdg : decode bc pc = .ok (.lreturn, 1)) : W p l e R s m args below meth c H locs 0 0 (MQ below (fun _ => QW g w s.heap.size (some (.long v)) w') args s 0 0 (va_A w s.heap.size)) (F0 m pc ls [.long v]) := by
  obtain ⟨hx, hb, hml, hr, hown, hts, hlo, hnm, hA, hG, hZ⟩ := X
  subst hAe
  exact W.lret (v := v) hx hb (hr.trans hrt) (fun t ht hW => ⟨rfl, ⟨by rw [ht]; exact hP, hD⟩, hS.F ht⟩) hS.2.2 hdg hlo
theorem ret_v {w w' : va_W} (X : CX g A p s m args meth c bc nL rt y0) (hAe : va_A w s.heap.size = A) (hP : va_P g.1 vwCl w' H) (hD : va_D A w') (hS : va_S A s.heap H locs) (hrt : rt = none) (hdg : decode bc pc = .ok (.return_, 1)) : W p l e R s m args below meth c H locs 0 0 (MQ below (fun _ => QW g w s.heap.size none w') args s 0 0 (va_A w s.heap.size)) (F0 m pc ls []) := by
  obtain ⟨hx, hb, hml, hr, hown, hts, hlo, hnm, hA, hG, hZ⟩ := X
  subst hAe
  exact W.vret hx hb (hr.trans hrt) (fun t ht hW => ⟨rfl, ⟨by rw [ht]; exact hP, hD⟩, hS.F ht⟩) hS.2.2 hdg hlo
theorem ret_a {w w' : va_W} {a : Nat} {C : String} (X : CX g A p s m args meth c bc nL rt y0) (hAe : va_A w s.heap.size = A) (hP : va_P g.1 vwCl w' H) (hD : va_D A w') (hS : va_S A s.heap H locs) (hrt : rt = some (.object C)) (hdg : decode bc pc = .ok (.areturn, 1)) : W p l e R s m args below meth c H locs 0 0 (MQ below (fun _ => QW g w s.heap.size (some (.ref a)) w') args s 0 0 (va_A w s.heap.size)) (F0 m pc ls [.ref a]) := by
  obtain ⟨hx, hb, hml, hr, hown, hts, hlo, hnm, hA, hG, hZ⟩ := X
  subst hAe
  exact W.aret hx hb (hr.trans hrt) (Or.inl ⟨C, rfl⟩) (Or.inr ⟨a, rfl⟩) (fun t ht hW => ⟨rfl, ⟨by rw [ht]; exact hP, hD⟩, hS.F ht⟩) hS.2.2 hdg hlo
end CALLS
