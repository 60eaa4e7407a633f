/-! The base: one list of words for all methods, one shape of contract, one rule a kind of call. -/
def TG : List Cond := lw_tbl.filter goodWord
theorem in_TG {w : Cond} (i : Nat) (h : lw_tbl[i]? = some w) (hg : goodWord w = true) : w ∈ TG := List.mem_filter.mpr ⟨List.mem_of_getElem? h, hg⟩
theorem TG_all {ws : List Cond} (ps : List Nat) (hp : ws = ps.filterMap (fun i => lw_tbl[i]?)) (h : ws.all goodWord = true) : ∀ w ∈ ws, w ∈ TG := by
  intro w hw
  have h1 := List.all_eq_true.mp h w hw
  rw [hp] at hw
  obtain ⟨i, -, hi⟩ := List.mem_filterMap.mp hw
  exact in_TG i hi h1
theorem TG_tbl {w : Cond} (h : w ∈ TG) : w ∈ lw_tbl := (List.mem_filter.mp h).1
theorem TG_good {w : Cond} (h : w ∈ TG) : (w.onTables && w.keeps) = true ∨ ∃ ty, w = .arrayClass ty := good_of_word (List.mem_filter.mp h).2
def isNest : Cond → Bool
  | .fieldLinkNest .. => true
  | .methodLinkNest .. => true
  | _ => false
abbrev GT : Type := va_G × (Nat → ClassId) × (Nat → Nat)
abbrev tyL (g : GT) : List (ClassId × FieldType) := [(g.2.1 0, .byte), (g.2.1 1, .int), (g.2.1 2, .long), (g.2.1 3, .boolean)]
/-- what the tables say: classes, nest links, the two words of text -/
def GK (g : GT) (U : State) : Prop := va_K g.1 vwCl (tyL g) U ∧ (∀ w ∈ lw_tbl, isNest w = true → va_Nw w U) ∧ vk_R RX7 56 "some" (g.2.2 1) U ∧ vk_R RX7 62 "all" (g.2.2 2) U
theorem nw_warm {w : Cond} (hn : isNest w = true) {s U : State} (hW : s.WarmedH U.vm) (h : va_Nw w s) : va_Nw w U := by
  cases w <;> first | exact va_Nw.warmF hW h | exact va_Nw.warmM hW h | (exact absurd hn (by decide)) | (simp [isNest] at hn)
theorem nw_same {w : Cond} (hn : isNest w = true) {u U : State} (hv : u.vm = U.vm) (h : va_Nw w u) : va_Nw w U := by
  cases w <;> first | exact va_Nw.same rfl hv h | (simp [isNest] at hn)
theorem GK.warm {g : GT} {s U : State} (h : GK g s) (hW : s.WarmedH U.vm) : GK g U :=
  ⟨va_K.moved hW.alike h.1, fun w hw hn => nw_warm hn hW (h.2.1 w hw hn), h.2.2.1.warm hW, h.2.2.2.warm hW⟩
theorem GK.same {g : GT} {u U : State} (h : GK g u) (hv : U.vm = u.vm) : GK g U :=
  ⟨va_K.moved (by rw [hv]; exact Vm.Alike.refl _) h.1, fun w hw hn => nw_same hn hv.symm (h.2.1 w hw hn), h.2.2.1.same hv, h.2.2.2.same hv⟩
def pattL : List Int64 := [-6148914691236517206, -3689348814741910324, -1085102592571150096, -71777214294589696, -281470681808896, -4294967296]
def lenJS : List Nat := [4, 3]
def bytJS : List (List Int32) := [[115, 111, 109, 101], [97, 108, 108]]
/-- what the heap holds that nobody writes: the table of patterns, the two texts -/
def ZS (g : GT) (A : Nat → Prop) (U : State) (H : Heap) : Prop :=
  va_Z "ChoiceGame$Table" "PATTERNS" "[J" (.ref (g.2.2 0)) A U H ∧ va_T .long (g.2.2 0) 6 (fun j => .long (pattL.getD j 0)) A U H ∧ va_Z "java/lang/String" "COMPACT_STRINGS" "Z" (.int 1) A U H ∧ vk_S 2 lenJS bytJS (fun i => g.2.2 (i + 1)) (fun i => g.2.2 (i + 3)) A U H ∧ va_Zq "jdk/internal/util/Preconditions" "SIOOBE_FORMATTER" "Ljava/util/function/BiFunction;" A U H
theorem ZS.moved {g : GT} {A : Nat → Prop} {u U : State} {H : Heap} (h : ZS g A u H) (hvm : u.vm.Alike U.vm) : ZS g A U H := ⟨h.1.moved hvm, h.2.1.moved hvm, h.2.2.1.moved hvm, h.2.2.2.1.moved hvm, h.2.2.2.2.moved hvm⟩
theorem ZS.kept {g : GT} {A : Nat → Prop} {U : State} {H H1 : Heap} (h : ZS g A U H) (hq : ∀ a : Nat, a < H.size → ¬ A a → H1[a]? = H[a]?) : ZS g A U H1 := ⟨h.1.kept hq, h.2.1.kept hq, h.2.2.1.kept hq, h.2.2.2.1.kept hq, h.2.2.2.2.kept hq⟩
theorem ZS.narrow {g : GT} {A B : Nat → Prop} {U : State} {H : Heap} (h : ZS g A U H) (hAB : ∀ q, B q → A q) : ZS g B U H := ⟨h.1.narrow hAB, h.2.1.narrow hAB, h.2.2.1.narrow hAB, h.2.2.2.1.narrow hAB, h.2.2.2.2.narrow hAB⟩
def PW (g : GT) (w : va_W) (sz : Nat) (U : State) : Prop := U.heap.size = sz ∧ va_P g.1 vwCl w U.heap ∧ GK g U ∧ va_D (fun _ => True) w ∧ ZS g (va_A w sz) U U.heap
def QW (g : GT) (w : va_W) (sz : Nat) (ov : Option Value) (w' : va_W) (st : State) (oc : Outcome) (t : State) : Prop := oc = .returned ov ∧ (va_P g.1 vwCl w' t.heap ∧ va_D (va_A w sz) w') ∧ va_F (va_A w sz) st t
/-- a method's contract: with the cells w it answers ov, and the cells are w' -/
def Con (l : Launch) (g : GT) (y : MethodName) (bc : ByteArray) (nL : Nat) (rt : Option FieldType) (rm : Room) (As : List Value) (w : va_W) (ov : Option Value) (w' : va_W) : Prop :=
  ∀ sz, Met l y (.code y bc nL rt :: TG) rm (va_Pc As (PW g w sz)) (fun _ => QW g w sz ov w') 0 0 (va_A w sz)
theorem PW_blind {g : GT} {w : va_W} {sz : Nat} {As : List Value} : FrameBlind (va_Pc As (PW g w sz)) := by
  intro a U gg mk h
  obtain ⟨h0, h1, h2, h3, h4, h5⟩ := h
  exact ⟨h0, h1, h2, h3.same rfl, h4, h5.moved (Vm.Alike.refl U.vm)⟩
/-- what holds in a method's body -/
def CX (g : GT) (A : Nat → Prop) (p : Program) (s : State) (m : MethodId) (args : Array Value) (meth : Method) (c : Code) (bc : ByteArray) (nL : Nat) (rt : Option FieldType) (y : MethodName) : Prop :=
  p.tables.exec = Jvm.exec ∧ c.code = bc ∧ c.maxLocals = nL ∧ meth.sig.returnType = rt ∧ s.vm.findClass y.cls = some m.cls ∧ (∀ w ∈ TG, w.before args s = true) ∧ meth.locks = false ∧ meth.name = y.name ∧ (∀ q : Nat, s.heap.size ≤ q → A q) ∧ GK g s ∧ ZS g A s s.heap
theorem Con.of {l : Launch} {g : GT} {y : MethodName} {bc : ByteArray} {nL : Nat} {rt : Option FieldType} {rm : Room} {As : List Value} {w : va_W} {ov : Option Value} {w' : va_W} (hy : plainName y.cls = true) (hAs : (lg_sl As).length ≤ nL)
    (body : ∀ (p : Program) (e : Env) (s : State) (m : MethodId) (below : List Frame) (meth : Method) (c : Code) (A : Nat → Prop) (ls : Array Slot), va_A w s.heap.size = A → CX g A p s m As.toArray meth c bc nL rt y → va_P g.1 vwCl w s.heap → va_D A w → va_S A s.heap s.heap [] → lv_has ls nL (lv_args 0 As) →
      W p l e rm s m As.toArray below meth c s.heap [] 0 0 (MQ below (fun _ => QW g w s.heap.size ov w') As.toArray s 0 0 (va_A w s.heap.size)) (F0 m 0 ls [])) : Con l g y bc nL rt rm As w ov w' := by
  intro sz
  refine Met.ofW (cc := bc) (maxL := nL) (ret := rt) hy rfl ?_
  intro p e s m args below meth c s₁ B hml hv
  obtain ⟨rfl, hsz, hP, hK, hD0, hZ⟩ := hv
  subst hsz
  have hts := atoms_spec (ws := (.code y bc nL rt :: TG)) B.pre
  rw [lg_entry_eq]
  exact body p e s m below meth c _ _ rfl ⟨B.exec, B.bytes, hml, B.returns, findClass_of_methodNamed B.named, fun w hw => hts w (List.mem_cons_of_mem _ hw), B.notSynchronized, (name_of_methodNamed B.named B.method).1, fun q h => Or.inr h, hK, hZ⟩ hP hD0.self va_S.rf (lv_entry As hAs)
/-- put cells back to their places -/
def wput (ws : va_W) : List Nat → va_W → va_W
  | i :: is, c :: cs => wput (ws.set i c) is cs
  | _, _ => ws
theorem wput_get : ∀ (is : List Nat) (cs ws : va_W) (k : Nat) (q : Nat × va_E), (wput ws is cs)[k]? = some q → q ∈ cs ∨ (ws[k]? = some q ∧ ∀ i ∈ is.take cs.length, i ≠ k) := by
  intro is
  induction is with
  | nil => intro cs ws k q h; exact Or.inr ⟨by simpa [wput] using h, fun i hi => by simp at hi⟩
  | cons i is ih =>
    intro cs ws k q h
    cases cs with
    | nil => exact Or.inr ⟨by simpa [wput] using h, fun i hi => by simp at hi⟩
    | cons c cs =>
      rcases ih cs (ws.set i c) k q (by simpa [wput] using h) with h1 | ⟨h1, h2⟩
      · exact Or.inl (List.mem_cons_of_mem _ h1)
      · by_cases hik : i = k
        · subst hik
          have hl : i < ws.length := by
            have := (List.getElem?_eq_some_iff.mp h1).1
            simpa using this
          rw [List.getElem?_set_self hl] at h1
          cases h1
          exact Or.inl List.mem_cons_self
        · rw [List.getElem?_set_ne hik] at h1
          refine Or.inr ⟨h1, fun j hj => ?_⟩
          simp only [List.length_cons, List.take_succ_cons, List.mem_cons] at hj
          rcases hj with rfl | hj
          · exact hik
          · exact h2 j hj
theorem wput_fst : ∀ (is : List Nat) (cs ws : va_W), (∀ (j i : Nat) (c : Nat × va_E), is[j]? = some i → cs[j]? = some c → ∃ e, ws[i]? = some (c.1, e)) → (wput ws is cs).map Prod.fst = ws.map Prod.fst := by
  intro is
  induction is with
  | nil => intro cs ws _; cases cs <;> rfl
  | cons i is ih =>
    intro cs ws h
    cases cs with
    | nil => rfl
    | cons c cs =>
      obtain ⟨e0, h0⟩ := h 0 i c rfl rfl
      have hset : (ws.set i c).map Prod.fst = ws.map Prod.fst := by
        rw [List.map_set]
        have hl := (List.getElem?_eq_some_iff.mp h0).1
        apply List.ext_getElem?
        intro k
        by_cases hk : i = k
        · subst hk
          rw [List.getElem?_set_self (by simpa using hl), List.getElem?_map, h0]
          rfl
        · rw [List.getElem?_set_ne hk]
      show (wput (ws.set i c) is cs).map Prod.fst = _
      rw [ih cs (ws.set i c) ?_, hset]
      intro j i2 c2 hj hc2
      obtain ⟨e, he⟩ := h (j + 1) i2 c2 hj hc2
      have h1 : ((ws.set i c).map Prod.fst)[i2]? = some c2.1 := by rw [hset, List.getElem?_map, he]; rfl
      rw [List.getElem?_map] at h1
      cases hh : (ws.set i c)[i2]? with
      | none => rw [hh] at h1; cases h1
      | some q => rw [hh] at h1; exact ⟨q.2, by rw [← Option.some.inj h1]⟩
theorem va_D.fst {A : Nat → Prop} {w1 w2 : va_W} (h : va_D A w1) (e : w2.map Prod.fst = w1.map Prod.fst) : va_D A w2 := by
  have key : ∀ (k : Nat) (q : Nat × va_E), w2[k]? = some q → ∃ q0, w1[k]? = some q0 ∧ q0.1 = q.1 := by
    intro k q hk
    have h1 : (w1.map Prod.fst)[k]? = some q.1 := by rw [← e, List.getElem?_map, hk]; rfl
    rw [List.getElem?_map] at h1
    cases hh : w1[k]? with
    | none => rw [hh] at h1; cases h1
    | some q0 => rw [hh] at h1; exact ⟨q0, rfl, Option.some.inj h1⟩
  refine ⟨fun i j x y hi hj hxy => ?_, fun k q hk => ?_⟩
  · obtain ⟨x0, h1, h2⟩ := key i x hi
    obtain ⟨y0, h3, h4⟩ := key j y hj
    exact h.1 i j x0 y0 h1 h3 (h2.trans (hxy.trans h4.symm))
  · obtain ⟨q0, h1, h2⟩ := key k q hk
    rw [← h2]
    exact h.2 k q0 h1
/-- behind a call that makes nothing: the callee's cells at their places, all others as they were -/
theorem wjoin {A0 : Nat → Prop} {D : va_G} {cl : List vw_C} {ws wc w1 : va_W} {H H1 : Heap} (hP : va_P D cl ws H) (hD : va_D A0 ws) (is : List Nat) (hC : is.map (fun i => ws[i]?) = wc.map some) (hw : w1.map Prod.fst = wc.map Prod.fst)
    (hk : ∀ q : Nat, q < H.size → ¬ va_A wc H.size q → H1[q]? = H[q]?) (hP1 : va_P D cl w1 H1) : va_P D cl (wput ws is w1) H1 ∧ va_D A0 (wput ws is w1) := by
  have hlen : is.length = wc.length := by have := congrArg List.length hC; simpa using this
  have hlen1 : w1.length = wc.length := by have := congrArg List.length hw; simpa using this
  have at' : ∀ (k : Nat) (q : Nat × va_E), wc[k]? = some q → ∃ i, is[k]? = some i ∧ ws[i]? = some q := by
    intro k q hq
    have h1 : (is.map (fun i => ws[i]?))[k]? = some (some q) := by rw [hC, List.getElem?_map, hq]; rfl
    rw [List.getElem?_map] at h1
    cases hi : is[k]? with
    | none => rw [hi] at h1; cases h1
    | some i => rw [hi] at h1; exact ⟨i, rfl, Option.some.inj h1⟩
  refine ⟨fun k q hq => ?_, hD.fst (wput_fst is w1 ws ?_)⟩
  · rcases wput_get is w1 ws k q hq with h | ⟨h, hn⟩
    · obtain ⟨j, hj⟩ := List.getElem?_of_mem h
      exact hP1 j q hj
    · have hl := (hP k q h).lt
      refine (hP k q h).kept (hk q.1 hl fun hA => ?_)
      rcases hA with ⟨k2, e, h2⟩ | h2
      · obtain ⟨i, hi, hwi⟩ := at' k2 (q.1, e) h2
        have hik := hD.1 k i q (q.1, e) h hwi rfl
        subst hik
        refine hn k ?_ rfl
        rw [hlen1, ← hlen, List.take_length]
        exact List.mem_of_getElem? hi
      · omega
  · intro j i c hj hc
    have h1 : (wc.map Prod.fst)[j]? = some c.1 := by rw [← hw, List.getElem?_map, hc]; rfl
    rw [List.getElem?_map] at h1
    cases hh : wc[j]? with
    | none => rw [hh] at h1; cases h1
    | some q =>
      rw [hh] at h1
      obtain ⟨i2, hi2, hw2⟩ := at' j q hh
      cases hj.symm.trans hi2
      exact ⟨q.2, by rw [hw2, ← Option.some.inj h1]⟩
/-- a method's card: what the tables say of it -/
def Card (y : MethodName) (bc : ByteArray) (nL : Nat) (rt : Option FieldType) (n : Nat) : Prop :=
  Cond.code y bc nL rt ∈ TG ∧ Cond.initialized y.cls ∈ TG ∧ (y.cls ≠ "java/lang/invoke/MethodHandle" ∧ y.cls ≠ "java/lang/invoke/VarHandle" ∧ (parseMethodDescriptor y.desc).map (fun d => d.parameters.length) = some n)
theorem goodTG {args : Array Value} {s : State} {y : MethodName} {bc : ByteArray} {nL : Nat} {rt : Option FieldType} (hy : Cond.code y bc nL rt ∈ TG) : GoodIn TG (.code y bc nL rt :: TG) := by
  intro w hw
  rcases List.mem_cons.mp hw with rfl | hw
  · exact ⟨hy, TG_good hy⟩
  · exact ⟨hw, TG_good hw⟩
