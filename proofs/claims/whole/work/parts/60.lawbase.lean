/-! THE CLAIM OUT OF ONE WALK OF THE LAW'S BODY. Your part is whole_start (and what it stands on); all else here is the same for every law, but numbers. -/
def R_law : String := "ChoiceGameLaw"
def lw_P (b : Addr) (xs : List Int32) (args : Array Value) (s : State) : Prop := args = #[.ref b] ∧ s.IntsAt b xs ∧ xs.length ≤ 3072 ∧ (Jvm.Cond.and given_1 narrow_1).before args s = true
def lw_Q (_ : Array Value) (s : State) (o : Outcome) (t : State) : Prop := o = .returned (some (.int 1)) ∧ Framed s o t [] 72 28185
def lw_Z (below : List Frame) (a : Array Value) (s : State) : State → Prop := fun t => ∃ o, t.status = .running ∧ Ended t below o ∧ lw_Q a s o t
/-- the law's own end, with 1 on the stack, nothing written that was there before, its room as the claim has it -/
theorem lw_ret {p : Program} {l : Launch} {e : Env} {s : State} {m : MethodId} {below : List Frame} {meth : Method} {c : Code} {b : Nat} (hx : p.tables.exec = Jvm.exec) (hb : c.code = code) (hr : meth.sig.returnType = ret) (hlocks : meth.locks = false) {pc : Nat} {H : Heap} {ls : Array Slot} (hdg : decode code pc = .ok (.ireturn, 1)) : W p l e room_1 s m #[Value.ref b] below meth c H [] 72 28185 (lw_Z below #[Value.ref b] s) (F0 m pc ls [.int 1]) := by
  intro T hT X
  obtain ⟨fs, hret, hrun, hended, hW, hframe⟩ := X.leave (v := some (.int 1)) (hlocks := hlocks) (fun h => by rw [hr] at h; cases h)
  have hmeth' : T.vm.method? m = some meth := X.method'
  refine ⟨T.setFrames fs, ?_, .returned (some (.int 1)), hrun, hended, rfl, ⟨_, rfl⟩, hW, hframe⟩
  jvm_step X.here [X.here.top, hx, hb, hdg, hmeth', hr, ret, narrow_b1]
  (try refine ⟨rfl, ?_⟩); (try refine ⟨rfl, ?_⟩)
  first | (intro acts; rw [hret _ acts rfl rfl rfl]) | rw [hret _ _ rfl rfl rfl]
  exact Steps.refl _
/-- what holds at the law's entry: the machine, the code, the tables' words (any of lw_tbl by 'hts w (by decide +kernel)'), the script of L ints xs at the cell b, what the Statement gives of the start (any of its parts by flat_of_before) -/
def lw_At (p : Program) (s : State) (m : MethodId) (meth : Method) (c : Code) (b L : Nat) (xs : Nat → Int32) : Prop :=
  p.tables.exec = Jvm.exec ∧ c.code = code ∧ meth.sig.returnType = ret ∧ c.maxLocals = 4 ∧ s.vm.findClass R_law = some m.cls ∧ (∀ w ∈ lw_tbl, w.before #[Value.ref b] s = true) ∧ va_X b L xs s s.heap ∧ b < s.heap.size ∧ meth.locks = false ∧ (Jvm.Cond.and given_1 narrow_1).before #[Value.ref b] s = true
/-! what holds at the law's start: the classes, the arrays' classes, the statics and texts that nobody writes -/
theorem arr_at {args : Array Value} {s : State} {ty : FieldType} (hR : ∀ cB, va_RA s cB ty ↔ s.vm.findClass ("[" ++ ty.toString) = some cB) (h : (Cond.arrayClass ty).before args s = true) : ∃ cA : ClassId, ArrOfT s cA ty ∧ va_RA s cA ty := by
  obtain ⟨cA, kA, comp, h1, h2, h3⟩ := Cond.arrayClass_spec (args := args) (first := s) (o := none) (s := s) (idx := []) h
  exact ⟨cA, fun n z => ⟨fun k h => (by cases h), kA, h2, comp, h3⟩, (hR cA).mpr h1⟩
theorem vk_S.same_at {N : Nat} {len : List Nat} {byt : List (List Int32)} {adK adV bdK bdV : Nat → Nat} {A : Nat → Prop} {U : State} {H : Heap} (h : vk_S N len byt adK adV A U H) (h1 : ∀ i, i < N → bdK i = adK i) (h2 : ∀ i, i < N → bdV i = adV i) : vk_S N len byt bdK bdV A U H := by
  refine ⟨fun i hi => ?_, fun i j hi hj e => h.2 i j hi hj (by rw [← h1 i hi, ← h1 j hj]; exact e)⟩
  rw [h1 i hi, h2 i hi]
  exact h.1 i hi
def lw_tm (i : Nat) : Term := if i = 0 then .string RX7 56 else .string RX7 62
set_option maxHeartbeats 4000000 in
set_option maxRecDepth 100000 in
theorem law_G {p : Program} {s : State} {m : MethodId} {meth : Method} {c : Code} {b L : Nat} {xs : Nat → Int32} (C0 : lw_At p s m meth c b L xs) : ∃ g : GT, GK g s ∧ ZS g (fun q => s.heap.size ≤ q) s s.heap := by
  obtain ⟨hx, hb, hr, hml, hown, hts0, hX, hbl, hlocks, hgv⟩ := C0
  have hts : ∀ w ∈ TG, w.before #[Value.ref b] s = true := fun w hw => hts0 w (TG_tbl hw)
  have hs := flat_of_before _ hgv
  have hA : ∀ a : Nat, a < s.heap.size → ¬ (fun q => s.heap.size ≤ q) a := fun a h => Nat.not_le.mpr h
  obtain ⟨c0, iS0, hK0⟩ := u_known (C := RX0) (T := TX0) (N := 7) (n := 7) hts inT_X0 (hts _ ia_X0)
  obtain ⟨c1, iS1, hK1⟩ := u_known (C := RX1) (T := TX1) (N := 10) (n := 10) hts inT_X1 (hts _ ia_X1)
  obtain ⟨c2, iS2, hK2⟩ := u_known (C := RX2) (T := TX2) (N := 6) (n := 6) hts inT_X2 (hts _ ia_X2)
  obtain ⟨c3, iS3, hK3⟩ := u_known (C := RX3) (T := TX3) (N := 3) (n := 3) hts inT_X3 (hts _ ia_X3)
  obtain ⟨c4, iS4, hK4⟩ := u_known (C := RX4) (T := TX4) (N := 4) (n := 4) hts inT_X4 (hts _ ia_X4)
  obtain ⟨c5, iS5, hK5⟩ := u_known (C := RX5) (T := TX5) (N := 2) (n := 2) hts inT_X5 (hts _ ia_X5)
  obtain ⟨c6, iS6, hK6⟩ := u_known (C := RX6) (T := TX6) (N := 4) (n := 4) hts inT_X6 (hts _ ia_X6)
  obtain ⟨c7, iS7, hK7⟩ := u_known (C := RX7) (T := TX7) (N := 6) (n := 6) hts inT_X7 (hts _ ia_X7)
  obtain ⟨c8, iS8, hK8⟩ := u_known (C := RX8) (T := TX8) (N := 5) (n := 5) hts inT_X8 (hts _ ia_X8)
  obtain ⟨c9, iS9, hK9⟩ := u_known (C := RX9) (T := TX9) (N := 3) (n := 3) hts inT_X9 (hts _ ia_X9)
  obtain ⟨c10, iS10, hK10⟩ := u_known (C := RX10) (T := TX10) (N := 2) (n := 2) hts inT_X10 (hts _ ia_X10)
  obtain ⟨c11, iS11, hK11⟩ := u_known (C := RX11) (T := TX11) (N := 8) (n := 8) hts inT_X11 (hts _ ia_X11)
  obtain ⟨c12, iS12, hK12⟩ := u_known (C := RX12) (T := TX12) (N := 50) (n := 50) hts inT_X12 (hts _ ia_X12)
  obtain ⟨y0, hy0, hz0⟩ := arr_at (ty := .byte) (fun _ => Iff.rfl) (hts _ ac_byte)
  obtain ⟨y1, hy1, hz1⟩ := arr_at (ty := .int) (fun _ => Iff.rfl) (hts _ ac_int)
  obtain ⟨y2, hy2, hz2⟩ := arr_at (ty := .long) (fun _ => Iff.rfl) (hts _ ac_long)
  obtain ⟨y3, hy3, hz3⟩ := arr_at (ty := .boolean) (fun _ => Iff.rfl) (hts _ ac_boolean)
  obtain ⟨tP, htP, hTP⟩ := va_Tof (s := s) (args := #[Value.ref b]) (tm := .static "ChoiceGame$Table" "PATTERNS" "[J") (ty := .long) (N := 6) (f := fun j => .long (pattL.getD j 0)) (A := fun q => s.heap.size ≤ q) (by decide) (hs _ (by decide +kernel)) (va_eqt (hs _ (by decide +kernel))) (fun j hj => by
    match j, hj with
    | 0, _ => exact va_eqtl (z := pattL.getD 0 0) (hs _ (by decide +kernel))
    | 1, _ => exact va_eqtl (z := pattL.getD 1 0) (hs _ (by decide +kernel))
    | 2, _ => exact va_eqtl (z := pattL.getD 2 0) (hs _ (by decide +kernel))
    | 3, _ => exact va_eqtl (z := pattL.getD 3 0) (hs _ (by decide +kernel))
    | 4, _ => exact va_eqtl (z := pattL.getD 4 0) (hs _ (by decide +kernel))
    | 5, _ => exact va_eqtl (z := pattL.getD 5 0) (hs _ (by decide +kernel))
    | j + 6, h => exact absurd h (by omega)) hA
  have hZP : va_Z "ChoiceGame$Table" "PATTERNS" "[J" (.ref tP) (fun q => s.heap.size ≤ q) s s.heap := va_Zref (hts0 _ (List.mem_of_getElem? (i := 237) (by decide +kernel))) (hts _ in_X9) htP hA
  have hZC : va_Z "java/lang/String" "COMPACT_STRINGS" "Z" (.int 1) (fun q => s.heap.size ≤ q) s s.heap := va_Zof (hts0 _ (List.mem_of_getElem? (i := 471) (by decide +kernel))) (hts _ in_J0) (va_eqt (z := 1) (hs _ (by decide +kernel))) hA
  have hZQ : va_Zq "jdk/internal/util/Preconditions" "SIOOBE_FORMATTER" "Ljava/util/function/BiFunction;" (fun q => s.heap.size ≤ q) s s.heap := va_Zqof (hts0 _ (List.mem_of_getElem? (i := 487) (by decide +kernel))) (hts _ in_J3) (hs _ (by decide +kernel)) hA
  obtain ⟨adK, adV, hSS, hev⟩ := vk_Sof (s := s) (args := #[Value.ref b]) (N := 2) (tm := lw_tm) (len := lenJS) (byt := bytJS) (A := fun q => s.heap.size ≤ q) (fun i hi => by have := js_len i hi; omega)
    (fun i hi => by
      match i, hi with
      | 0, _ => exact hs _ (by decide +kernel)
      | 1, _ => exact hs _ (by decide +kernel)
      | i + 2, h => exact absurd h (by omega))
    (fun i hi => by
      match i, hi with
      | 0, _ => exact hs _ (by decide +kernel)
      | 1, _ => exact hs _ (by decide +kernel)
      | i + 2, h => exact absurd h (by omega))
    (fun i hi => by
      match i, hi with
      | 0, _ => exact hs _ (by decide +kernel)
      | 1, _ => exact hs _ (by decide +kernel)
      | i + 2, h => exact absurd h (by omega))
    (fun i hi => by
      match i, hi with
      | 0, _ => exact hs _ (by decide +kernel)
      | 1, _ => exact hs _ (by decide +kernel)
      | i + 2, h => exact absurd h (by omega))
    (fun i hi j hj => by
      match i, hi, j, hj with
      | 0, _, 0, _ => exact hs _ (by decide +kernel)
      | 0, _, 1, _ => exact hs _ (by decide +kernel)
      | 0, _, 2, _ => exact hs _ (by decide +kernel)
      | 0, _, 3, _ => exact hs _ (by decide +kernel)
      | 0, _, j + 4, h => exact absurd h (by simp [lenJS])
      | 1, _, 0, _ => exact hs _ (by decide +kernel)
      | 1, _, 1, _ => exact hs _ (by decide +kernel)
      | 1, _, 2, _ => exact hs _ (by decide +kernel)
      | 1, _, j + 3, h => exact absurd h (by simp [lenJS])
      | i + 2, h, _, _ => exact absurd h (by omega))
    (fun i j hi hj hij => by
      match i, hi, j, hj with
      | 0, _, 0, _ => exact absurd rfl hij
      | 0, _, 1, _ => exact Or.inl (hs _ (by decide +kernel))
      | 1, _, 0, _ => exact Or.inr (hs _ (by decide +kernel))
      | 1, _, 1, _ => exact absurd rfl hij
      | i + 2, h, _, _ => exact absurd h (by omega)
      | 0, _, j + 2, h => exact absurd h (by omega)
      | 1, _, j + 2, h => exact absurd h (by omega)) hA
  refine ⟨((fun k => [c0, c1, c2, c3, c4, c5, c6, c7, c8, c9, c10, c11, c12].getD k 0, fun k => [iS0, iS1, iS2, iS3, iS4, iS5, iS6, iS7, iS8, iS9, iS10, iS11, iS12].getD k (fun _ => 0)), fun k => [y0, y1, y2, y3].getD k 0, fun k => [tP, adK 0, adK 1, adV 0, adV 1].getD k 0), ⟨⟨?_, ?_⟩, ?_, ?_, ?_⟩, hZP, hTP, hZC, ?_, hZQ⟩
  · intro k q hq
    match k, hq with
    | 0, hq => cases hq; exact hK0
    | 1, hq => cases hq; exact hK1
    | 2, hq => cases hq; exact hK2
    | 3, hq => cases hq; exact hK3
    | 4, hq => cases hq; exact hK4
    | 5, hq => cases hq; exact hK5
    | 6, hq => cases hq; exact hK6
    | 7, hq => cases hq; exact hK7
    | 8, hq => cases hq; exact hK8
    | 9, hq => cases hq; exact hK9
    | 10, hq => cases hq; exact hK10
    | 11, hq => cases hq; exact hK11
    | 12, hq => cases hq; exact hK12
    | k + 13, hq => simp [vwCl] at hq
  · intro k q hq
    match k, hq with
    | 0, hq => cases hq; exact ⟨hy0, hz0⟩
    | 1, hq => cases hq; exact ⟨hy1, hz1⟩
    | 2, hq => cases hq; exact ⟨hy2, hz2⟩
    | 3, hq => cases hq; exact ⟨hy3, hz3⟩
    | k + 4, hq => simp [tyL] at hq
  · intro w hw hn
    exact va_Nw.of (by cases w <;> first | rfl | (simp [isNest] at hn)) (hts0 w hw)
  · exact vk_R.of (A := #[Value.ref b]) (hts0 _ (List.mem_of_getElem? (i := 457) (by decide +kernel))) (hev 0 (by omega))
  · exact vk_R.of (A := #[Value.ref b]) (hts0 _ (List.mem_of_getElem? (i := 510) (by decide +kernel))) (hev 1 (by omega))
  · exact hSS.same_at (fun i hi => by
      match i, hi with
      | 0, _ => exact rfl
      | 1, _ => exact rfl
      | i + 2, h => exact absurd h (by omega)) (fun i hi => by
      match i, hi with
      | 0, _ => exact rfl
      | 1, _ => exact rfl
      | i + 2, h => exact absurd h (by omega))
