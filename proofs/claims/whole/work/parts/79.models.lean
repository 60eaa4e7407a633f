/-! models: counting bits -/
def cnt (f : Nat → Bool) : Nat → Nat
  | 0 => 0
  | n + 1 => cnt f n + (if f n then 1 else 0)
theorem cnt_le (f : Nat → Bool) (n : Nat) : cnt f n ≤ n := by
  induction n with
  | zero => exact Nat.le_refl _
  | succ n ih =>
    show cnt f n + (if f n then 1 else 0) ≤ n + 1
    split <;> omega
theorem cnt_congr {f g : Nat → Bool} {n : Nat} (h : ∀ i, i < n → f i = g i) : cnt f n = cnt g n := by
  induction n with
  | zero => rfl
  | succ n ih =>
    show cnt f n + (if f n then 1 else 0) = cnt g n + (if g n then 1 else 0)
    rw [ih (fun i hi => h i (by omega)), h n (by omega)]
theorem cnt_add (f : Nat → Bool) (a b : Nat) : cnt f (a + b) = cnt f a + cnt (fun i => f (a + i)) b := by
  induction b with
  | zero => rfl
  | succ b ih =>
    show cnt f (a + b) + (if f (a + b) then 1 else 0) = cnt f a + (cnt (fun i => f (a + i)) b + (if f (a + b) then 1 else 0))
    rw [ih, Nat.add_assoc]
def bval : List Nat → Nat
  | [] => 0
  | b :: r => b + 256 * bval r
theorem and_cons {b c : Nat} (r s : Nat) (hb : b < 256) (hc : c < 256) : (b + 256 * r) &&& (c + 256 * s) = (b &&& c) + 256 * (r &&& s) := by
  have hand : b &&& c < 2 ^ 8 := Nat.lt_of_le_of_lt Nat.and_le_left hb
  apply Nat.eq_of_testBit_eq
  intro i
  rw [Nat.add_comm b, Nat.add_comm c, Nat.add_comm (b &&& c), Nat.testBit_and, show (256 : Nat) = 2 ^ 8 from rfl, Nat.testBit_two_pow_mul_add _ hb, Nat.testBit_two_pow_mul_add _ hc, Nat.testBit_two_pow_mul_add _ hand, Nat.testBit_and, Nat.testBit_and]
  split <;> rfl
def bs1 (b : Nat) : Nat := b - ((b / 2) &&& 85)
def bs2 (b : Nat) : Nat := (b &&& 51) + ((b / 4) &&& 51)
def bs3 (b : Nat) : Nat := (b + b / 16) &&& 15
theorem dd1 : ∀ b, b < 256 → ∀ t, t < 2 → (b / 2 + 128 * t) &&& 85 = (b / 2) &&& 85 := by decide +kernel
theorem dd1b : ∀ b, b < 256 → (b / 2) &&& 85 ≤ b ∧ bs1 b < 256 := by decide +kernel
theorem dd2 : ∀ b, b < 256 → ∀ t, t < 4 → (b / 4 + 64 * t) &&& 51 = (b / 4) &&& 51 := by decide +kernel
theorem dd2b : ∀ b, b < 256 → bs2 (bs1 b) ≤ 68 ∧ bs2 (bs1 b) % 16 ≤ 4 := by decide +kernel
theorem dd3 : ∀ b, b < 69 → ∀ t, t < 5 → (b + b / 16 + 16 * t) &&& 15 = bs3 b := by decide +kernel
theorem dd4 : ∀ b, b < 256 → bs3 (bs2 (bs1 b)) = cnt (fun i => b.testBit i) 8 := by decide +kernel
theorem st1 : ∀ bs : List Nat, (∀ b ∈ bs, b < 256) → bval bs - ((bval bs / 2) &&& bval (bs.map (fun _ => 85))) = bval (bs.map bs1)
  | [], _ => rfl
  | b :: r, h => by
    have hb := h b (List.mem_cons_self ..)
    have ih := st1 r (fun x hx => h x (List.mem_cons_of_mem _ hx))
    show b + 256 * bval r - (((b + 256 * bval r) / 2) &&& (85 + 256 * bval (r.map (fun _ => 85)))) = bs1 b + 256 * bval (r.map bs1)
    have hle : (bval r / 2) &&& bval (r.map (fun _ => 85)) ≤ bval r := Nat.le_trans Nat.and_le_left (Nat.div_le_self _ _)
    rw [← ih, show (b + 256 * bval r) / 2 = (b / 2 + 128 * (bval r % 2)) + 256 * (bval r / 2) by omega, and_cons _ _ (by omega) (by omega), dd1 b hb _ (Nat.mod_lt _ (by omega))]
    have := (dd1b b hb).1
    unfold bs1
    omega
theorem st2 : ∀ bs : List Nat, (∀ b ∈ bs, b < 256) → (bval bs &&& bval (bs.map (fun _ => 51))) + ((bval bs / 4) &&& bval (bs.map (fun _ => 51))) = bval (bs.map bs2)
  | [], _ => rfl
  | b :: r, h => by
    have hb := h b (List.mem_cons_self ..)
    have ih := st2 r (fun x hx => h x (List.mem_cons_of_mem _ hx))
    show ((b + 256 * bval r) &&& (51 + 256 * bval (r.map (fun _ => 51)))) + (((b + 256 * bval r) / 4) &&& (51 + 256 * bval (r.map (fun _ => 51)))) = bs2 b + 256 * bval (r.map bs2)
    rw [← ih, show (b + 256 * bval r) / 4 = (b / 4 + 64 * (bval r % 4)) + 256 * (bval r / 4) by omega, and_cons _ _ hb (by omega), and_cons _ _ (by omega) (by omega), dd2 b hb _ (Nat.mod_lt _ (by omega))]
    unfold bs2
    omega
theorem bval_m16 {bs : List Nat} (h : ∀ b ∈ bs, b % 16 ≤ 4) : bval bs % 16 ≤ 4 := by
  cases bs with
  | nil => decide
  | cons b r =>
    have := h b (List.mem_cons_self ..)
    show (b + 256 * bval r) % 16 ≤ 4
    omega
theorem st3 : ∀ bs : List Nat, (∀ b ∈ bs, b ≤ 68 ∧ b % 16 ≤ 4) → (bval bs + bval bs / 16) &&& bval (bs.map (fun _ => 15)) = bval (bs.map bs3)
  | [], _ => rfl
  | b :: r, h => by
    have hb := h b (List.mem_cons_self ..)
    have ih := st3 r (fun x hx => h x (List.mem_cons_of_mem _ hx))
    have hm := bval_m16 (bs := r) (fun x hx => (h x (List.mem_cons_of_mem _ hx)).2)
    show ((b + 256 * bval r) + (b + 256 * bval r) / 16) &&& (15 + 256 * bval (r.map (fun _ => 15))) = bs3 b + 256 * bval (r.map bs3)
    rw [← ih, show (b + 256 * bval r) + (b + 256 * bval r) / 16 = (b + b / 16 + 16 * (bval r % 16)) + 256 * (bval r + bval r / 16) by omega, and_cons _ _ (by omega) (by omega), dd3 b (by omega) _ (by omega)]
theorem lN_add' (a b : Nat) : lN a + lN b = lN (a + b) := by
  apply Int64.toBitVec_inj.mp
  rw [Int64.toBitVec_add, wb_tb, wb_tb, wb_tb]
  apply BitVec.eq_of_toNat_eq
  simp
theorem lN_sub' {a b : Nat} (h : b ≤ a) : lN a - lN b = lN (a - b) := by
  have e : lN a = lN (a - b) + lN b := by rw [lN_add', Nat.sub_add_cancel h]
  rw [e]
  apply Int64.toBitVec_inj.mp
  rw [Int64.toBitVec_sub, Int64.toBitVec_add]
  exact BitVec.add_sub_cancel _ _
theorem bytes_cnt : ∀ (k n : Nat), cnt (fun i => n.testBit i) (8 * k) = (((List.range k).map (fun j => cnt (fun i => (n / 256 ^ j % 256).testBit i) 8)).sum)
  | 0, n => rfl
  | k + 1, n => by
    rw [List.range_succ, List.map_append, List.sum_append, ← bytes_cnt k n, Nat.mul_add, cnt_add]
    show _ + _ = _ + (_ + 0)
    rw [Nat.add_zero]
    congr 1
    refine cnt_congr (fun i hi => ?_)
    rw [show (256 : Nat) ^ k = 2 ^ (8 * k) by rw [Nat.pow_mul], show (256 : Nat) = 2 ^ 8 from rfl, Nat.testBit_mod_two_pow, Nat.testBit_div_two_pow, decide_eq_true hi, Bool.true_and, Nat.add_comm]
theorem b8 (n : Nat) (h : n < 2 ^ 64) : n = bval ((List.range 8).map (fun j => n / 256 ^ j % 256)) := by
  show n = n / 1 % 256 + 256 * (n / 256 % 256 + 256 * (n / 65536 % 256 + 256 * (n / 16777216 % 256 + 256 * (n / 4294967296 % 256 + 256 * (n / 1099511627776 % 256 + 256 * (n / 281474976710656 % 256 + 256 * (n / 72057594037927936 % 256 + 256 * 0)))))))
  omega
theorem bval_lt {bs : List Nat} (h : ∀ b ∈ bs, b < 256) : bval bs < 256 ^ bs.length := by
  induction bs with
  | nil => decide
  | cons b r ih =>
    have h1 := h b (List.mem_cons_self ..)
    have h2 := ih (fun x hx => h x (List.mem_cons_of_mem _ hx))
    show b + 256 * bval r < 256 ^ (r.length + 1)
    rw [Nat.pow_succ]
    omega
theorem l_nat {m : Nat} (hm : m < 2 ^ 64) {i : Nat} (hi : i < 64) : lbt (lN m) i = m.testBit i := by
  unfold lbt
  rw [wb_tb, BitVec.getLsbD_ofNat, decide_eq_true hi, Bool.true_and]
theorem m_map8 {f : Nat → Nat} {x : Nat} (c : Nat) : bval (((List.range 8).map f).map (fun _ => c)) = bval ((List.range 8).map (fun _ => c)) := by
  rw [List.map_map]; rfl
theorem dsum3 {z0 z1 z2 z3 z4 z5 z6 z7 Z : Nat} (h0 : z0 ≤ 32) (h1 : z1 ≤ 32) (h2 : z2 ≤ 32) (h3 : z3 ≤ 32) (h4 : z4 ≤ 32) (h : z0 + 256 * (z1 + 256 * (z2 + 256 * (z3 + 256 * (z4 + 256 * (z5 + 256 * (z6 + 256 * z7)))))) = Z) : (Z + Z / 4294967296) % 2 ^ 7 = z0 + z4 := by
  have : Z / 4294967296 = z4 + 256 * (z5 + 256 * (z6 + 256 * z7)) := by omega
  rw [this, show (2 : Nat) ^ 7 = 128 from rfl]
  omega
theorem dsum2 {z0 z1 z2 z3 z4 z5 z6 z7 Z : Nat} (h0 : z0 ≤ 16) (h1 : z1 ≤ 16) (h2 : z2 ≤ 16) (h3 : z3 ≤ 16) (h4 : z4 ≤ 16) (h5 : z5 ≤ 16) (h6 : z6 ≤ 16) (h7 : z7 ≤ 16) (h : z0 + 256 * (z1 + 256 * (z2 + 256 * (z3 + 256 * (z4 + 256 * (z5 + 256 * (z6 + 256 * z7)))))) = Z) : (Z + Z / 65536 + (Z + Z / 65536) / 4294967296) % 2 ^ 7 = z0 + z2 + (z4 + z6) := by
  have h8 : Z / 65536 = z2 + 256 * (z3 + 256 * (z4 + 256 * (z5 + 256 * (z6 + 256 * z7)))) := by omega
  exact dsum3 (z0 := z0 + z2) (z1 := z1 + z3) (z2 := z2 + z4) (z3 := z3 + z5) (z4 := z4 + z6) (z5 := z5 + z7) (z6 := z6) (z7 := z7) (by omega) (by omega) (by omega) (by omega) (by omega) (by rw [h8, ← h]; omega)
theorem dsum {d0 d1 d2 d3 d4 d5 d6 d7 X : Nat} (h0 : d0 ≤ 8) (h1 : d1 ≤ 8) (h2 : d2 ≤ 8) (h3 : d3 ≤ 8) (h4 : d4 ≤ 8) (h5 : d5 ≤ 8) (h6 : d6 ≤ 8) (h7 : d7 ≤ 8) (h : d0 + 256 * (d1 + 256 * (d2 + 256 * (d3 + 256 * (d4 + 256 * (d5 + 256 * (d6 + 256 * (d7 + 256 * 0))))))) = X) : (X + X / 256 + (X + X / 256) / 65536 + (X + X / 256 + (X + X / 256) / 65536) / 4294967296) % 2 ^ 7 = d0 + (d1 + (d2 + (d3 + (d4 + (d5 + (d6 + (d7 + 0))))))) := by
  have h8 : X / 256 = d1 + 256 * (d2 + 256 * (d3 + 256 * (d4 + 256 * (d5 + 256 * (d6 + 256 * d7))))) := by omega
  rw [dsum2 (z0 := d0 + d1) (z1 := d1 + d2) (z2 := d2 + d3) (z3 := d3 + d4) (z4 := d4 + d5) (z5 := d5 + d6) (z6 := d6 + d7) (z7 := d7) (by omega) (by omega) (by omega) (by omega) (by omega) (by omega) (by omega) (by omega) (by rw [h8, ← h]; omega)]
  omega
theorem bits_ok (x : Int64) : f_J13_bitCount_95d88 x = some (nI (cnt (lbt x) 64)) := by
  obtain ⟨m, hm, rfl⟩ := wb_of x
  rw [cnt_congr (g := fun i => m.testBit i) (fun i hi => l_nat hm hi), show 64 = 8 * 8 from rfl, bytes_cnt 8 m]
  unfold f_J13_bitCount_95d88
  have hv := b8 m hm
  generalize hB : (List.range 8).map (fun j => m / 256 ^ j % 256) = bs at hv
  have hl : bs.length = 8 := by rw [← hB]; rfl
  have hb : ∀ b ∈ bs, b < 256 := by
    intro b h
    rw [← hB, List.mem_map] at h
    obtain ⟨j, -, rfl⟩ := h
    exact Nat.mod_lt _ (by omega)
  have hsum : ((List.range 8).map (fun j => cnt (fun i => (m / 256 ^ j % 256).testBit i) 8)).sum = (((bs.map bs1).map bs2).map bs3).sum := by
    rw [← hB, List.map_map, List.map_map, List.map_map]
    congr 1
    refine List.map_congr_left (fun j _ => ?_)
    exact (dd4 _ (Nat.mod_lt _ (by omega))).symm
  rw [hsum]
  have k85 : bval (bs.map (fun _ => 85)) = 6148914691236517205 := by
    rw [← hB, List.map_map]
    show 85 + 256 * (85 + 256 * (85 + 256 * (85 + 256 * (85 + 256 * (85 + 256 * (85 + 256 * (85 + 256 * (0)))))))) = 6148914691236517205
    decide
  have s1 := st1 bs hb
  rw [k85] at s1
  have hb1 : ∀ b ∈ bs.map bs1, b < 256 := by
    intro b h
    obtain ⟨a, ha, rfl⟩ := List.mem_map.1 h
    exact (dd1b a (hb a ha)).2
  have hb2 : ∀ b ∈ (bs.map bs1).map bs2, b ≤ 68 ∧ b % 16 ≤ 4 := by
    intro b h
    obtain ⟨a, ha, rfl⟩ := List.mem_map.1 h
    obtain ⟨a2, ha2, rfl⟩ := List.mem_map.1 ha
    exact dd2b a2 (hb a2 ha2)
  have s2 := st2 _ hb1
  have s3 := st3 _ hb2
  have k51 : bval ((bs.map bs1).map (fun _ => 51)) = 3689348814741910323 := by
    rw [← hB, List.map_map, List.map_map]
    show 51 + 256 * (51 + 256 * (51 + 256 * (51 + 256 * (51 + 256 * (51 + 256 * (51 + 256 * (51 + 256 * (0)))))))) = 3689348814741910323
    decide
  have k15 : bval (((bs.map bs1).map bs2).map (fun _ => 15)) = 1085102592571150095 := by
    rw [← hB, List.map_map, List.map_map, List.map_map]
    show 15 + 256 * (15 + 256 * (15 + 256 * (15 + 256 * (15 + 256 * (15 + 256 * (15 + 256 * (15 + 256 * (0)))))))) = 1085102592571150095
    decide
  rw [k51] at s2
  rw [k15] at s3
  have l1 : bval (bs.map bs1) < 2 ^ 64 := by have := bval_lt hb1; rw [List.length_map, hl] at this; exact this
  have hb2' : ∀ b ∈ (bs.map bs1).map bs2, b < 256 := fun b h => by have := hb2 b h; omega
  have l2 : bval ((bs.map bs1).map bs2) < 2 ^ 63 := by
    rw [← hB]
    have hq : ∀ j, bs2 (bs1 (m / 256 ^ j % 256)) ≤ 68 := fun j => (dd2b _ (Nat.mod_lt _ (by omega))).1
    have h0 := hq 0; have h1 := hq 1; have h2 := hq 2; have h3 := hq 3; have h4 := hq 4; have h5 := hq 5; have h6 := hq 6; have h7 := hq 7
    show bs2 (bs1 (m / 256 ^ 0 % 256)) + 256 * (bs2 (bs1 (m / 256 ^ 1 % 256)) + 256 * (bs2 (bs1 (m / 256 ^ 2 % 256)) + 256 * (bs2 (bs1 (m / 256 ^ 3 % 256)) + 256 * (bs2 (bs1 (m / 256 ^ 4 % 256)) + 256 * (bs2 (bs1 (m / 256 ^ 5 % 256)) + 256 * (bs2 (bs1 (m / 256 ^ 6 % 256)) + 256 * (bs2 (bs1 (m / 256 ^ 7 % 256)) + 256 * 0))))))) < 2 ^ 63
    omega
  have ushr : ∀ (n k p : Nat) (y : Int32), y = nI k → k < 64 → 2 ^ k = p → n < 2 ^ 64 → jlushr (lN n) y = lN (n / p) := by
    intro n k p y hy hk hp hn
    subst hy
    unfold jlushr
    rw [wb_shr hn hk, hp]
  have c85 : (6148914691236517205 : Int64) = lN 6148914691236517205 := rfl
  have c51 : (3689348814741910323 : Int64) = lN 3689348814741910323 := rfl
  have c15 : (1085102592571150095 : Int64) = lN 1085102592571150095 := rfl
  have lmd : ∀ p, bval bs / p < 2 ^ 64 := fun p => Nat.lt_of_le_of_lt (Nat.div_le_self _ _) (by omega)
  have e1 : lN m - ((jlushr (lN m) 1) &&& (6148914691236517205 : Int64)) = lN (bval (bs.map bs1)) := by
    rw [ushr m 1 2 1 rfl (by decide) rfl hm, hv, c85, wb_and (lmd 2) (by decide), lN_sub' (Nat.le_trans Nat.and_le_left (Nat.div_le_self _ _)), s1]
  rw [e1]
  have e2 : ((lN (bval (bs.map bs1))) &&& (3689348814741910323 : Int64)) + ((jlushr (lN (bval (bs.map bs1))) 2) &&& (3689348814741910323 : Int64)) = lN (bval ((bs.map bs1).map bs2)) := by
    rw [ushr _ 2 4 2 rfl (by decide) rfl l1, c51, wb_and l1 (by decide), wb_and (Nat.lt_of_le_of_lt (Nat.div_le_self _ _) l1) (by decide), lN_add', s2]
  rw [e2]
  have e3 : (lN (bval ((bs.map bs1).map bs2)) + (jlushr (lN (bval ((bs.map bs1).map bs2))) 4)) &&& (1085102592571150095 : Int64) = lN (bval (((bs.map bs1).map bs2).map bs3)) := by
    rw [ushr _ 4 16 4 rfl (by decide) rfl (by omega), c15, lN_add', wb_and (by omega) (by decide), s3]
  rw [e3]
  -- eight small numbers
  have hq : ∀ j, bs3 (bs2 (bs1 (m / 256 ^ j % 256))) ≤ 8 := fun j => by rw [dd4 _ (Nat.mod_lt _ (by omega))]; exact cnt_le _ _
  have hX : bval (((bs.map bs1).map bs2).map bs3) = bs3 (bs2 (bs1 (m / 256 ^ 0 % 256))) + 256 * (bs3 (bs2 (bs1 (m / 256 ^ 1 % 256))) + 256 * (bs3 (bs2 (bs1 (m / 256 ^ 2 % 256))) + 256 * (bs3 (bs2 (bs1 (m / 256 ^ 3 % 256))) + 256 * (bs3 (bs2 (bs1 (m / 256 ^ 4 % 256))) + 256 * (bs3 (bs2 (bs1 (m / 256 ^ 5 % 256))) + 256 * (bs3 (bs2 (bs1 (m / 256 ^ 6 % 256))) + 256 * (bs3 (bs2 (bs1 (m / 256 ^ 7 % 256))) + 256 * 0))))))) := by rw [← hB]; rfl
  have hS : (((bs.map bs1).map bs2).map bs3).sum = bs3 (bs2 (bs1 (m / 256 ^ 0 % 256))) + (bs3 (bs2 (bs1 (m / 256 ^ 1 % 256))) + (bs3 (bs2 (bs1 (m / 256 ^ 2 % 256))) + (bs3 (bs2 (bs1 (m / 256 ^ 3 % 256))) + (bs3 (bs2 (bs1 (m / 256 ^ 4 % 256))) + (bs3 (bs2 (bs1 (m / 256 ^ 5 % 256))) + (bs3 (bs2 (bs1 (m / 256 ^ 6 % 256))) + (bs3 (bs2 (bs1 (m / 256 ^ 7 % 256))) + 0))))))) := by rw [← hB]; rfl
  have h0 := hq 0; have h1 := hq 1; have h2 := hq 2; have h3 := hq 3; have h4 := hq 4; have h5 := hq 5; have h6 := hq 6; have h7 := hq 7
  generalize bs3 (bs2 (bs1 (m / 256 ^ 0 % 256))) = d0 at h0 hX hS
  generalize bs3 (bs2 (bs1 (m / 256 ^ 1 % 256))) = d1 at h1 hX hS
  generalize bs3 (bs2 (bs1 (m / 256 ^ 2 % 256))) = d2 at h2 hX hS
  generalize bs3 (bs2 (bs1 (m / 256 ^ 3 % 256))) = d3 at h3 hX hS
  generalize bs3 (bs2 (bs1 (m / 256 ^ 4 % 256))) = d4 at h4 hX hS
  generalize bs3 (bs2 (bs1 (m / 256 ^ 5 % 256))) = d5 at h5 hX hS
  generalize bs3 (bs2 (bs1 (m / 256 ^ 6 % 256))) = d6 at h6 hX hS
  generalize bs3 (bs2 (bs1 (m / 256 ^ 7 % 256))) = d7 at h7 hX hS
  rw [hX, hS]
  generalize hXX : d0 + 256 * (d1 + 256 * (d2 + 256 * (d3 + 256 * (d4 + 256 * (d5 + 256 * (d6 + 256 * (d7 + 256 * 0))))))) = X
  rw [ushr X 8 256 8 rfl (by decide) rfl (by omega), lN_add', ushr _ 16 65536 16 rfl (by decide) rfl (by omega), lN_add', ushr _ 32 4294967296 32 rfl (by decide) rfl (by omega), lN_add', lN_i, show (127 : Int32) = nI 127 from rfl, nx_and, show (127 : Nat) = 2 ^ 7 - 1 from rfl, Nat.and_two_pow_sub_one_eq_mod]
  congr 2
  exact dsum h0 h1 h2 h3 h4 h5 h6 h7 hXX
