/-! pure: ints and longs by their bits -/
def bI (x : Int32) (k : Nat) : Bool := x.toBitVec.getLsbD k
def bJ (x : Int64) (k : Nat) : Bool := x.toBitVec.getLsbD k
section BITS
variable {x y : Int32} {r w : Int64} {i j k n q v s : Nat} {l : List Nat} {P : Nat → Bool}
theorem bI_ext (h : ∀ k, k < 32 → bI x k = bI y k) : x = y := Int32.toBitVec_inj.mp (BitVec.eq_of_getLsbD_eq (fun i hi => h i hi))
theorem bJ_ext (h : ∀ k, k < 64 → bJ r k = bJ w k) : r = w := Int64.toBitVec_inj.mp (BitVec.eq_of_getLsbD_eq (fun i hi => h i hi))
theorem bI_big (h : 32 ≤ k) : bI x k = false := BitVec.getLsbD_of_ge _ _ h
theorem bJ_big (h : 64 ≤ k) : bJ r k = false := BitVec.getLsbD_of_ge _ _ h
theorem bI_or : bI (x ||| y) k = (bI x k || bI y k) := by unfold bI; rw [Int32.toBitVec_or, BitVec.getLsbD_or]
theorem bI_and : bI (x &&& y) k = (bI x k && bI y k) := by unfold bI; rw [Int32.toBitVec_and, BitVec.getLsbD_and]
theorem bI_xor : bI (x ^^^ y) k = (bI x k ^^ bI y k) := by unfold bI; rw [Int32.toBitVec_xor, BitVec.getLsbD_xor]
theorem bJ_or : bJ (r ||| w) k = (bJ r k || bJ w k) := by unfold bJ; rw [Int64.toBitVec_or, BitVec.getLsbD_or]
theorem bJ_and : bJ (r &&& w) k = (bJ r k && bJ w k) := by unfold bJ; rw [Int64.toBitVec_and, BitVec.getLsbD_and]
theorem bJ_xor : bJ (r ^^^ w) k = (bJ r k ^^ bJ w k) := by unfold bJ; rw [Int64.toBitVec_xor, BitVec.getLsbD_xor]
theorem bI_m1 : ∀ k, k < 32 → bI (-1) k = true := by decide +kernel
theorem bJ_m1 : ∀ k, k < 64 → bJ (-1) k = true := by decide +kernel
theorem bI_0 : bI 0 k = false := BitVec.getLsbD_zero
theorem bJ_0 : bJ 0 k = false := BitVec.getLsbD_zero
theorem bI_nI (hk : k < 32) : bI (nI n) k = n.testBit k := by
  show (BitVec.ofNat 32 n).getLsbD k = _
  rw [BitVec.getLsbD_ofNat]
  simp [hk]
theorem bJ_lN (hk : k < 64) : bJ (lN n) k = n.testBit k := by
  show (BitVec.ofNat 64 n).getLsbD k = _
  rw [BitVec.getLsbD_ofNat]
  simp [hk]
theorem bJ_nI (hn : n < 2147483648) (hk : k < 64) : bJ (nI n).toInt64 k = n.testBit k := by rw [nI_l hn, bJ_lN hk]
theorem cn_I : ∀ n, n < 32 → ((nI n &&& 31).toBitVec.smod 32).toNat = n := by decide +kernel
theorem cn_J : ∀ n, n < 64 → (((nI n).toInt64 &&& 63).toBitVec.smod 64).toNat = n := by decide +kernel
theorem bI_shl (hn : n < 32) (hk : k < 32) : bI (iShl x (nI n)) k = (decide (n ≤ k) && bI x (k - n)) := by
  unfold bI iShl
  rw [Int32.toBitVec_shiftLeft]
  show (x.toBitVec <<< ((nI n &&& 31).toBitVec.smod 32).toNat).getLsbD k = _
  rw [cn_I n hn, BitVec.getLsbD_shiftLeft]
  rcases Nat.lt_or_ge k n with h | h
  · simp [h, Nat.not_le.mpr h]
  · simp [hk, h, Nat.not_lt.mpr h]
theorem bI_shr (hn : n < 32) (hk : n + k < 32) : bI (iShr x (nI n)) k = bI x (n + k) := by
  unfold bI iShr
  rw [Int32.toBitVec_shiftRight]
  show (x.toBitVec.sshiftRight ((nI n &&& 31).toBitVec.smod 32).toNat).getLsbD k = _
  rw [cn_I n hn, BitVec.getLsbD_sshiftRight]
  simp [hk, show k < 32 by omega]
theorem bJ_shl (hn : n < 64) (hk : k < 64) : bJ (jShl r (nI n)) k = (decide (n ≤ k) && bJ r (k - n)) := by
  unfold bJ jShl
  rw [Int64.toBitVec_shiftLeft]
  show (r.toBitVec <<< (((nI n).toInt64 &&& 63).toBitVec.smod 64).toNat).getLsbD k = _
  rw [cn_J n hn, BitVec.getLsbD_shiftLeft]
  rcases Nat.lt_or_ge k n with h | h
  · simp [h, Nat.not_le.mpr h]
  · simp [hk, h, Nat.not_lt.mpr h]
theorem bJ_shr (hn : n < 64) (hk : n + k < 64) : bJ (jShr r (nI n)) k = bJ r (n + k) := by
  unfold bJ jShr
  rw [Int64.toBitVec_shiftRight]
  show (r.toBitVec.sshiftRight (((nI n).toInt64 &&& 63).toBitVec.smod 64).toNat).getLsbD k = _
  rw [cn_J n hn, BitVec.getLsbD_sshiftRight]
  simp [hk, show k < 64 by omega]
theorem bI_toI (hk : k < 32) : bI r.toInt32 k = bJ r k := by
  show (r.toBitVec.signExtend 32).getLsbD k = r.toBitVec.getLsbD k
  rw [BitVec.getLsbD_signExtend]
  simp [hk, show k < 64 by omega]
-- a row of four numbers of twelve bits
def atJ (r : Int64) (i : Int32) : Int32 := (jShr r (12 * i) &&& 4095).toInt32
def withJ (r : Int64) (i v : Int32) : Int64 := r &&& (jShl 4095 (12 * i) ^^^ (-1)) ||| jShl v.toInt64 (12 * i)
theorem n_m12 : (12 : Int32) * nI i = nI (12 * i) := (Int32.ofNat_mul 12 i).symm
theorem n_m3 : (3 : Int32) * nI i = nI (3 * i) := (Int32.ofNat_mul 3 i).symm
theorem bJ_4095 (hk : k < 64) : bJ 4095 k = decide (k < 12) := (by decide +kernel : ∀ k, k < 64 → bJ 4095 k = decide (k < 12)) k hk
theorem bI_at (hi : i < 4) (hk : k < 32) : bI (atJ r (nI i)) k = (decide (k < 12) && bJ r (12 * i + k)) := by
  unfold atJ
  rw [bI_toI hk, bJ_and, n_m12, bJ_4095 (by omega)]
  by_cases h : k < 12
  · rw [bJ_shr (by omega) (by omega)]
    simp [h]
  · simp [h]
theorem bJ_with (hi : i < 4) (hv : v < 4096) (hk : k < 64) : bJ (withJ r (nI i) (nI v)) k = if 12 * i ≤ k ∧ k < 12 * i + 12 then v.testBit (k - 12 * i) else bJ r k := by
  unfold withJ
  rw [bJ_or, bJ_and, bJ_xor, bJ_m1 k hk, n_m12, bJ_shl (by omega) hk, bJ_shl (by omega) hk]
  by_cases h1 : 12 * i ≤ k
  · rw [bJ_4095 (by omega), bJ_nI (by omega) (by omega)]
    by_cases h2 : k < 12 * i + 12
    · rw [if_pos ⟨h1, h2⟩]
      simp [h1, show k - 12 * i < 12 by omega]
    · rw [if_neg (fun q => h2 q.2)]
      have h3 : v.testBit (k - 12 * i) = false := Nat.testBit_lt_two_pow (Nat.lt_of_lt_of_le hv (show 2 ^ 12 ≤ 2 ^ (k - 12 * i) from Nat.pow_le_pow_right (by decide) (by omega)))
      simp [h1, h3, show ¬ k - 12 * i < 12 by omega]
  · rw [if_neg (fun q => h1 q.1)]
    simp [h1]
theorem at_with (hi : i < 4) (hj : j < 4) (hv : v < 4096) : atJ (withJ r (nI i) (nI v)) (nI j) = if j = i then nI v else atJ r (nI j) := by
  apply bI_ext
  intro k hk
  rw [bI_at hj hk]
  by_cases h : k < 12
  · rw [bJ_with hi hv (by omega)]
    by_cases e : j = i
    · subst e
      rw [if_pos ⟨by omega, by omega⟩, if_pos rfl, bI_nI hk, show 12 * j + k - 12 * j = k by omega]
      simp [h]
    · rw [if_neg (by omega), if_neg e, bI_at hj hk]
  · by_cases e : j = i
    · rw [if_pos e, bI_nI hk, Nat.testBit_lt_two_pow (Nat.lt_of_lt_of_le hv (show 2 ^ 12 ≤ 2 ^ k from Nat.pow_le_pow_right (by decide) (by omega)))]
      simp [h]
    · rw [if_neg e, bI_at hj hk]
      simp [h]
theorem atz_0 (hj : j < 4) : atJ 0 (nI j) = 0 := by
  apply bI_ext
  intro k hk
  rw [bI_at hj hk, bJ_0, bI_0]
  simp
-- the states of a message's four copies
def stI (c i : Int32) : Int32 := iShr c (3 * i) &&& 7
def stW (c i s : Int32) : Int32 := c &&& (iShl 7 (3 * i) ^^^ (-1)) ||| iShl s (3 * i)
theorem bI_7 (hk : k < 32) : bI 7 k = decide (k < 3) := (by decide +kernel : ∀ k, k < 32 → bI 7 k = decide (k < 3)) k hk
theorem bI_st (hi : i < 4) (hk : k < 32) : bI (stI x (nI i)) k = (decide (k < 3) && bI x (3 * i + k)) := by
  unfold stI
  rw [bI_and, n_m3, bI_7 hk]
  by_cases h : k < 3
  · rw [bI_shr (by omega) (by omega)]
    simp [h]
  · simp [h]
theorem bI_stW (hi : i < 4) (hs : s < 8) (hk : k < 32) : bI (stW x (nI i) (nI s)) k = if 3 * i ≤ k ∧ k < 3 * i + 3 then s.testBit (k - 3 * i) else bI x k := by
  unfold stW
  rw [bI_or, bI_and, bI_xor, bI_m1 k hk, n_m3, bI_shl (by omega) hk, bI_shl (by omega) hk]
  by_cases h1 : 3 * i ≤ k
  · rw [bI_7 (by omega), bI_nI (by omega)]
    by_cases h2 : k < 3 * i + 3
    · rw [if_pos ⟨h1, h2⟩]
      simp [h1, show k - 3 * i < 3 by omega]
    · rw [if_neg (fun q => h2 q.2)]
      have h3 : s.testBit (k - 3 * i) = false := Nat.testBit_lt_two_pow (Nat.lt_of_lt_of_le hs (show 2 ^ 3 ≤ 2 ^ (k - 3 * i) from Nat.pow_le_pow_right (by decide) (by omega)))
      simp [h1, h3, show ¬ k - 3 * i < 3 by omega]
  · rw [if_neg (fun q => h1 q.1)]
    simp [h1]
theorem st_w (hi : i < 4) (hj : j < 4) (hs : s < 8) : stI (stW x (nI i) (nI s)) (nI j) = if j = i then nI s else stI x (nI j) := by
  apply bI_ext
  intro k hk
  rw [bI_st hj hk]
  by_cases h : k < 3
  · rw [bI_stW hi hs (by omega)]
    by_cases e : j = i
    · subst e
      rw [if_pos ⟨by omega, by omega⟩, if_pos rfl, bI_nI hk, show 3 * j + k - 3 * j = k by omega]
      simp [h]
    · rw [if_neg (by omega), if_neg e, bI_st hj hk]
  · by_cases e : j = i
    · rw [if_pos e, bI_nI hk, Nat.testBit_lt_two_pow (Nat.lt_of_lt_of_le hs (show 2 ^ 3 ≤ 2 ^ k from Nat.pow_le_pow_right (by decide) (by omega)))]
      simp [h]
    · rw [if_neg e, bI_st hj hk]
      simp [h]
theorem st_0 (hj : j < 4) : stI 0 (nI j) = 0 := by
  apply bI_ext
  intro k hk
  rw [bI_st hj hk, bI_0, bI_0]
  simp
theorem st_and7 : x &&& 7 = stI x (nI 0) := by
  apply bI_ext
  intro k hk
  rw [bI_st (by decide) hk, bI_and, bI_7 hk, Bool.and_comm]
  simp
-- sets of members
def hasI (g i : Int32) : Bool := decide (iShr g i &&& 1 = 1)
theorem bI_1 (hk : k < 32) : bI 1 k = decide (k = 0) := (by decide +kernel : ∀ k, k < 32 → bI 1 k = decide (k = 0)) k hk
theorem bJ_1 (hk : k < 64) : bJ 1 k = decide (k = 0) := (by decide +kernel : ∀ k, k < 64 → bJ 1 k = decide (k = 0)) k hk
theorem has_b (hi : i < 32) : hasI x (nI i) = bI x i := by
  unfold hasI
  have h0 : bI (iShr x (nI i)) 0 = bI x i := by rw [bI_shr hi (by omega)]; rfl
  cases hb : bI x i with
  | true =>
    rw [decide_eq_true_iff]
    apply bI_ext
    intro k hk
    rw [bI_and, bI_1 hk]
    by_cases e : k = 0
    · subst e; rw [h0, hb]; rfl
    · simp [e]
  | false =>
    rw [decide_eq_false_iff_not]
    intro q
    have := congrArg (fun z => bI z 0) q
    simp only [bI_and, h0, hb] at this
    rw [bI_1 (by decide)] at this
    simp at this
theorem bit_J (hi : i < 64) : (jShr r (nI i) &&& 1 = 0) ↔ bJ r i = false := by
  have h0 : bJ (jShr r (nI i)) 0 = bJ r i := by rw [bJ_shr hi (by omega)]; rfl
  constructor
  · intro q
    have := congrArg (fun z => bJ z 0) q
    simp only [bJ_and, h0, bJ_0] at this
    rw [bJ_1 (by decide)] at this
    simpa using this
  · intro hb
    apply bJ_ext
    intro k hk
    rw [bJ_and, bJ_1 hk, bJ_0]
    by_cases e : k = 0
    · subst e; rw [h0, hb]; rfl
    · simp [e]
theorem bit_J1 (hi : i < 64) : (jShr r (nI i) &&& 1 = 1) ↔ bJ r i = true := by
  have h0 : bJ (jShr r (nI i)) 0 = bJ r i := by rw [bJ_shr hi (by omega)]; rfl
  constructor
  · intro q
    have := congrArg (fun z => bJ z 0) q
    simp only [bJ_and, h0] at this
    rw [bJ_1 (by decide)] at this
    simpa using this
  · intro hb
    apply bJ_ext
    intro k hk
    rw [bJ_and, bJ_1 hk]
    by_cases e : k = 0
    · subst e; rw [h0, hb]; rfl
    · simp [e]
theorem bJ_one (hn : n < 64) (hk : k < 64) : bJ (jShl 1 (nI n)) k = decide (k = n) := by
  rw [bJ_shl hn hk, bJ_1 (by omega)]
  by_cases h : n ≤ k
  · simp [h]; omega
  · simp [h]; omega
def set4 (P : Nat → Bool) : Nat := (P 0).toNat + 2 * (P 1).toNat + 4 * (P 2).toNat + 8 * (P 3).toNat
theorem set4_lt : set4 P < 16 := by
  unfold set4
  cases P 0 <;> cases P 1 <;> cases P 2 <;> cases P 3 <;> decide
theorem has_set4 (hi : i < 4) : hasI (nI (set4 P)) (nI i) = P i := by
  have h : i = 0 ∨ i = 1 ∨ i = 2 ∨ i = 3 := by omega
  unfold set4
  rcases h with rfl | rfl | rfl | rfl <;> cases P 0 <;> cases P 1 <;> cases P 2 <;> cases P 3 <;> decide
theorem set4_or (hi : i < 4) : nI (set4 P) ||| iShl 1 (nI i) = nI (set4 (fun j => P j || decide (j = i))) := by
  have h : i = 0 ∨ i = 1 ∨ i = 2 ∨ i = 3 := by omega
  unfold set4
  dsimp only
  generalize P 0 = a
  generalize P 1 = b
  generalize P 2 = c
  generalize P 3 = d
  rcases h with rfl | rfl | rfl | rfl <;> (revert a b c d; decide)
theorem set4_eq {Q : Nat → Bool} : nI (set4 P) = nI (set4 Q) ↔ ∀ i, i < 4 → P i = Q i := by
  constructor
  · intro h i hi
    rw [← has_set4 (P := P) hi, ← has_set4 (P := Q) hi, h]
  · intro h
    unfold set4
    rw [h 0 (by decide), h 1 (by decide), h 2 (by decide), h 3 (by decide)]
-- how many
def lcJ (r : Int64) : Int64 := r &&& (r - 1)
theorem cry (x : BitVec 64) : ∀ k, k < 65 → BitVec.carry k x (BitVec.allOnes 64) false = decide (∃ j, j < k ∧ x.getLsbD j = true) := by
  intro k
  induction k with
  | zero => intro _; simp
  | succ k ih =>
    intro hk
    rw [BitVec.carry_succ, BitVec.getLsbD_allOnes, ih (by omega), decide_eq_true (show k < 64 by omega)]
    cases hb : x.getLsbD k with
    | true =>
      rw [decide_eq_true (show ∃ j, j < k + 1 ∧ x.getLsbD j = true from ⟨k, by omega, hb⟩)]
      simp
    | false =>
      have : (∃ j, j < k ∧ x.getLsbD j = true) ↔ ∃ j, j < k + 1 ∧ x.getLsbD j = true := ⟨fun ⟨j, h1, h2⟩ => ⟨j, by omega, h2⟩, fun ⟨j, h1, h2⟩ => ⟨j, by
        have : j ≠ k := fun e => by rw [e, hb] at h2; cases h2
        omega, h2⟩⟩
      simp [this]
theorem bJ_lc (hk : k < 64) : bJ (lcJ r) k = (bJ r k && decide (∃ j, j < k ∧ bJ r j = true)) := by
  unfold lcJ
  rw [bJ_and]
  have e : bJ (r - 1) k = (bJ r k ^^ (true ^^ decide (∃ j, j < k ∧ bJ r j = true))) := by
    unfold bJ
    rw [Int64.toBitVec_sub]
    show (r.toBitVec - 1#64).getLsbD k = _
    rw [BitVec.sub_eq_add_neg, BitVec.neg_one_eq_allOnes, BitVec.getLsbD_add hk, cry _ k (by omega), BitVec.getLsbD_allOnes, decide_eq_true hk]
  rw [e]
  cases bJ r k <;> simp
def pop (r : Int64) : Nat := ((List.range 64).filter (bJ r)).length
theorem flt_lc (P : Nat → Bool) : ∀ n, ((List.range n).filter P).length = ((List.range n).filter (fun k => P k && decide (∃ j, j < k ∧ P j = true))).length + (if ∃ j, j < n ∧ P j = true then 1 else 0) := by
  intro n
  induction n with
  | zero => simp
  | succ n ih =>
    rw [List.range_succ, List.filter_append, List.filter_append, List.length_append, List.length_append, ih]
    cases hb : P n with
    | false =>
      have : (∃ j, j < n ∧ P j = true) ↔ ∃ j, j < n + 1 ∧ P j = true := ⟨fun ⟨j, h1, h2⟩ => ⟨j, by omega, h2⟩, fun ⟨j, h1, h2⟩ => ⟨j, by
        have : j ≠ n := fun e => by rw [e, hb] at h2; cases h2
        omega, h2⟩⟩
      simp [hb, this]
    | true =>
      have h1 : ∃ j, j < n + 1 ∧ P j = true := ⟨n, by omega, hb⟩
      rw [if_pos h1]
      by_cases h2 : ∃ j, j < n ∧ P j = true
      · simp [hb, h2]
      · simp [hb, h2]
theorem pop_lc (h : r ≠ 0) : pop (lcJ r) + 1 = pop r := by
  have hx : ∃ j, j < 64 ∧ bJ r j = true := by
    apply Classical.byContradiction
    intro hn
    refine h (bJ_ext fun k hk => ?_)
    rw [bJ_0]
    cases hb : bJ r k with
    | false => rfl
    | true => exact absurd ⟨k, hk, hb⟩ hn
  have := flt_lc (bJ r) 64
  rw [if_pos hx] at this
  unfold pop
  rw [this]
  congr 2
  refine List.filter_congr fun k hk => ?_
  rw [bJ_lc (List.mem_range.mp hk)]
theorem pop_z : pop 0 = 0 := by decide +kernel
theorem pop_0 : pop r = 0 ↔ r = 0 := by
  constructor
  · intro h
    apply Classical.byContradiction
    intro hn
    have := pop_lc hn
    omega
  · intro h
    rw [h, pop_z]
theorem pop_le : pop r ≤ 64 := by
  have := List.length_filter_le (bJ r) (List.range 64)
  rwa [List.length_range] at this
theorem pop_list (hl : l.Nodup) (h : ∀ k, k < 64 → (bJ r k = true ↔ k ∈ l)) (hb : ∀ k ∈ l, k < 64) : pop r = l.length := by
  unfold pop
  refine ((List.perm_ext_iff_of_nodup (List.nodup_range.filter _) hl).mpr fun k => ?_).length_eq
  rw [List.mem_filter, List.mem_range]
  exact ⟨fun ⟨h1, h2⟩ => (h k h1).mp h2, fun h1 => ⟨hb k h1, (h k (hb k h1)).mpr h1⟩⟩
end BITS
