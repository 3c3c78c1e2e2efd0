/-! pure: loops; the class's state well formed; what small methods give -/
section WHL
variable {c : Ex Bool} {b : Sx} {N : Nat}
theorem wh_succ {lc : LcT} {σ : Sg} : sWh c b (N + 1) lc σ = (c lc σ).bind fun r => if r.1 = true then (b lc r.2).bind fun o => match o with
    | .inl q => sWh c b N q.1 q.2
    | .inr q => some (.inr q)
    else some (.inl (lc, r.2)) := rfl
theorem wh_from (A : Nat → LcT × Sg) {n : Nat} (hc : ∀ j, j < n → c (A j).1 (A j).2 = some (true, (A j).2)) (hb : ∀ j, j < n → b (A j).1 (A j).2 = some (.inl (A (j + 1)))) : ∀ d M j, j + d = n → sWh c b (M + d) (A j).1 (A j).2 = sWh c b M (A n).1 (A n).2 := by
  intro d
  induction d with
  | zero => intro M j h; rw [Nat.add_zero] at h; subst h; rfl
  | succ d ih =>
    intro M j h
    have e : sWh c b (M + (d + 1)) (A j).1 (A j).2 = sWh c b (M + d) (A (j + 1)).1 (A (j + 1)).2 := by
      rw [← Nat.add_assoc, wh_succ, hc j (by omega)]
      simp only [Option.bind_some, if_true]
      rw [hb j (by omega)]
      rfl
    rw [e]
    exact ih M (j + 1) (by omega)
theorem wh_run (A : Nat → LcT × Sg) (n : Nat) (hN : n < N) (hc : ∀ j, j < n → c (A j).1 (A j).2 = some (true, (A j).2)) (hb : ∀ j, j < n → b (A j).1 (A j).2 = some (.inl (A (j + 1)))) (hz : c (A n).1 (A n).2 = some (false, (A n).2)) : sWh c b N (A 0).1 (A 0).2 = some (.inl (A n)) := by
  obtain ⟨M, rfl⟩ : ∃ M, N = (M + 1) + n := ⟨N - n - 1, by omega⟩
  rw [wh_from A hc hb n (M + 1) 0 (by omega)]
  rw [wh_succ, hz]
  rfl
theorem wh_exit {r : Res × Sg} (A : Nat → LcT × Sg) (n : Nat) (hN : n < N) (hc : ∀ j, j < n → c (A j).1 (A j).2 = some (true, (A j).2)) (hb : ∀ j, j < n → b (A j).1 (A j).2 = some (.inl (A (j + 1)))) (hz : c (A n).1 (A n).2 = some (true, (A n).2)) (hx : b (A n).1 (A n).2 = some (.inr r)) : sWh c b N (A 0).1 (A 0).2 = some (.inr r) := by
  obtain ⟨M, rfl⟩ : ∃ M, N = (M + 1) + n := ⟨N - n - 1, by omega⟩
  rw [wh_from A hc hb n (M + 1) 0 (by omega)]
  rw [wh_succ, hz]
  simp only [Option.bind_some, if_true]
  rw [hx]
  rfl
/-- the least place below n with that property; n if there is none -/
def fI (P : Nat → Bool) : Nat → Nat
  | 0 => 0
  | n + 1 => if fI P n < n then fI P n else if P n = true then n else n + 1
theorem fI_le (P : Nat → Bool) (n : Nat) : fI P n ≤ n := by
  induction n with
  | zero => exact Nat.le_refl 0
  | succ n ih => unfold fI; split <;> (try split) <;> omega
theorem fI_lt {P : Nat → Bool} {n j : Nat} (h : j < fI P n) : P j = false := by
  induction n with
  | zero => exact absurd h (Nat.not_lt_zero _)
  | succ n ih =>
    unfold fI at h
    split at h
    · exact ih h
    · split at h
      · by_cases e : j < fI P n
        · exact ih e
        · have := fI_le P n; omega
      · rename_i h1 h2
        by_cases e : j < fI P n
        · exact ih e
        · have := fI_le P n
          have : j = n := by omega
          subst this
          simpa using h2
theorem fI_at {P : Nat → Bool} {n : Nat} (h : fI P n < n) : P (fI P n) = true := by
  induction n with
  | zero => exact absurd h (Nat.not_lt_zero _)
  | succ n ih =>
    unfold fI at h ⊢
    split
    · rename_i h1; exact ih h1
    · rename_i h1
      rw [if_neg h1] at h
      split
      · rename_i h2; exact h2
      · rename_i h2; rw [if_neg h2] at h; exact absurd h (Nat.lt_irrefl _)
theorem fI_ex {P : Nat → Bool} {n j : Nat} (h : j < n) (hp : P j = true) : fI P n ≤ j := by
  rcases Nat.lt_or_ge j (fI P n) with q | q
  · rw [fI_lt q] at hp; cases hp
  · exact q
/-- a loop that looks for something -/
theorem wh_find {P : Nat → Bool} {R : Nat → Res × Sg} (A : Nat → LcT × Sg) (n : Nat) (hN : n < N) (hc : ∀ j, j < n → c (A j).1 (A j).2 = some (true, (A j).2)) (hb : ∀ j, j < n → b (A j).1 (A j).2 = if P j = true then some (.inr (R j)) else some (.inl (A (j + 1)))) (hz : c (A n).1 (A n).2 = some (false, (A n).2)) : sWh c b N (A 0).1 (A 0).2 = if fI P n < n then some (.inr (R (fI P n))) else some (.inl (A n)) := by
  have hle := fI_le P n
  split
  · rename_i h
    refine wh_exit A (fI P n) (by omega) (fun j hj => hc j (by omega)) (fun j hj => ?_) (hc _ h) ?_
    · rw [hb j (by omega), if_neg (by rw [fI_lt hj]; decide)]
    · rw [hb _ h, if_pos (fI_at h)]
  · rename_i h
    refine wh_run A n hN hc (fun j hj => ?_) hz
    rw [hb j hj, if_neg (by rw [fI_lt (n := n) (P := P) (by omega)]; decide)]
/-- one and the same answer, wherever it is found -/
theorem wh_any {P : Nat → Bool} {r : Res × Sg} (A : Nat → LcT × Sg) (n : Nat) (hN : n < N) (hc : ∀ j, j < n → c (A j).1 (A j).2 = some (true, (A j).2)) (hb : ∀ j, j < n → b (A j).1 (A j).2 = if P j = true then some (.inr r) else some (.inl (A (j + 1)))) (hz : c (A n).1 (A n).2 = some (false, (A n).2)) : sWh c b N (A 0).1 (A 0).2 = if ∃ j, j < n ∧ P j = true then some (.inr r) else some (.inl (A n)) := by
  rw [wh_find (R := fun _ => r) A n hN hc hb hz]
  by_cases h : fI P n < n
  · rw [if_pos h, if_pos ⟨_, h, fI_at h⟩]
  · rw [if_neg h, if_neg]
    rintro ⟨j, hj, hp⟩
    have := fI_ex hj hp
    omega
end WHL
def sdr (σ : Sg) (m : Nat) : Nat := (σ.1 21 m 0).toNatClampNeg
def tk (σ : Sg) : Nat := (σ.1 0 0 0).toNatClampNeg
/-- the class's state, as far as no call ever changes it -/
def WF (σ : Sg) : Prop := σ.2.2.1 0 ≤ 48 ∧ σ.2.1 0 = List.range (σ.2.2.1 0) ∧ (∀ i, i < 4 → σ.1 10 i 0 = nI i) ∧ (∀ m, m < σ.2.2.1 0 → σ.1 20 m 0 = nI m) ∧ (∀ m, m < σ.2.2.1 0 → σ.1 21 m 0 = nI (sdr σ m) ∧ sdr σ m < 4) ∧ (σ.1 0 0 0 = nI (tk σ) ∧ tk σ < 4)
  ∧ (∀ k, k < 11 → (σ.2.1 k).Nodup ∧ (∀ x ∈ σ.2.1 k, x < σ.2.2.1 0) ∧ σ.2.2.1 (10 + k) < 100) ∧ (∀ i, i < 4 → (σ.1 13 i 0 = 0 ∨ σ.1 13 i 0 = 1) ∧ (σ.1 14 i 0 = 0 ∨ σ.1 14 i 0 = 1)) ∧ ∀ m, m < σ.2.2.1 0 → σ.1 25 m 0 = 0 ∨ σ.1 25 m 0 = 1
theorem nodup_le : ∀ (n : Nat) (l : List Nat), l.Nodup → (∀ x ∈ l, x < n) → l.length ≤ n := by
  intro n
  induction n with
  | zero =>
    intro l _ h
    cases l with
    | nil => exact Nat.le_refl 0
    | cons a l => exact absurd (h a List.mem_cons_self) (Nat.not_lt_zero _)
  | succ n ih =>
    intro l hl h
    have h1 := ih (l.erase n) (hl.erase n) (fun x hx => by
      have h2 := h x (List.mem_of_mem_erase hx)
      have h3 : x ≠ n := fun e => by subst e; exact (List.Nodup.not_mem_erase hl) hx
      omega)
    have := List.length_erase (a := n) (l := l)
    split at this <;> omega
section WFS
variable {σ : Sg}
theorem WF.n (W : WF σ) : σ.2.2.1 0 ≤ 48 := W.1
theorem WF.sent (W : WF σ) : σ.2.1 0 = List.range (σ.2.2.1 0) := W.2.1
theorem WF.id (W : WF σ) {i : Nat} (h : i < 4) : σ.1 10 i 0 = nI i := W.2.2.1 i h
theorem WF.mid (W : WF σ) {m : Nat} (h : m < σ.2.2.1 0) : σ.1 20 m 0 = nI m := W.2.2.2.1 m h
theorem WF.sn (W : WF σ) {m : Nat} (h : m < σ.2.2.1 0) : σ.1 21 m 0 = nI (sdr σ m) := (W.2.2.2.2.1 m h).1
theorem WF.sn4 (W : WF σ) {m : Nat} (h : m < σ.2.2.1 0) : (σ.1 21 m 0).toNatClampNeg < 4 := (W.2.2.2.2.1 m h).2
theorem WF.tok (W : WF σ) : σ.1 0 0 0 = nI (tk σ) := W.2.2.2.2.2.1.1
theorem WF.tk4 (W : WF σ) : tk σ < 4 := W.2.2.2.2.2.1.2
theorem WF.nd (W : WF σ) {k : Nat} (h : k < 11) : (σ.2.1 k).Nodup := (W.2.2.2.2.2.2.1 k h).1
theorem WF.el (W : WF σ) {k x : Nat} (h : k < 11) (hx : x ∈ σ.2.1 k) : x < σ.2.2.1 0 := (W.2.2.2.2.2.2.1 k h).2.1 x hx
theorem WF.cap (W : WF σ) {k : Nat} (h : k < 11) : σ.2.2.1 (10 + k) < 100 := (W.2.2.2.2.2.2.1 k h).2.2
theorem WF.al (W : WF σ) {i : Nat} (h : i < 4) : σ.1 13 i 0 = 0 ∨ σ.1 13 i 0 = 1 := (W.2.2.2.2.2.2.2.1 i h).1
theorem WF.iv (W : WF σ) {i : Nat} (h : i < 4) : σ.1 14 i 0 = 0 ∨ σ.1 14 i 0 = 1 := (W.2.2.2.2.2.2.2.1 i h).2
theorem WF.dr (W : WF σ) {m : Nat} (h : m < σ.2.2.1 0) : σ.1 25 m 0 = 0 ∨ σ.1 25 m 0 = 1 := W.2.2.2.2.2.2.2.2 m h
theorem WF.len (W : WF σ) {k : Nat} (h : k < 11) : (σ.2.1 k).length ≤ 48 := Nat.le_trans (nodup_le _ _ (W.nd h) (fun x hx => W.el h hx)) W.n
theorem WF.get (W : WF σ) {k j : Nat} (h : k < 11) (hj : j < (σ.2.1 k).length) : (σ.2.1 k).getD j 0 < σ.2.2.1 0 := by
  rw [List.getD_eq_getElem?_getD, List.getElem?_eq_getElem hj]
  exact W.el h (List.getElem_mem hj)
end WFS
theorem rg_get {n j : Nat} (h : j < n) : (List.range n).getD j 0 = j := by
  rw [List.getD_eq_getElem?_getD, List.getElem?_range h]
  rfl
/-- whether a number is a member's, a message's -/
abbrev mB (x : Int32) : Prop := 0 ≤ x ∧ x < 4
theorem ev_rMem {σ : Sg} {x : Int32} : f_X2_requireMember [ar (0, 0), ai x] σ = if 0 ≤ x ∧ x < 4 then some (.inl none, σ) else some (.inr 1, grw σ 1 6) := by
  by_cases h1 : x < 0
  · simp (disch := omega) only [w_I, w_L, w_L1, w_LR, w_LR1, w_LN, w_LN1, w_LN2, w_null, w_N, w_N1, w_B, w_B1, w_B2, w_GI, w_GI1, w_GR, w_GR1, w_A, w_A1, w_A2, w_A3, w_rd3, w_wr3, w_rd7, w_wr7, w_rd8, w_wr8, w_rd9, w_wr9, w_rd10, w_wr10, w_rm0, w_wm0, w_rm1, w_wm1, w_rm2, w_wm2, w_rm3, w_wm3, w_rm4, w_wm4, w_rm5, w_wm5, w_rm6, w_wm6, w_rm7, w_wm7, w_rm8, w_wm8, w_rm9, w_wm9, w_rm10, w_wm10, w_rm11, w_wm11, w_rm12, w_wm12, w_rm13, w_wm13, w_rm14, w_wm14, w_rm15, w_wm15, w_rm16, w_wm16, w_v0, w_v1, w_v11, w_v14, w_v2, w_v3, w_v4, w_v6, w_v7, w_v8, w_v9, w_v10, inB_t, cl_nI, w_ui1, w_ui2, w_ul1, w_ul3, w_lsz, w_lget, w_ladd, w_lrem, sl_ladd, sl_lrem, sl_grw, bp0, bp1, bp2, bp3, bp4, bp5, n_eq, n_lt, n_le, n_add, n_ad1, n_lt4, n_neg, n_lt0, n_ge0, w_M, w_M1, w_M2, w_T, w_T1, w_C, w_C1, w_C2, w_Z, w_Z1, w_and, w_and1, w_or, w_or1, w_not, w_not1, w_tn, w_tn1, w_E, w_E1, w_E2, w_nl, w_nl1, w_nl2, w_seq, w_seq1, w_seq2, w_seq3, w_if, w_if1, w_skip, w_set, w_set1, w_setR, w_setR1, w_setN, w_setN1, w_setN2, w_inc, w_inc1, w_put, w_put1, w_put2, w_put3, w_wf0, w_wf1, w_po, w_po1, w_po2, w_ast, w_ast1, w_ast2, w_ast3, w_aop, w_aop1, w_aop2, w_aop3, w_aop4, w_ret, w_ret0, w_ret1, w_retN, w_retN1, w_retN2, w_retV, w_throw, w_aN, w_aI, w_aI1, w_aI2, w_aR, w_aR1, w_ask, w_ask1, w_V, w_V1, w_V2, w_S, w_S1, w_CI, w_CI1, w_CR, w_CR1, w_CN, w_CN1, w_CN2, w_CV, w_CV1, w_CV2, w_pop, w_pop1, w_popR, w_popR1, w_cast, w_cast1, w_run, w_run1, w_run2, ite_s1, ite_01, ite_10, ite_nz, i_10, i_01, i_20, i_02, i_21, i_12, i_30, i_03, i_40, i_04, il_00, il_10, il_20, il_01, il_02, sl_r, sl_I, sl_L, List.getElem?_cons_zero, List.getElem?_cons_succ, List.set_cons_zero, List.set_cons_succ, List.map_cons, List.map_nil, List.length_cons, List.length_nil, List.cons_append, List.nil_append, List.append_nil, List.replicate_succ, List.replicate_zero, Nat.reduceSub, Nat.reduceAdd, Nat.reduceEqDiff, if_true, if_false, true_and, and_true, reduceCtorEq, ite_true, ite_false, Bool.false_eq_true, Nat.zero_add, Nat.add_zero, Nat.sub_self, Nat.reduceLT, decide_eq_true_eq, Bool.not_eq_true, not_true_eq_false, not_false_eq_true, decide_true, decide_false, decide_not, Bool.decide_eq_true, and_self, or_self, or_true, true_or, or_false, false_or, false_and, and_false, ne_eq, Bool.not_not, Bool.not_eq_eq_eq_not, Nat.reduceEqDiff, Nat.reduceLeDiff, Bool.not_true, Bool.not_false, eq_self, f_X2_requireMember, b_X2_requireMember, h1, Int32.not_le.mpr h1]
  · by_cases h2 : 4 ≤ x
    · simp (disch := omega) only [w_I, w_L, w_L1, w_LR, w_LR1, w_LN, w_LN1, w_LN2, w_null, w_N, w_N1, w_B, w_B1, w_B2, w_GI, w_GI1, w_GR, w_GR1, w_A, w_A1, w_A2, w_A3, w_rd3, w_wr3, w_rd7, w_wr7, w_rd8, w_wr8, w_rd9, w_wr9, w_rd10, w_wr10, w_rm0, w_wm0, w_rm1, w_wm1, w_rm2, w_wm2, w_rm3, w_wm3, w_rm4, w_wm4, w_rm5, w_wm5, w_rm6, w_wm6, w_rm7, w_wm7, w_rm8, w_wm8, w_rm9, w_wm9, w_rm10, w_wm10, w_rm11, w_wm11, w_rm12, w_wm12, w_rm13, w_wm13, w_rm14, w_wm14, w_rm15, w_wm15, w_rm16, w_wm16, w_v0, w_v1, w_v11, w_v14, w_v2, w_v3, w_v4, w_v6, w_v7, w_v8, w_v9, w_v10, inB_t, cl_nI, w_ui1, w_ui2, w_ul1, w_ul3, w_lsz, w_lget, w_ladd, w_lrem, sl_ladd, sl_lrem, sl_grw, bp0, bp1, bp2, bp3, bp4, bp5, n_eq, n_lt, n_le, n_add, n_ad1, n_lt4, n_neg, n_lt0, n_ge0, w_M, w_M1, w_M2, w_T, w_T1, w_C, w_C1, w_C2, w_Z, w_Z1, w_and, w_and1, w_or, w_or1, w_not, w_not1, w_tn, w_tn1, w_E, w_E1, w_E2, w_nl, w_nl1, w_nl2, w_seq, w_seq1, w_seq2, w_seq3, w_if, w_if1, w_skip, w_set, w_set1, w_setR, w_setR1, w_setN, w_setN1, w_setN2, w_inc, w_inc1, w_put, w_put1, w_put2, w_put3, w_wf0, w_wf1, w_po, w_po1, w_po2, w_ast, w_ast1, w_ast2, w_ast3, w_aop, w_aop1, w_aop2, w_aop3, w_aop4, w_ret, w_ret0, w_ret1, w_retN, w_retN1, w_retN2, w_retV, w_throw, w_aN, w_aI, w_aI1, w_aI2, w_aR, w_aR1, w_ask, w_ask1, w_V, w_V1, w_V2, w_S, w_S1, w_CI, w_CI1, w_CR, w_CR1, w_CN, w_CN1, w_CN2, w_CV, w_CV1, w_CV2, w_pop, w_pop1, w_popR, w_popR1, w_cast, w_cast1, w_run, w_run1, w_run2, ite_s1, ite_01, ite_10, ite_nz, i_10, i_01, i_20, i_02, i_21, i_12, i_30, i_03, i_40, i_04, il_00, il_10, il_20, il_01, il_02, sl_r, sl_I, sl_L, List.getElem?_cons_zero, List.getElem?_cons_succ, List.set_cons_zero, List.set_cons_succ, List.map_cons, List.map_nil, List.length_cons, List.length_nil, List.cons_append, List.nil_append, List.append_nil, List.replicate_succ, List.replicate_zero, Nat.reduceSub, Nat.reduceAdd, Nat.reduceEqDiff, if_true, if_false, true_and, and_true, reduceCtorEq, ite_true, ite_false, Bool.false_eq_true, Nat.zero_add, Nat.add_zero, Nat.sub_self, Nat.reduceLT, decide_eq_true_eq, Bool.not_eq_true, not_true_eq_false, not_false_eq_true, decide_true, decide_false, decide_not, Bool.decide_eq_true, and_self, or_self, or_true, true_or, or_false, false_or, false_and, and_false, ne_eq, Bool.not_not, Bool.not_eq_eq_eq_not, Nat.reduceEqDiff, Nat.reduceLeDiff, Bool.not_true, Bool.not_false, eq_self, f_X2_requireMember, b_X2_requireMember, h1, h2, Int32.not_lt.mp h1, Int32.not_lt.mpr h2]
    · simp (disch := omega) only [w_I, w_L, w_L1, w_LR, w_LR1, w_LN, w_LN1, w_LN2, w_null, w_N, w_N1, w_B, w_B1, w_B2, w_GI, w_GI1, w_GR, w_GR1, w_A, w_A1, w_A2, w_A3, w_rd3, w_wr3, w_rd7, w_wr7, w_rd8, w_wr8, w_rd9, w_wr9, w_rd10, w_wr10, w_rm0, w_wm0, w_rm1, w_wm1, w_rm2, w_wm2, w_rm3, w_wm3, w_rm4, w_wm4, w_rm5, w_wm5, w_rm6, w_wm6, w_rm7, w_wm7, w_rm8, w_wm8, w_rm9, w_wm9, w_rm10, w_wm10, w_rm11, w_wm11, w_rm12, w_wm12, w_rm13, w_wm13, w_rm14, w_wm14, w_rm15, w_wm15, w_rm16, w_wm16, w_v0, w_v1, w_v11, w_v14, w_v2, w_v3, w_v4, w_v6, w_v7, w_v8, w_v9, w_v10, inB_t, cl_nI, w_ui1, w_ui2, w_ul1, w_ul3, w_lsz, w_lget, w_ladd, w_lrem, sl_ladd, sl_lrem, sl_grw, bp0, bp1, bp2, bp3, bp4, bp5, n_eq, n_lt, n_le, n_add, n_ad1, n_lt4, n_neg, n_lt0, n_ge0, w_M, w_M1, w_M2, w_T, w_T1, w_C, w_C1, w_C2, w_Z, w_Z1, w_and, w_and1, w_or, w_or1, w_not, w_not1, w_tn, w_tn1, w_E, w_E1, w_E2, w_nl, w_nl1, w_nl2, w_seq, w_seq1, w_seq2, w_seq3, w_if, w_if1, w_skip, w_set, w_set1, w_setR, w_setR1, w_setN, w_setN1, w_setN2, w_inc, w_inc1, w_put, w_put1, w_put2, w_put3, w_wf0, w_wf1, w_po, w_po1, w_po2, w_ast, w_ast1, w_ast2, w_ast3, w_aop, w_aop1, w_aop2, w_aop3, w_aop4, w_ret, w_ret0, w_ret1, w_retN, w_retN1, w_retN2, w_retV, w_throw, w_aN, w_aI, w_aI1, w_aI2, w_aR, w_aR1, w_ask, w_ask1, w_V, w_V1, w_V2, w_S, w_S1, w_CI, w_CI1, w_CR, w_CR1, w_CN, w_CN1, w_CN2, w_CV, w_CV1, w_CV2, w_pop, w_pop1, w_popR, w_popR1, w_cast, w_cast1, w_run, w_run1, w_run2, ite_s1, ite_01, ite_10, ite_nz, i_10, i_01, i_20, i_02, i_21, i_12, i_30, i_03, i_40, i_04, il_00, il_10, il_20, il_01, il_02, sl_r, sl_I, sl_L, List.getElem?_cons_zero, List.getElem?_cons_succ, List.set_cons_zero, List.set_cons_succ, List.map_cons, List.map_nil, List.length_cons, List.length_nil, List.cons_append, List.nil_append, List.append_nil, List.replicate_succ, List.replicate_zero, Nat.reduceSub, Nat.reduceAdd, Nat.reduceEqDiff, if_true, if_false, true_and, and_true, reduceCtorEq, ite_true, ite_false, Bool.false_eq_true, Nat.zero_add, Nat.add_zero, Nat.sub_self, Nat.reduceLT, decide_eq_true_eq, Bool.not_eq_true, not_true_eq_false, not_false_eq_true, decide_true, decide_false, decide_not, Bool.decide_eq_true, and_self, or_self, or_true, true_or, or_false, false_or, false_and, and_false, ne_eq, Bool.not_not, Bool.not_eq_eq_eq_not, Nat.reduceEqDiff, Nat.reduceLeDiff, Bool.not_true, Bool.not_false, eq_self, f_X2_requireMember, b_X2_requireMember, h1, h2, Int32.not_lt.mp h1, Int32.not_le.mp h2]
