/-! pure: how meanings are computed -/
def b2i (b : Bool) : Int32 := if b then 1 else 0
theorem b2i_ne (b : Bool) : bop 5 (b2i b) 0 = b := by cases b <;> decide
theorem b2i_01 (b : Bool) : b2i b = 0 ∨ b2i b = 1 := by cases b <;> simp [b2i]
theorem inB_nI {a N : Nat} (h : a < 2147483648) : inB (nI a) N = decide (a < N) := by
  have h1 : ¬ nI a < 0 := nI_pos h
  have h2 : (nI a).toNatClampNeg = a := nI_clamp h
  unfold inB
  rw [h2]
  by_cases h3 : a < N
  · simp [h1, h3]
  · simp [h1, h3]; omega
theorem cl_nI {a : Nat} (h : a < 2147483648) : (nI a).toNatClampNeg = a := nI_clamp h
theorem bop0 {a b : Nat} (ha : a < 2147483648) (hb : b < 2147483648) : bop 0 (nI a) (nI b) = decide (a < b) := by
  simp only [bop, nI_ltI ha hb]
theorem bop1 {a b : Nat} (ha : a < 2147483648) (hb : b < 2147483648) : bop 1 (nI a) (nI b) = decide (a ≤ b) := by
  simp only [bop, nI_leI ha hb]
theorem bop2 {a b : Nat} (ha : a < 2147483648) (hb : b < 2147483648) : bop 2 (nI a) (nI b) = decide (b < a) := by
  simp only [bop, nI_ltI hb ha]
theorem bop3 {a b : Nat} (ha : a < 2147483648) (hb : b < 2147483648) : bop 3 (nI a) (nI b) = decide (b ≤ a) := by
  simp only [bop, nI_leI hb ha]
theorem bop4 {a b : Nat} (ha : a < 2147483648) (hb : b < 2147483648) : bop 4 (nI a) (nI b) = decide (a = b) := by
  simp only [bop, nI_eq ha hb]
theorem bop5 {a b : Nat} (ha : a < 2147483648) (hb : b < 2147483648) : bop 5 (nI a) (nI b) = !decide (a = b) := by
  simp only [bop, nI_eq ha hb]
theorem ev_X1_isBefore {σ : Sg} {m o s : Nat} (hm : m < σ.2.2.1 0) (ho : o < σ.2.2.1 0) (hs : σ.1 21 m 0 = nI s) (h4 : s < 4) : f_X1_isBefore [ar (6, m), ar (6, o)] σ = some (.inl (some (ai (if ¬ m = o ∧ σ.1 26 m s ≤ σ.1 26 o s then 1 else 0))), σ) := by
  simp (disch := omega) only [w_I, w_L, w_L1, w_LR, w_LR1, w_LN, w_LN1, w_LN2, w_null, w_N, w_N1, w_B, w_B1, w_B2, w_GI, w_GI1, w_GR, w_GR1, w_A, w_A1, w_A2, w_A3, w_rd3, w_wr3, w_rd7, w_wr7, w_rd8, w_wr8, w_rd9, w_wr9, w_rd10, w_wr10, w_rm0, w_wm0, w_rm1, w_wm1, w_rm2, w_wm2, w_rm3, w_wm3, w_rm4, w_wm4, w_rm5, w_wm5, w_rm6, w_wm6, w_rm7, w_wm7, w_rm8, w_wm8, w_rm9, w_wm9, w_rm10, w_wm10, w_rm11, w_wm11, w_rm12, w_wm12, w_rm13, w_wm13, w_rm14, w_wm14, w_rm15, w_wm15, w_rm16, w_wm16, w_v0, w_v1, w_v11, w_v13, w_v14, w_v2, w_v3, w_v4, w_v6, w_v7, w_v8, w_v9, w_v10, w_M, w_M1, w_M2, w_T, w_T1, w_C, w_C1, w_C2, w_Z, w_Z1, w_and, w_and1, w_or, w_or1, w_not, w_not1, w_tn, w_tn1, w_E, w_E1, w_E2, w_nl, w_nl1, w_nl2, w_seq, w_seq1, w_seq2, w_seq3, w_if, w_if1, w_skip, w_set, w_set1, w_setR, w_setR1, w_setN, w_setN1, w_setN2, w_inc, w_inc1, w_put, w_put1, w_put2, w_put3, w_wf0, w_wf1, w_po, w_po1, w_po2, w_ast, w_ast1, w_ast2, w_ast3, w_aop, w_aop1, w_aop2, w_aop3, w_aop4, w_ret, w_ret0, w_ret1, w_retN, w_retN1, w_retN2, w_retV, w_throw, w_aN, w_aI, w_aI1, w_aI2, w_aR, w_aR1, w_ask, w_ask1, w_V, w_V1, w_V2, w_S, w_S1, w_CI, w_CI1, w_CR, w_CR1, w_CN, w_CN1, w_CN2, w_CV, w_CV1, w_CV2, w_pop, w_pop1, w_popR, w_popR1, w_cast, w_cast1, w_run, w_run1, w_run2, ite_s1, ite_01, ite_10, ite_nz, sl_r, sl_I, sl_L, List.getElem?_cons_zero, List.getElem?_cons_succ, List.set_cons_zero, List.set_cons_succ, List.map_cons, List.map_nil, List.length_cons, List.length_nil, List.cons_append, List.nil_append, List.append_nil, List.replicate_succ, List.replicate_zero, Nat.reduceSub, Nat.reduceAdd, Nat.reduceEqDiff, if_true, if_false, true_and, and_true, reduceCtorEq, ite_true, ite_false, Bool.false_eq_true, Nat.zero_add, Nat.add_zero, Nat.sub_self, Nat.reduceLT, decide_eq_true_eq, Bool.not_eq_true, not_true_eq_false, not_false_eq_true, decide_true, decide_false, Bool.not_true, Bool.not_false, eq_self, f_X1_isBefore, b_X1_isBefore, hm, ho, hs, inB_nI, cl_nI, h4]
  done
