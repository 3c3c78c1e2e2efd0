/-! pure: the reference: sending -/
section ME
variable {σ τ υ : Sg} {m i j k n a b o k2 o2 j2 t B q N : Nat} {x y : Int32} {l : List Nat} {f : Nat → Int32}
theorem y_send (h : Rel σ τ) (W : WF σ) (hi : i < 4) (hh : σ.1 13 i 0 = 0 ∨ fI (fvP σ) 4 < 4 ∨ ¬ σ.2.2.1 0 < 48) : f_X3_send [ar (11, 0), ai (nI i)] τ = some (.inl (some (ai 0)), upI τ 40 0 0 2) := by
  have hn := W.n
  have e := e_isMem (τ := τ) (x := nI i)
  rw [if_pos (isI_nI hi)] at e
  by_cases ha : σ.1 13 i 0 = 0
  · simp (disch := first | omega | (simp only [w_ui2, w_ul3, ladd_n, lrem_N, grw_n, ladd_Ln, lrem_Ln, grw_L, List.length_range, fil_2, aO_2, pr_n, gN_n, d1_n, dl_n, fil_2, tO_2, tO_Ln, tI_n, stp_n]; omega)) only [w_I, w_L, w_L1, w_LR, w_LR1, w_LN, w_LN1, w_LN2, w_null, w_N, w_N1, w_B, w_B1, w_B2, w_GI, w_GI1, w_GR, w_GR1, w_A, w_A1, w_A2, w_A3, w_rd3, w_wr3, w_rd7, w_wr7, w_rd8, w_wr8, w_rd9, w_wr9, w_rd10, w_wr10, w_rm0, w_wm0, w_rm1, w_wm1, w_rm2, w_wm2, w_rm3, w_wm3, w_rm4, w_wm4, w_rm5, w_wm5, w_rm6, w_wm6, w_rm7, w_wm7, w_rm8, w_wm8, w_rm9, w_wm9, w_rm10, w_wm10, w_rm11, w_wm11, w_rm12, w_wm12, w_rm13, w_wm13, w_rm14, w_wm14, w_rm15, w_wm15, w_rm16, w_wm16, w_v0, w_v1, w_v11, w_v14, w_v2, w_v3, w_v4, w_v6, w_v7, w_v8, w_v9, w_v10, inB_t, cl_nI, w_ui1, w_ui2, w_ul1, w_ul3, w_lsz, w_lget, w_ladd, w_lrem, sl_ladd, sl_lrem, sl_grw, n_eq, n_lt, n_le, n_add, n_ad1, n_lt4, n_neg, n_lt0, n_ge0, w_M, w_M1, w_M2, w_T, w_T1, w_C, w_C1, w_Z, w_and, w_and1, w_or, w_or1, w_not, w_not1, w_tn, w_tn1, w_E, w_E1, w_E2, w_nl, w_nl1, w_nl2, w_C2_0, w_Z1_0, w_C2_1, w_Z1_1, w_C2_2, w_Z1_2, w_C2_3, w_Z1_3, w_C2_4, w_Z1_4, w_C2_5, w_Z1_5, w_seq, w_seq1, w_seq2, w_seq3, w_if, w_if1, w_skip, w_set, w_set1, w_setR, w_setR1, w_setN, w_setN1, w_setN2, w_inc, w_inc1, w_put, w_put1, w_put2, w_put3, w_wf0, w_wf1, w_po, w_po1, w_po2, w_ast, w_ast1, w_ast2, w_ast3, w_aop, w_aop1, w_aop2, w_aop3, w_aop4, w_ret, w_ret0, w_ret1, w_retN, w_retN1, w_retN2, w_retV, w_throw, w_aN, w_aI, w_aI1, w_aI2, w_aR, w_aR1, w_ask, w_ask1, w_V, w_V1, w_V2, w_S, w_S1, w_CI, w_CI1, w_CR, w_CR1, w_CN, w_CN1, w_CN2, w_CV, w_CV1, w_CV2, w_pop, w_pop1, w_popR, w_popR1, w_cast, w_cast1, w_run, w_run1, w_run2, ite_s1, ite_01, ite_10, ite_nz, i_10, i_01, i_20, i_02, i_21, i_12, i_30, i_03, i_40, i_04, il_00, il_10, il_20, il_01, il_02, sl_r, sl_I, sl_L, List.getElem?_cons_zero, List.getElem?_cons_succ, List.set_cons_zero, List.set_cons_succ, List.map_cons, List.map_nil, List.length_cons, List.length_nil, List.cons_append, List.nil_append, List.append_nil, List.replicate_succ, List.replicate_zero, Nat.reduceSub, Nat.reduceAdd, Nat.reduceEqDiff, if_true, if_false, true_and, and_true, reduceCtorEq, ite_true, ite_false, Bool.false_eq_true, Nat.zero_add, Nat.add_zero, Nat.sub_self, Nat.reduceLT, decide_eq_true_eq, Bool.not_eq_true, not_true_eq_false, not_false_eq_true, decide_true, decide_false, decide_not, Bool.decide_eq_true, and_self, or_self, or_true, true_or, or_false, false_or, false_and, and_false, ne_eq, Bool.not_not, Bool.not_eq_eq_eq_not, Nat.reduceEqDiff, Nat.reduceLeDiff, Bool.not_true, Bool.not_false, eq_self, ladd_I, ladd_L1, ladd_Ln, ladd_n, ladd_J, lrem_I, lrem_L1, lrem_Ln, lrem_N, grw_I, grw_L, grw_n, grw_J, sdr_u, tk_u, sdr_a, tk_a, sdr_r, tk_r, rg_get, List.length_range, fil_2, fil_I, sdr_f, tk_f, sl_fil, aO_2, pr_n, aO_I, aO_L, sl_aO, pr_I, pr_L, sl_pr, gN_n, d1_n, dl_n, gN_I, gN_L, sl_gN, d1_I, d1_L, d1_L1, sl_d1, dl_I, dl_L, dl_L1, sl_dl, sdr_dl, tk_dl, sl_dH, fil_2, sl_gT, sl_tI, tO_2, tO_Ln, tO_I, sl_tO, tI_n, stp_n, sl_lO, sl_dp, sl_cV, sl_rst, n_4m, n_48m, le_pred, ge0_pd, n_gt0, f_X3_send, b_X3_send, e, h.fai, ha]
  · have e2 := e_isBroken h
    by_cases hf : fI (fvP σ) 4 < 4
    · rw [if_pos hf] at e2
      simp (disch := first | omega | (simp only [w_ui2, w_ul3, ladd_n, lrem_N, grw_n, ladd_Ln, lrem_Ln, grw_L, List.length_range, fil_2, aO_2, pr_n, gN_n, d1_n, dl_n, fil_2, tO_2, tO_Ln, tI_n, stp_n]; omega)) only [w_I, w_L, w_L1, w_LR, w_LR1, w_LN, w_LN1, w_LN2, w_null, w_N, w_N1, w_B, w_B1, w_B2, w_GI, w_GI1, w_GR, w_GR1, w_A, w_A1, w_A2, w_A3, w_rd3, w_wr3, w_rd7, w_wr7, w_rd8, w_wr8, w_rd9, w_wr9, w_rd10, w_wr10, w_rm0, w_wm0, w_rm1, w_wm1, w_rm2, w_wm2, w_rm3, w_wm3, w_rm4, w_wm4, w_rm5, w_wm5, w_rm6, w_wm6, w_rm7, w_wm7, w_rm8, w_wm8, w_rm9, w_wm9, w_rm10, w_wm10, w_rm11, w_wm11, w_rm12, w_wm12, w_rm13, w_wm13, w_rm14, w_wm14, w_rm15, w_wm15, w_rm16, w_wm16, w_v0, w_v1, w_v11, w_v14, w_v2, w_v3, w_v4, w_v6, w_v7, w_v8, w_v9, w_v10, inB_t, cl_nI, w_ui1, w_ui2, w_ul1, w_ul3, w_lsz, w_lget, w_ladd, w_lrem, sl_ladd, sl_lrem, sl_grw, n_eq, n_lt, n_le, n_add, n_ad1, n_lt4, n_neg, n_lt0, n_ge0, w_M, w_M1, w_M2, w_T, w_T1, w_C, w_C1, w_Z, w_and, w_and1, w_or, w_or1, w_not, w_not1, w_tn, w_tn1, w_E, w_E1, w_E2, w_nl, w_nl1, w_nl2, w_C2_0, w_Z1_0, w_C2_1, w_Z1_1, w_C2_2, w_Z1_2, w_C2_3, w_Z1_3, w_C2_4, w_Z1_4, w_C2_5, w_Z1_5, w_seq, w_seq1, w_seq2, w_seq3, w_if, w_if1, w_skip, w_set, w_set1, w_setR, w_setR1, w_setN, w_setN1, w_setN2, w_inc, w_inc1, w_put, w_put1, w_put2, w_put3, w_wf0, w_wf1, w_po, w_po1, w_po2, w_ast, w_ast1, w_ast2, w_ast3, w_aop, w_aop1, w_aop2, w_aop3, w_aop4, w_ret, w_ret0, w_ret1, w_retN, w_retN1, w_retN2, w_retV, w_throw, w_aN, w_aI, w_aI1, w_aI2, w_aR, w_aR1, w_ask, w_ask1, w_V, w_V1, w_V2, w_S, w_S1, w_CI, w_CI1, w_CR, w_CR1, w_CN, w_CN1, w_CN2, w_CV, w_CV1, w_CV2, w_pop, w_pop1, w_popR, w_popR1, w_cast, w_cast1, w_run, w_run1, w_run2, ite_s1, ite_01, ite_10, ite_nz, i_10, i_01, i_20, i_02, i_21, i_12, i_30, i_03, i_40, i_04, il_00, il_10, il_20, il_01, il_02, sl_r, sl_I, sl_L, List.getElem?_cons_zero, List.getElem?_cons_succ, List.set_cons_zero, List.set_cons_succ, List.map_cons, List.map_nil, List.length_cons, List.length_nil, List.cons_append, List.nil_append, List.append_nil, List.replicate_succ, List.replicate_zero, Nat.reduceSub, Nat.reduceAdd, Nat.reduceEqDiff, if_true, if_false, true_and, and_true, reduceCtorEq, ite_true, ite_false, Bool.false_eq_true, Nat.zero_add, Nat.add_zero, Nat.sub_self, Nat.reduceLT, decide_eq_true_eq, Bool.not_eq_true, not_true_eq_false, not_false_eq_true, decide_true, decide_false, decide_not, Bool.decide_eq_true, and_self, or_self, or_true, true_or, or_false, false_or, false_and, and_false, ne_eq, Bool.not_not, Bool.not_eq_eq_eq_not, Nat.reduceEqDiff, Nat.reduceLeDiff, Bool.not_true, Bool.not_false, eq_self, ladd_I, ladd_L1, ladd_Ln, ladd_n, ladd_J, lrem_I, lrem_L1, lrem_Ln, lrem_N, grw_I, grw_L, grw_n, grw_J, sdr_u, tk_u, sdr_a, tk_a, sdr_r, tk_r, rg_get, List.length_range, fil_2, fil_I, sdr_f, tk_f, sl_fil, aO_2, pr_n, aO_I, aO_L, sl_aO, pr_I, pr_L, sl_pr, gN_n, d1_n, dl_n, gN_I, gN_L, sl_gN, d1_I, d1_L, d1_L1, sl_d1, dl_I, dl_L, dl_L1, sl_dl, sdr_dl, tk_dl, sl_dH, fil_2, sl_gT, sl_tI, tO_2, tO_Ln, tO_I, sl_tO, tI_n, stp_n, sl_lO, sl_dp, sl_cV, sl_rst, n_4m, n_48m, le_pred, ge0_pd, n_gt0, f_X3_send, b_X3_send, e, h.fai, ha, e2]
    · rw [if_neg hf] at e2
      have hN := (hh.resolve_left ha).resolve_left hf
      have h48 : σ.2.2.1 0 = 48 := by omega
      have e3 : τ.1 41 0 0 = 48 := by rw [h.mes, h48]; rfl
      simp (disch := first | omega | (simp only [w_ui2, w_ul3, ladd_n, lrem_N, grw_n, ladd_Ln, lrem_Ln, grw_L, List.length_range, fil_2, aO_2, pr_n, gN_n, d1_n, dl_n, fil_2, tO_2, tO_Ln, tI_n, stp_n]; omega)) only [w_I, w_L, w_L1, w_LR, w_LR1, w_LN, w_LN1, w_LN2, w_null, w_N, w_N1, w_B, w_B1, w_B2, w_GI, w_GI1, w_GR, w_GR1, w_A, w_A1, w_A2, w_A3, w_rd3, w_wr3, w_rd7, w_wr7, w_rd8, w_wr8, w_rd9, w_wr9, w_rd10, w_wr10, w_rm0, w_wm0, w_rm1, w_wm1, w_rm2, w_wm2, w_rm3, w_wm3, w_rm4, w_wm4, w_rm5, w_wm5, w_rm6, w_wm6, w_rm7, w_wm7, w_rm8, w_wm8, w_rm9, w_wm9, w_rm10, w_wm10, w_rm11, w_wm11, w_rm12, w_wm12, w_rm13, w_wm13, w_rm14, w_wm14, w_rm15, w_wm15, w_rm16, w_wm16, w_v0, w_v1, w_v11, w_v14, w_v2, w_v3, w_v4, w_v6, w_v7, w_v8, w_v9, w_v10, inB_t, cl_nI, w_ui1, w_ui2, w_ul1, w_ul3, w_lsz, w_lget, w_ladd, w_lrem, sl_ladd, sl_lrem, sl_grw, n_eq, n_lt, n_le, n_add, n_ad1, n_lt4, n_neg, n_lt0, n_ge0, w_M, w_M1, w_M2, w_T, w_T1, w_C, w_C1, w_Z, w_and, w_and1, w_or, w_or1, w_not, w_not1, w_tn, w_tn1, w_E, w_E1, w_E2, w_nl, w_nl1, w_nl2, w_C2_0, w_Z1_0, w_C2_1, w_Z1_1, w_C2_2, w_Z1_2, w_C2_3, w_Z1_3, w_C2_4, w_Z1_4, w_C2_5, w_Z1_5, w_seq, w_seq1, w_seq2, w_seq3, w_if, w_if1, w_skip, w_set, w_set1, w_setR, w_setR1, w_setN, w_setN1, w_setN2, w_inc, w_inc1, w_put, w_put1, w_put2, w_put3, w_wf0, w_wf1, w_po, w_po1, w_po2, w_ast, w_ast1, w_ast2, w_ast3, w_aop, w_aop1, w_aop2, w_aop3, w_aop4, w_ret, w_ret0, w_ret1, w_retN, w_retN1, w_retN2, w_retV, w_throw, w_aN, w_aI, w_aI1, w_aI2, w_aR, w_aR1, w_ask, w_ask1, w_V, w_V1, w_V2, w_S, w_S1, w_CI, w_CI1, w_CR, w_CR1, w_CN, w_CN1, w_CN2, w_CV, w_CV1, w_CV2, w_pop, w_pop1, w_popR, w_popR1, w_cast, w_cast1, w_run, w_run1, w_run2, ite_s1, ite_01, ite_10, ite_nz, i_10, i_01, i_20, i_02, i_21, i_12, i_30, i_03, i_40, i_04, il_00, il_10, il_20, il_01, il_02, sl_r, sl_I, sl_L, List.getElem?_cons_zero, List.getElem?_cons_succ, List.set_cons_zero, List.set_cons_succ, List.map_cons, List.map_nil, List.length_cons, List.length_nil, List.cons_append, List.nil_append, List.append_nil, List.replicate_succ, List.replicate_zero, Nat.reduceSub, Nat.reduceAdd, Nat.reduceEqDiff, if_true, if_false, true_and, and_true, reduceCtorEq, ite_true, ite_false, Bool.false_eq_true, Nat.zero_add, Nat.add_zero, Nat.sub_self, Nat.reduceLT, decide_eq_true_eq, Bool.not_eq_true, not_true_eq_false, not_false_eq_true, decide_true, decide_false, decide_not, Bool.decide_eq_true, and_self, or_self, or_true, true_or, or_false, false_or, false_and, and_false, ne_eq, Bool.not_not, Bool.not_eq_eq_eq_not, Nat.reduceEqDiff, Nat.reduceLeDiff, Bool.not_true, Bool.not_false, eq_self, ladd_I, ladd_L1, ladd_Ln, ladd_n, ladd_J, lrem_I, lrem_L1, lrem_Ln, lrem_N, grw_I, grw_L, grw_n, grw_J, sdr_u, tk_u, sdr_a, tk_a, sdr_r, tk_r, rg_get, List.length_range, fil_2, fil_I, sdr_f, tk_f, sl_fil, aO_2, pr_n, aO_I, aO_L, sl_aO, pr_I, pr_L, sl_pr, gN_n, d1_n, dl_n, gN_I, gN_L, sl_gN, d1_I, d1_L, d1_L1, sl_d1, dl_I, dl_L, dl_L1, sl_dl, sdr_dl, tk_dl, sl_dH, fil_2, sl_gT, sl_tI, tO_2, tO_Ln, tO_I, sl_tO, tI_n, stp_n, sl_lO, sl_dp, sl_cV, sl_rst, n_4m, n_48m, le_pred, ge0_pd, n_gt0, f_X3_send, b_X3_send, e, h.fai, ha, e2, e3]
def sw (σ : Sg) (N : Nat) (τ : Sg) : Nat → Sg
  | 0 => τ
  | j + 1 => upI (upI (sw σ N τ j) 51 0 (4 * N + j) (if σ.1 14 j 0 = 0 then 3 else 0)) 53 0 (4 * N + j) (-1)
theorem sw_s : sw σ N τ (j + 1) = upI (upI (sw σ N τ j) 51 0 (4 * N + j) (if σ.1 14 j 0 = 0 then 3 else 0)) 53 0 (4 * N + j) (-1) := rfl
theorem sw_I (h : k2 ≠ 51) (h1 : k2 ≠ 53) : ∀ t, (sw σ N τ t).1 k2 o2 j2 = τ.1 k2 o2 j2 := by
  intro t
  induction t with
  | zero => rfl
  | succ t ih => rw [sw_s, upI_n h1, upI_n h]; exact ih
theorem sw_2 : ∀ t, (sw σ N τ t).2 = τ.2 := by
  intro t
  induction t with
  | zero => rfl
  | succ t ih => rw [sw_s, w_ui2, w_ui2]; exact ih
theorem sw_lo (h : j2 < 4 * N) : ∀ t, (sw σ N τ t).1 k2 o2 j2 = τ.1 k2 o2 j2 := by
  intro t
  induction t with
  | zero => rfl
  | succ t ih =>
    rw [sw_s, w_ui1, if_neg (by omega), w_ui1, if_neg (by omega)]
    exact ih
theorem sw_51 : ∀ t, j < t → (sw σ N τ t).1 51 0 (4 * N + j) = if σ.1 14 j 0 = 0 then 3 else 0 := by
  intro t
  induction t with
  | zero => intro h; exact absurd h (Nat.not_lt_zero _)
  | succ t ih =>
    intro h
    rw [sw_s, upI_n (by decide), w_ui1]
    by_cases e : j = t
    · subst e; rw [if_pos ⟨rfl, rfl, rfl⟩]
    · rw [if_neg (by omega)]; exact ih (by omega)
theorem sw_53 : ∀ t, j < t → (sw σ N τ t).1 53 0 (4 * N + j) = -1 := by
  intro t
  induction t with
  | zero => intro h; exact absurd h (Nat.not_lt_zero _)
  | succ t ih =>
    intro h
    rw [sw_s, w_ui1]
    by_cases e : j = t
    · subst e; rw [if_pos ⟨rfl, rfl, rfl⟩]
    · rw [if_neg (by omega), upI_n (by decide)]; exact ih (by omega)
/-- the reference's rows of a new message -/
def s5 (τ : Sg) (N : Nat) (i : Nat) : Sg := upI (upI (upI (upI (upI τ 41 0 0 (nI (N + 1))) 50 0 N (nI i)) 55 0 N (-1)) 56 0 N (-1)) 54 0 N 0
theorem s5_I (h : k2 ≠ 41) (hp : k2 ≠ 50 ∧ k2 ≠ 55 ∧ k2 ≠ 56 ∧ k2 ≠ 54 ∨ j2 ≠ N) : (s5 τ N i).1 k2 o2 j2 = τ.1 k2 o2 j2 := by
  unfold s5
  rw [w_ui1, if_neg (by omega), w_ui1, if_neg (by omega), w_ui1, if_neg (by omega), w_ui1, if_neg (by omega), upI_n h]
theorem Rel.new (h : Rel σ τ) (W : WF σ) (hi : i < 4) : Rel (fil (sd2 σ i) 26 (σ.2.2.1 0) 4 (fun j => τ.1 52 0 (4 * σ.2.2.1 0 + j))) (sw σ (σ.2.2.1 0) (s5 τ (σ.2.2.1 0) i) 4) := by
  have en : (fil (sd2 σ i) 26 (σ.2.2.1 0) 4 (fun j => τ.1 52 0 (4 * σ.2.2.1 0 + j))).2.2.1 0 = σ.2.2.1 0 + 1 := sd2_n
  have cO : ∀ k a j, k < 30 → a ≠ σ.2.2.1 0 ∨ k < 20 → (fil (sd2 σ i) 26 (σ.2.2.1 0) 4 (fun j => τ.1 52 0 (4 * σ.2.2.1 0 + j))).1 k a j = σ.1 k a j := fun k a j hk ha => by
    have e : (fil (sd2 σ i) 26 (σ.2.2.1 0) 4 (fun j => τ.1 52 0 (4 * σ.2.2.1 0 + j))).1 k a j = (sd2 σ i).1 k a j := if_neg (by omega)
    rw [e]
    exact sd2_I (by omega) (by omega)
  have cN : ∀ k j, k < 30 → k ≠ 26 → (fil (sd2 σ i) 26 (σ.2.2.1 0) 4 (fun j => τ.1 52 0 (4 * σ.2.2.1 0 + j))).1 k (σ.2.2.1 0) j = (sd2 σ i).1 k (σ.2.2.1 0) j := fun k j hk h26 => fil_I h26
  have cL : ∀ k, k ≠ 0 → (fil (sd2 σ i) 26 (σ.2.2.1 0) 4 (fun j => τ.1 52 0 (4 * σ.2.2.1 0 + j))).2.1 k = σ.2.1 k := fun k hk => sd2_L hk
  have et : tk (fil (sd2 σ i) 26 (σ.2.2.1 0) 4 (fun j => τ.1 52 0 (4 * σ.2.2.1 0 + j))) = tk σ := by unfold tk; rw [cO 0 0 0 (by decide) (Or.inr (by decide))]
  have mI : ∀ k p, k ≠ 51 → k ≠ 53 → k ≠ 41 → (k ≠ 50 ∧ k ≠ 55 ∧ k ≠ 56 ∧ k ≠ 54 ∨ p ≠ σ.2.2.1 0) → (sw σ (σ.2.2.1 0) (s5 τ (σ.2.2.1 0) i) 4).1 k 0 p = τ.1 k 0 p := fun k p h1 h2 h3 h4 => by
    rw [sw_I h1 h2, s5_I h3 h4]
  have mLo : ∀ k p, (k = 51 ∨ k = 53) → p < 4 * σ.2.2.1 0 → (sw σ (σ.2.2.1 0) (s5 τ (σ.2.2.1 0) i) 4).1 k 0 p = τ.1 k 0 p := fun k p hk hp => by
    rw [sw_lo hp, s5_I (by omega) (by omega)]
  have m5 : ∀ k, k = 50 ∨ k = 55 ∨ k = 56 ∨ k = 54 ∨ k = 41 → ∀ p, (sw σ (σ.2.2.1 0) (s5 τ (σ.2.2.1 0) i) 4).1 k 0 p = (s5 τ (σ.2.2.1 0) i).1 k 0 p := fun k hk p => sw_I (by omega) (by omega) 4
  refine ⟨fun m hm => ?_, fun m j hm hj => ?_, fun m j hm hj => ?_, fun m j hm hj => ?_, fun m hm => ?_, fun m hm => ?_, fun m hm => ?_, fun b hb => ?_, fun b hb => ?_, fun b j hb hj => ?_, fun b hb => ?_, fun b j hb hj => ?_, fun b hb => ?_, fun b j hb hj => ?_, fun b hb => ?_, fun b hb hal ht => ?_, fun b hb hal => ?_, ?_, ?_, ?_, ?_, ?_⟩
  · rw [en] at hm
    by_cases c : m = σ.2.2.1 0
    · rw [c, cN 21 0 (by decide) (by decide), sd2_new (by decide) (by decide), nm_v21, m5 50 (by simp)]
      unfold s5
      rw [upI_n (by decide), upI_n (by decide), upI_n (by decide), upI_s]
    · rw [cO 21 m 0 (by decide) (Or.inl c), mI 50 m (by decide) (by decide) (by decide) (Or.inr c)]
      exact h.snd (by omega)
  · rw [en] at hm
    by_cases c : m = σ.2.2.1 0
    · rw [c, cN 27 j (by decide) (by decide), sd2_27 hj, sw_51 4 hj]
    · rw [cO 27 m j (by decide) (Or.inl c), mLo 51 _ (Or.inl rfl) (by omega)]
      exact h.cpy (by omega) hj
  · rw [en] at hm
    by_cases c : m = σ.2.2.1 0
    · rw [c, mI 52 _ (by decide) (by decide) (by decide) (Or.inl (by decide))]
      exact (if_pos ⟨rfl, rfl, hj⟩).symm
    · rw [cO 26 m j (by decide) (Or.inl c), mI 52 _ (by decide) (by decide) (by decide) (Or.inl (by decide))]
      exact h.stm (by omega) hj
  · rw [en] at hm
    by_cases c : m = σ.2.2.1 0
    · rw [c, cN 28 j (by decide) (by decide), sd2_new (by decide) (by decide), nm_v28, fNeg4 hj, sw_53 4 hj]
    · rw [cO 28 m j (by decide) (Or.inl c), mLo 53 _ (Or.inr rfl) (by omega)]
      exact h.pro (by omega) hj
  · rw [en] at hm
    by_cases c : m = σ.2.2.1 0
    · rw [c, cN 25 0 (by decide) (by decide), sd2_new (by decide) (by decide), nm_v25, m5 54 (by simp)]
      unfold s5
      rw [upI_s]
    · rw [cO 25 m 0 (by decide) (Or.inl c), mI 54 m (by decide) (by decide) (by decide) (Or.inr c)]
      exact h.drp (by omega)
  · rw [en] at hm
    by_cases c : m = σ.2.2.1 0
    · rw [c, cN 23 0 (by decide) (by decide), sd2_new (by decide) (by decide), nm_v23, m5 55 (by simp)]
      unfold s5
      rw [upI_n (by decide), upI_n (by decide), upI_s]
    · rw [cO 23 m 0 (by decide) (Or.inl c), mI 55 m (by decide) (by decide) (by decide) (Or.inr c)]
      exact h.num (by omega)
  · rw [en] at hm
    by_cases c : m = σ.2.2.1 0
    · rw [c, cN 24 0 (by decide) (by decide), sd2_new (by decide) (by decide), nm_v24, m5 56 (by simp)]
      unfold s5
      rw [upI_n (by decide), upI_s]
    · rw [cO 24 m 0 (by decide) (Or.inl c), mI 56 m (by decide) (by decide) (by decide) (Or.inr c)]
      exact h.agr (by omega)
  · rw [cO 13 b 0 (by decide) (Or.inr (by decide)), mI 57 b (by decide) (by decide) (by decide) (Or.inl (by decide))]
    exact h.fai hb
  · rw [cO 14 b 0 (by decide) (Or.inr (by decide)), mI 58 b (by decide) (by decide) (by decide) (Or.inl (by decide))]
    exact h.out hb
  · rw [cO 16 b j (by decide) (Or.inr (by decide)), mI 59 _ (by decide) (by decide) (by decide) (Or.inl (by decide))]
    exact h.clk hb hj
  · rw [cL _ (by omega), mI 60 b (by decide) (by decide) (by decide) (Or.inl (by decide))]
    exact h.dln hb
  · rw [cL _ (by omega)] at hj ⊢
    rw [mI 61 _ (by decide) (by decide) (by decide) (Or.inl (by decide))]
    exact h.dly hb hj
  · rw [cL _ (by omega), mI 62 b (by decide) (by decide) (by decide) (Or.inl (by decide))]
    exact h.wln hb
  · rw [cL _ (by omega)] at hj ⊢
    rw [mI 63 _ (by decide) (by decide) (by decide) (Or.inl (by decide))]
    exact h.wly hb hj
  · rw [cO 12 b 0 (by decide) (Or.inr (by decide)), mI 64 b (by decide) (by decide) (by decide) (Or.inl (by decide))]
    exact h.hgh hb
  · rw [cO 13 b 0 (by decide) (Or.inr (by decide))] at hal
    rw [et] at ht
    rw [cO 11 b 0 (by decide) (Or.inr (by decide)), mI 65 b (by decide) (by decide) (by decide) (Or.inl (by decide))]
    exact h.kno hb hal ht
  · rw [cO 13 b 0 (by decide) (Or.inr (by decide))] at hal
    rw [cO 15 b 0 (by decide) (Or.inr (by decide)), mI 66 b (by decide) (by decide) (by decide) (Or.inl (by decide))]
    exact h.kep hb hal
  · rw [en, m5 41 (by simp)]
    unfold s5
    rw [upI_n (by decide), upI_n (by decide), upI_n (by decide), upI_n (by decide), upI_s]
  · rw [cL 1 (by decide), mI 42 0 (by decide) (by decide) (by decide) (Or.inl (by decide))]
    exact h.nbd
  · rw [cO 1 0 0 (by decide) (Or.inr (by decide)), mI 43 0 (by decide) (by decide) (by decide) (Or.inl (by decide))]
    exact h.gre
  · rw [cO 0 0 0 (by decide) (Or.inr (by decide)), mI 44 0 (by decide) (by decide) (by decide) (Or.inl (by decide))]
    exact h.hol
  · rw [cO 2 0 0 (by decide) (Or.inr (by decide)), mI 45 0 (by decide) (by decide) (by decide) (Or.inl (by decide))]
    exact h.vie
/-- stamps taken over -/
def cw (τ : Sg) (N i : Nat) : Nat → Sg
  | 0 => τ
  | j + 1 => upI (cw τ N i j) 52 0 (4 * N + j) (τ.1 59 0 (4 * i + j))
theorem cw_s : cw τ N i (j + 1) = upI (cw τ N i j) 52 0 (4 * N + j) (τ.1 59 0 (4 * i + j)) := rfl
theorem cw_I (h : k2 ≠ 52) : ∀ t, (cw τ N i t).1 k2 = τ.1 k2 := by
  intro t
  induction t with
  | zero => rfl
  | succ t ih => rw [cw_s, upI_k h]; exact ih
theorem cw_2 : ∀ t, (cw τ N i t).2 = τ.2 := by
  intro t
  induction t with
  | zero => rfl
  | succ t ih => rw [cw_s, w_ui2]; exact ih
theorem cw_52 : ∀ t, j < t → (cw τ N i t).1 52 0 (4 * N + j) = τ.1 59 0 (4 * i + j) := by
  intro t
  induction t with
  | zero => intro h; exact absurd h (Nat.not_lt_zero _)
  | succ t ih =>
    intro h
    rw [cw_s, w_ui1]
    by_cases e : j = t
    · subst e; rw [if_pos ⟨rfl, rfl, rfl⟩]
    · rw [if_neg (by omega)]; exact ih (by omega)
theorem cw_lo (h : j2 < 4 * N ∨ 4 * N + 4 ≤ j2) : ∀ t, t ≤ 4 → (cw τ N i t).1 52 0 j2 = τ.1 52 0 j2 := by
  intro t
  induction t with
  | zero => intro _; rfl
  | succ t ih =>
    intro ht
    rw [cw_s, w_ui1, if_neg (by omega)]
    exact ih (by omega)
theorem Rel.stamps (h : Rel σ τ) (hi : i < 4) (hN : N < σ.2.2.1 0) : Rel (cpyS σ i N) (cw τ N i 4) := by
  have c26 : ∀ a j, j < 4 → (cpyS σ i N).1 26 a j = if a = N then σ.1 16 i j else σ.1 26 a j := fun a j hj => by
    by_cases c : a = N
    · rw [if_pos c, c]; exact cp_v hj
    · rw [if_neg c]; exact cp_n c
  have cO : ∀ k, k ≠ 26 → (cpyS σ i N).1 k = σ.1 k := fun k hk => by funext o j; exact cp_I hk
  have et : tk (cpyS σ i N) = tk σ := by unfold tk; rw [cO 0 (by decide)]
  obtain ⟨h1, h2, h3, h4, h5, h6, h7, h8, h9, h10, h11, h12, h13, h14, h15, h16, h17, h18, h19, h20, h21, h22⟩ := h
  unfold Rel
  rw [et]
  simp (disch := omega) only [cO, cw_I, cp_2]
  refine ⟨h1, h2, fun a j ha hj => ?_, h4, h5, h6, h7, h8, h9, h10, h11, h12, h13, h14, h15, h16, h17, h18, h19, h20, h21, h22⟩
  rw [c26 a j hj]
  by_cases c : a = N
  · rw [if_pos c, c, cw_52 4 hj]
    exact h10 i j hi hj
  · rw [if_neg c, cw_lo (by omega) 4 (Nat.le_refl _)]
    exact h3 a j ha hj
theorem fil_u (h : k ≠ k2) : upI (fil σ k2 o2 n f) k o j x = fil (upI σ k o j x) k2 o2 n f := by
  unfold fil upI
  congr 1
  funext k' o' j'
  dsimp only
  by_cases c : k' = k ∧ o' = o ∧ j' = j
  · rw [if_pos c, if_neg (fun q => h (c.1.symm.trans q.1)), if_pos c]
  · rw [if_neg c]
    by_cases d : k' = k2 ∧ o' = o2 ∧ j' < n
    · rw [if_pos d, if_pos d]
    · rw [if_neg d, if_neg d, if_neg c]
theorem fil_g : lgrow (fil σ k2 o2 n f) k = fil (lgrow σ k) k2 o2 n f := by
  unfold lgrow
  rw [fil_2]
  split <;> rfl
theorem fil_a (h : 30 ≠ k2) : ladd (fil σ k2 o2 n f) k m = fil (ladd σ k m) k2 o2 n f := by
  unfold ladd
  rw [fil_g, fil_I h, fil_u h, fil_2]
  rfl
theorem fil_d1 : S_d1 (fil σ 26 o2 n f) m i = fil (S_d1 σ m i) 26 o2 n f := by
  unfold S_d1
  rw [sdr_f (by decide), fil_I (by decide), fil_2, fil_u (by decide), fil_u (by decide), fil_a (by decide), fil_u (by decide)]
theorem fil_gN : S_gN (fil σ 26 o2 n f) m = fil (S_gN σ m) 26 o2 n f := by
  unfold S_gN
  rw [fil_I (by decide), fil_2, fil_u (by decide), fil_a (by decide)]
  split <;> rfl
theorem fil_dl : S_dl (fil σ 26 o2 n f) m i = fil (S_dl σ m i) 26 o2 n f := by
  rw [dl_eq, dl_eq, tk_f (by decide), fil_d1, fil_gN, fil_2, fil_u (by decide)]
  split <;> rfl
theorem fil_cp : cpyS (fil σ 26 N 4 f) i N = cpyS σ i N := by
  unfold cpyS upF
  congr 1
  funext k' o' j'
  dsimp only
  by_cases c : k' = 26 ∧ o' = N
  · rw [if_pos c, if_pos c]
    by_cases d : j' < 4
    · rw [if_pos d, if_pos d]
      exact fil_I (by decide)
    · rw [if_neg d, if_neg d]
      exact if_neg (fun q => d q.2.2)
  · have e : (fil σ 26 N 4 f).1 k' o' j' = σ.1 k' o' j' := if_neg (fun q => c ⟨q.1, q.2.1⟩)
    rw [if_neg c, if_neg c, e]
theorem e_send (h : Rel σ τ) (I : CI True σ B False 0 0) (hB : B + 1 < 2147483648) (hi : i < 4) (ha : ¬ σ.1 13 i 0 = 0) (hf : ¬ fI (fvP σ) 4 < 4) (hn : σ.2.2.1 0 < 48) : ∃ υ, f_X3_send [ar (11, 0), ai (nI i)] τ = some (.inl (some (ai (nI (σ.2.2.1 0)))), υ) ∧ Rel (S_sd σ i) υ ∧ Fp τ υ ∧ υ.1 40 0 0 = 0 := by
  have W := I.1.1.1
  have e := e_isMem (τ := τ) (x := nI i)
  rw [if_pos (isI_nI hi)] at e
  have e2 := e_isBroken h
  rw [if_neg hf] at e2
  have e3 : (nI (σ.2.2.1 0) = 48) = False := by
    rw [show (48 : Int32) = nI 48 from rfl, n_eq (by omega) (by decide)]
    simp
    omega
  have R1 := (h.u40 (x := 0)).new W hi
  have hl := wh_run (N := 1000) (c := (cCmp (bop 0) (xL 3) (xI 4))) (b := (sSeq (sSeq (sAst false (xGR 11 (fun _ => (12, 1)) (xLR 0)) (xBin (· + ·) (xBin (· * ·) (xI 4) (xL 2)) (xL 3)) (xTern (cZ (fun x => bop 5 x 0) (xAld true (xGR 11 (fun _ => (12, 8)) (xLR 0)) (xL 3))) (xI 3) (xI 0))) (sAst false (xGR 11 (fun _ => (12, 3)) (xLR 0)) (xBin (· + ·) (xBin (· * ·) (xI 4) (xL 2)) (xL 3)) (xI (-1)))) (sInc 3 1))) (fun j => ([some (ar (11, 0)), some (ai (nI i)), some (ai (nI (σ.2.2.1 0))), some (ai (nI j))], sw σ (σ.2.2.1 0) (s5 (upI τ 40 0 0 0) (σ.2.2.1 0) i) j)) 4 (by decide) (fun j hj => by simp (disch := first | omega | (simp only [w_ui2, w_ul3, ladd_n, lrem_N, grw_n, ladd_Ln, lrem_Ln, grw_L, List.length_range, fil_2, aO_2, pr_n, gN_n, d1_n, dl_n, fil_2, tO_2, tO_Ln, tI_n, stp_n]; omega)) only [w_I, w_L, w_L1, w_LR, w_LR1, w_LN, w_LN1, w_LN2, w_null, w_N, w_N1, w_B, w_B1, w_B2, w_GI, w_GI1, w_GR, w_GR1, w_A, w_A1, w_A2, w_A3, w_rd3, w_wr3, w_rd7, w_wr7, w_rd8, w_wr8, w_rd9, w_wr9, w_rd10, w_wr10, w_rm0, w_wm0, w_rm1, w_wm1, w_rm2, w_wm2, w_rm3, w_wm3, w_rm4, w_wm4, w_rm5, w_wm5, w_rm6, w_wm6, w_rm7, w_wm7, w_rm8, w_wm8, w_rm9, w_wm9, w_rm10, w_wm10, w_rm11, w_wm11, w_rm12, w_wm12, w_rm13, w_wm13, w_rm14, w_wm14, w_rm15, w_wm15, w_rm16, w_wm16, w_v0, w_v1, w_v11, w_v14, w_v2, w_v3, w_v4, w_v6, w_v7, w_v8, w_v9, w_v10, inB_t, cl_nI, w_ui1, w_ui2, w_ul1, w_ul3, w_lsz, w_lget, w_ladd, w_lrem, sl_ladd, sl_lrem, sl_grw, n_eq, n_lt, n_le, n_add, n_ad1, n_lt4, n_neg, n_lt0, n_ge0, w_M, w_M1, w_M2, w_T, w_T1, w_C, w_C1, w_Z, w_and, w_and1, w_or, w_or1, w_not, w_not1, w_tn, w_tn1, w_E, w_E1, w_E2, w_nl, w_nl1, w_nl2, w_C2_0, w_Z1_0, w_C2_1, w_Z1_1, w_C2_2, w_Z1_2, w_C2_3, w_Z1_3, w_C2_4, w_Z1_4, w_C2_5, w_Z1_5, w_seq, w_seq1, w_seq2, w_seq3, w_if, w_if1, w_skip, w_set, w_set1, w_setR, w_setR1, w_setN, w_setN1, w_setN2, w_inc, w_inc1, w_put, w_put1, w_put2, w_put3, w_wf0, w_wf1, w_po, w_po1, w_po2, w_ast, w_ast1, w_ast2, w_ast3, w_aop, w_aop1, w_aop2, w_aop3, w_aop4, w_ret, w_ret0, w_ret1, w_retN, w_retN1, w_retN2, w_retV, w_throw, w_aN, w_aI, w_aI1, w_aI2, w_aR, w_aR1, w_ask, w_ask1, w_V, w_V1, w_V2, w_S, w_S1, w_CI, w_CI1, w_CR, w_CR1, w_CN, w_CN1, w_CN2, w_CV, w_CV1, w_CV2, w_pop, w_pop1, w_popR, w_popR1, w_cast, w_cast1, w_run, w_run1, w_run2, ite_s1, ite_01, ite_10, ite_nz, i_10, i_01, i_20, i_02, i_21, i_12, i_30, i_03, i_40, i_04, il_00, il_10, il_20, il_01, il_02, sl_r, sl_I, sl_L, List.getElem?_cons_zero, List.getElem?_cons_succ, List.set_cons_zero, List.set_cons_succ, List.map_cons, List.map_nil, List.length_cons, List.length_nil, List.cons_append, List.nil_append, List.append_nil, List.replicate_succ, List.replicate_zero, Nat.reduceSub, Nat.reduceAdd, Nat.reduceEqDiff, if_true, if_false, true_and, and_true, reduceCtorEq, ite_true, ite_false, Bool.false_eq_true, Nat.zero_add, Nat.add_zero, Nat.sub_self, Nat.reduceLT, decide_eq_true_eq, Bool.not_eq_true, not_true_eq_false, not_false_eq_true, decide_true, decide_false, decide_not, Bool.decide_eq_true, and_self, or_self, or_true, true_or, or_false, false_or, false_and, and_false, ne_eq, Bool.not_not, Bool.not_eq_eq_eq_not, Nat.reduceEqDiff, Nat.reduceLeDiff, Bool.not_true, Bool.not_false, eq_self, ladd_I, ladd_L1, ladd_Ln, ladd_n, ladd_J, lrem_I, lrem_L1, lrem_Ln, lrem_N, grw_I, grw_L, grw_n, grw_J, sdr_u, tk_u, sdr_a, tk_a, sdr_r, tk_r, rg_get, List.length_range, fil_2, fil_I, sdr_f, tk_f, sl_fil, aO_2, pr_n, aO_I, aO_L, sl_aO, pr_I, pr_L, sl_pr, gN_n, d1_n, dl_n, gN_I, gN_L, sl_gN, d1_I, d1_L, d1_L1, sl_d1, dl_I, dl_L, dl_L1, sl_dl, sdr_dl, tk_dl, sl_dH, fil_2, sl_gT, sl_tI, tO_2, tO_Ln, tO_I, sl_tO, tI_n, stp_n, sl_lO, sl_dp, sl_cV, sl_rst, n_4m, n_48m, le_pred, ge0_pd, n_gt0, hj]) (fun j hj => by
    have e58 : (sw σ (σ.2.2.1 0) (s5 (upI τ 40 0 0 0) (σ.2.2.1 0) i) j).1 58 0 j = if σ.1 14 j 0 = 0 then 1 else 0 := by
      rw [sw_I (by decide) (by decide), s5_I (by decide) (Or.inl (by decide)), upI_n (by decide)]
      exact h.out hj
    rw [sw_s]
    by_cases c : σ.1 14 j 0 = 0
    · simp (disch := first | omega | (simp only [w_ui2, w_ul3, ladd_n, lrem_N, grw_n, ladd_Ln, lrem_Ln, grw_L, List.length_range, fil_2, aO_2, pr_n, gN_n, d1_n, dl_n, fil_2, tO_2, tO_Ln, tI_n, stp_n]; omega)) only [w_I, w_L, w_L1, w_LR, w_LR1, w_LN, w_LN1, w_LN2, w_null, w_N, w_N1, w_B, w_B1, w_B2, w_GI, w_GI1, w_GR, w_GR1, w_A, w_A1, w_A2, w_A3, w_rd3, w_wr3, w_rd7, w_wr7, w_rd8, w_wr8, w_rd9, w_wr9, w_rd10, w_wr10, w_rm0, w_wm0, w_rm1, w_wm1, w_rm2, w_wm2, w_rm3, w_wm3, w_rm4, w_wm4, w_rm5, w_wm5, w_rm6, w_wm6, w_rm7, w_wm7, w_rm8, w_wm8, w_rm9, w_wm9, w_rm10, w_wm10, w_rm11, w_wm11, w_rm12, w_wm12, w_rm13, w_wm13, w_rm14, w_wm14, w_rm15, w_wm15, w_rm16, w_wm16, w_v0, w_v1, w_v11, w_v14, w_v2, w_v3, w_v4, w_v6, w_v7, w_v8, w_v9, w_v10, inB_t, cl_nI, w_ui1, w_ui2, w_ul1, w_ul3, w_lsz, w_lget, w_ladd, w_lrem, sl_ladd, sl_lrem, sl_grw, n_eq, n_lt, n_le, n_add, n_ad1, n_lt4, n_neg, n_lt0, n_ge0, w_M, w_M1, w_M2, w_T, w_T1, w_C, w_C1, w_Z, w_and, w_and1, w_or, w_or1, w_not, w_not1, w_tn, w_tn1, w_E, w_E1, w_E2, w_nl, w_nl1, w_nl2, w_C2_0, w_Z1_0, w_C2_1, w_Z1_1, w_C2_2, w_Z1_2, w_C2_3, w_Z1_3, w_C2_4, w_Z1_4, w_C2_5, w_Z1_5, w_seq, w_seq1, w_seq2, w_seq3, w_if, w_if1, w_skip, w_set, w_set1, w_setR, w_setR1, w_setN, w_setN1, w_setN2, w_inc, w_inc1, w_put, w_put1, w_put2, w_put3, w_wf0, w_wf1, w_po, w_po1, w_po2, w_ast, w_ast1, w_ast2, w_ast3, w_aop, w_aop1, w_aop2, w_aop3, w_aop4, w_ret, w_ret0, w_ret1, w_retN, w_retN1, w_retN2, w_retV, w_throw, w_aN, w_aI, w_aI1, w_aI2, w_aR, w_aR1, w_ask, w_ask1, w_V, w_V1, w_V2, w_S, w_S1, w_CI, w_CI1, w_CR, w_CR1, w_CN, w_CN1, w_CN2, w_CV, w_CV1, w_CV2, w_pop, w_pop1, w_popR, w_popR1, w_cast, w_cast1, w_run, w_run1, w_run2, ite_s1, ite_01, ite_10, ite_nz, i_10, i_01, i_20, i_02, i_21, i_12, i_30, i_03, i_40, i_04, il_00, il_10, il_20, il_01, il_02, sl_r, sl_I, sl_L, List.getElem?_cons_zero, List.getElem?_cons_succ, List.set_cons_zero, List.set_cons_succ, List.map_cons, List.map_nil, List.length_cons, List.length_nil, List.cons_append, List.nil_append, List.append_nil, List.replicate_succ, List.replicate_zero, Nat.reduceSub, Nat.reduceAdd, Nat.reduceEqDiff, if_true, if_false, true_and, and_true, reduceCtorEq, ite_true, ite_false, Bool.false_eq_true, Nat.zero_add, Nat.add_zero, Nat.sub_self, Nat.reduceLT, decide_eq_true_eq, Bool.not_eq_true, not_true_eq_false, not_false_eq_true, decide_true, decide_false, decide_not, Bool.decide_eq_true, and_self, or_self, or_true, true_or, or_false, false_or, false_and, and_false, ne_eq, Bool.not_not, Bool.not_eq_eq_eq_not, Nat.reduceEqDiff, Nat.reduceLeDiff, Bool.not_true, Bool.not_false, eq_self, ladd_I, ladd_L1, ladd_Ln, ladd_n, ladd_J, lrem_I, lrem_L1, lrem_Ln, lrem_N, grw_I, grw_L, grw_n, grw_J, sdr_u, tk_u, sdr_a, tk_a, sdr_r, tk_r, rg_get, List.length_range, fil_2, fil_I, sdr_f, tk_f, sl_fil, aO_2, pr_n, aO_I, aO_L, sl_aO, pr_I, pr_L, sl_pr, gN_n, d1_n, dl_n, gN_I, gN_L, sl_gN, d1_I, d1_L, d1_L1, sl_d1, dl_I, dl_L, dl_L1, sl_dl, sdr_dl, tk_dl, sl_dH, fil_2, sl_gT, sl_tI, tO_2, tO_Ln, tO_I, sl_tO, tI_n, stp_n, sl_lO, sl_dp, sl_cV, sl_rst, n_4m, n_48m, le_pred, ge0_pd, n_gt0, e58, c]
    · simp (disch := first | omega | (simp only [w_ui2, w_ul3, ladd_n, lrem_N, grw_n, ladd_Ln, lrem_Ln, grw_L, List.length_range, fil_2, aO_2, pr_n, gN_n, d1_n, dl_n, fil_2, tO_2, tO_Ln, tI_n, stp_n]; omega)) only [w_I, w_L, w_L1, w_LR, w_LR1, w_LN, w_LN1, w_LN2, w_null, w_N, w_N1, w_B, w_B1, w_B2, w_GI, w_GI1, w_GR, w_GR1, w_A, w_A1, w_A2, w_A3, w_rd3, w_wr3, w_rd7, w_wr7, w_rd8, w_wr8, w_rd9, w_wr9, w_rd10, w_wr10, w_rm0, w_wm0, w_rm1, w_wm1, w_rm2, w_wm2, w_rm3, w_wm3, w_rm4, w_wm4, w_rm5, w_wm5, w_rm6, w_wm6, w_rm7, w_wm7, w_rm8, w_wm8, w_rm9, w_wm9, w_rm10, w_wm10, w_rm11, w_wm11, w_rm12, w_wm12, w_rm13, w_wm13, w_rm14, w_wm14, w_rm15, w_wm15, w_rm16, w_wm16, w_v0, w_v1, w_v11, w_v14, w_v2, w_v3, w_v4, w_v6, w_v7, w_v8, w_v9, w_v10, inB_t, cl_nI, w_ui1, w_ui2, w_ul1, w_ul3, w_lsz, w_lget, w_ladd, w_lrem, sl_ladd, sl_lrem, sl_grw, n_eq, n_lt, n_le, n_add, n_ad1, n_lt4, n_neg, n_lt0, n_ge0, w_M, w_M1, w_M2, w_T, w_T1, w_C, w_C1, w_Z, w_and, w_and1, w_or, w_or1, w_not, w_not1, w_tn, w_tn1, w_E, w_E1, w_E2, w_nl, w_nl1, w_nl2, w_C2_0, w_Z1_0, w_C2_1, w_Z1_1, w_C2_2, w_Z1_2, w_C2_3, w_Z1_3, w_C2_4, w_Z1_4, w_C2_5, w_Z1_5, w_seq, w_seq1, w_seq2, w_seq3, w_if, w_if1, w_skip, w_set, w_set1, w_setR, w_setR1, w_setN, w_setN1, w_setN2, w_inc, w_inc1, w_put, w_put1, w_put2, w_put3, w_wf0, w_wf1, w_po, w_po1, w_po2, w_ast, w_ast1, w_ast2, w_ast3, w_aop, w_aop1, w_aop2, w_aop3, w_aop4, w_ret, w_ret0, w_ret1, w_retN, w_retN1, w_retN2, w_retV, w_throw, w_aN, w_aI, w_aI1, w_aI2, w_aR, w_aR1, w_ask, w_ask1, w_V, w_V1, w_V2, w_S, w_S1, w_CI, w_CI1, w_CR, w_CR1, w_CN, w_CN1, w_CN2, w_CV, w_CV1, w_CV2, w_pop, w_pop1, w_popR, w_popR1, w_cast, w_cast1, w_run, w_run1, w_run2, ite_s1, ite_01, ite_10, ite_nz, i_10, i_01, i_20, i_02, i_21, i_12, i_30, i_03, i_40, i_04, il_00, il_10, il_20, il_01, il_02, sl_r, sl_I, sl_L, List.getElem?_cons_zero, List.getElem?_cons_succ, List.set_cons_zero, List.set_cons_succ, List.map_cons, List.map_nil, List.length_cons, List.length_nil, List.cons_append, List.nil_append, List.append_nil, List.replicate_succ, List.replicate_zero, Nat.reduceSub, Nat.reduceAdd, Nat.reduceEqDiff, if_true, if_false, true_and, and_true, reduceCtorEq, ite_true, ite_false, Bool.false_eq_true, Nat.zero_add, Nat.add_zero, Nat.sub_self, Nat.reduceLT, decide_eq_true_eq, Bool.not_eq_true, not_true_eq_false, not_false_eq_true, decide_true, decide_false, decide_not, Bool.decide_eq_true, and_self, or_self, or_true, true_or, or_false, false_or, false_and, and_false, ne_eq, Bool.not_not, Bool.not_eq_eq_eq_not, Nat.reduceEqDiff, Nat.reduceLeDiff, Bool.not_true, Bool.not_false, eq_self, ladd_I, ladd_L1, ladd_Ln, ladd_n, ladd_J, lrem_I, lrem_L1, lrem_Ln, lrem_N, grw_I, grw_L, grw_n, grw_J, sdr_u, tk_u, sdr_a, tk_a, sdr_r, tk_r, rg_get, List.length_range, fil_2, fil_I, sdr_f, tk_f, sl_fil, aO_2, pr_n, aO_I, aO_L, sl_aO, pr_I, pr_L, sl_pr, gN_n, d1_n, dl_n, gN_I, gN_L, sl_gN, d1_I, d1_L, d1_L1, sl_d1, dl_I, dl_L, dl_L1, sl_dl, sdr_dl, tk_dl, sl_dH, fil_2, sl_gT, sl_tI, tO_2, tO_Ln, tO_I, sl_tO, tI_n, stp_n, sl_lO, sl_dp, sl_cV, sl_rst, n_4m, n_48m, le_pred, ge0_pd, n_gt0, e58, c]) (by simp (disch := first | omega | (simp only [w_ui2, w_ul3, ladd_n, lrem_N, grw_n, ladd_Ln, lrem_Ln, grw_L, List.length_range, fil_2, aO_2, pr_n, gN_n, d1_n, dl_n, fil_2, tO_2, tO_Ln, tI_n, stp_n]; omega)) only [w_I, w_L, w_L1, w_LR, w_LR1, w_LN, w_LN1, w_LN2, w_null, w_N, w_N1, w_B, w_B1, w_B2, w_GI, w_GI1, w_GR, w_GR1, w_A, w_A1, w_A2, w_A3, w_rd3, w_wr3, w_rd7, w_wr7, w_rd8, w_wr8, w_rd9, w_wr9, w_rd10, w_wr10, w_rm0, w_wm0, w_rm1, w_wm1, w_rm2, w_wm2, w_rm3, w_wm3, w_rm4, w_wm4, w_rm5, w_wm5, w_rm6, w_wm6, w_rm7, w_wm7, w_rm8, w_wm8, w_rm9, w_wm9, w_rm10, w_wm10, w_rm11, w_wm11, w_rm12, w_wm12, w_rm13, w_wm13, w_rm14, w_wm14, w_rm15, w_wm15, w_rm16, w_wm16, w_v0, w_v1, w_v11, w_v14, w_v2, w_v3, w_v4, w_v6, w_v7, w_v8, w_v9, w_v10, inB_t, cl_nI, w_ui1, w_ui2, w_ul1, w_ul3, w_lsz, w_lget, w_ladd, w_lrem, sl_ladd, sl_lrem, sl_grw, n_eq, n_lt, n_le, n_add, n_ad1, n_lt4, n_neg, n_lt0, n_ge0, w_M, w_M1, w_M2, w_T, w_T1, w_C, w_C1, w_Z, w_and, w_and1, w_or, w_or1, w_not, w_not1, w_tn, w_tn1, w_E, w_E1, w_E2, w_nl, w_nl1, w_nl2, w_C2_0, w_Z1_0, w_C2_1, w_Z1_1, w_C2_2, w_Z1_2, w_C2_3, w_Z1_3, w_C2_4, w_Z1_4, w_C2_5, w_Z1_5, w_seq, w_seq1, w_seq2, w_seq3, w_if, w_if1, w_skip, w_set, w_set1, w_setR, w_setR1, w_setN, w_setN1, w_setN2, w_inc, w_inc1, w_put, w_put1, w_put2, w_put3, w_wf0, w_wf1, w_po, w_po1, w_po2, w_ast, w_ast1, w_ast2, w_ast3, w_aop, w_aop1, w_aop2, w_aop3, w_aop4, w_ret, w_ret0, w_ret1, w_retN, w_retN1, w_retN2, w_retV, w_throw, w_aN, w_aI, w_aI1, w_aI2, w_aR, w_aR1, w_ask, w_ask1, w_V, w_V1, w_V2, w_S, w_S1, w_CI, w_CI1, w_CR, w_CR1, w_CN, w_CN1, w_CN2, w_CV, w_CV1, w_CV2, w_pop, w_pop1, w_popR, w_popR1, w_cast, w_cast1, w_run, w_run1, w_run2, ite_s1, ite_01, ite_10, ite_nz, i_10, i_01, i_20, i_02, i_21, i_12, i_30, i_03, i_40, i_04, il_00, il_10, il_20, il_01, il_02, sl_r, sl_I, sl_L, List.getElem?_cons_zero, List.getElem?_cons_succ, List.set_cons_zero, List.set_cons_succ, List.map_cons, List.map_nil, List.length_cons, List.length_nil, List.cons_append, List.nil_append, List.append_nil, List.replicate_succ, List.replicate_zero, Nat.reduceSub, Nat.reduceAdd, Nat.reduceEqDiff, if_true, if_false, true_and, and_true, reduceCtorEq, ite_true, ite_false, Bool.false_eq_true, Nat.zero_add, Nat.add_zero, Nat.sub_self, Nat.reduceLT, decide_eq_true_eq, Bool.not_eq_true, not_true_eq_false, not_false_eq_true, decide_true, decide_false, decide_not, Bool.decide_eq_true, and_self, or_self, or_true, true_or, or_false, false_or, false_and, and_false, ne_eq, Bool.not_not, Bool.not_eq_eq_eq_not, Nat.reduceEqDiff, Nat.reduceLeDiff, Bool.not_true, Bool.not_false, eq_self, ladd_I, ladd_L1, ladd_Ln, ladd_n, ladd_J, lrem_I, lrem_L1, lrem_Ln, lrem_N, grw_I, grw_L, grw_n, grw_J, sdr_u, tk_u, sdr_a, tk_a, sdr_r, tk_r, rg_get, List.length_range, fil_2, fil_I, sdr_f, tk_f, sl_fil, aO_2, pr_n, aO_I, aO_L, sl_aO, pr_I, pr_L, sl_pr, gN_n, d1_n, dl_n, gN_I, gN_L, sl_gN, d1_I, d1_L, d1_L1, sl_d1, dl_I, dl_L, dl_L1, sl_dl, sdr_dl, tk_dl, sl_dH, fil_2, sl_gT, sl_tI, tO_2, tO_Ln, tO_I, sl_tO, tI_n, stp_n, sl_lO, sl_dp, sl_cV, sl_rst, n_4m, n_48m, le_pred, ge0_pd, n_gt0])
  have c0 : sw σ (σ.2.2.1 0) (s5 (upI τ 40 0 0 0) (σ.2.2.1 0) i) 0 = s5 (upI τ 40 0 0 0) (σ.2.2.1 0) i := rfl
  simp only [c0, nI_0] at hl
  have Wf : WF (fil (sd2 σ i) 26 (σ.2.2.1 0) 4 (fun j => (upI τ 40 0 0 0).1 52 0 (4 * σ.2.2.1 0 + j))) := (W.sd2 hi hn).fi (by decide)
  obtain ⟨υ2, g2, R2, F2⟩ := e_delivers (m := σ.2.2.1 0) (i := i) R1 Wf (by rw [fil_2, sd2_n]; omega) hi (by rw [fil_2, sd2_L (by omega)]; exact new_notin W (by omega)) (fun _ => by rw [fil_I (by decide), sd2_new (by decide) (by decide), nm_v23])
  rw [fil_dl] at R2
  have R3 := R2.stamps (i := i) (N := σ.2.2.1 0) hi (by rw [fil_2, dl_n, sd2_n]; omega)
  rw [fil_cp] at R3
  have R3' : Rel (sd4 σ i) (cw υ2 (σ.2.2.1 0) i 4) := R3
  have hl2 := wh_run (N := 1000) (c := (cCmp (bop 0) (xL 3) (xI 4))) (b := (sSeq (sAst false (xGR 11 (fun _ => (12, 2)) (xLR 0)) (xBin (· + ·) (xBin (· * ·) (xI 4) (xL 2)) (xL 3)) (xAld false (xGR 11 (fun _ => (12, 9)) (xLR 0)) (xBin (· + ·) (xBin (· * ·) (xI 4) (xL 1)) (xL 3)))) (sInc 3 1))) (fun j => ([some (ar (11, 0)), some (ai (nI i)), some (ai (nI (σ.2.2.1 0))), some (ai (nI j))], cw υ2 (σ.2.2.1 0) i j)) 4 (by decide) (fun j hj => by simp (disch := first | omega | (simp only [w_ui2, w_ul3, ladd_n, lrem_N, grw_n, ladd_Ln, lrem_Ln, grw_L, List.length_range, fil_2, aO_2, pr_n, gN_n, d1_n, dl_n, fil_2, tO_2, tO_Ln, tI_n, stp_n]; omega)) only [w_I, w_L, w_L1, w_LR, w_LR1, w_LN, w_LN1, w_LN2, w_null, w_N, w_N1, w_B, w_B1, w_B2, w_GI, w_GI1, w_GR, w_GR1, w_A, w_A1, w_A2, w_A3, w_rd3, w_wr3, w_rd7, w_wr7, w_rd8, w_wr8, w_rd9, w_wr9, w_rd10, w_wr10, w_rm0, w_wm0, w_rm1, w_wm1, w_rm2, w_wm2, w_rm3, w_wm3, w_rm4, w_wm4, w_rm5, w_wm5, w_rm6, w_wm6, w_rm7, w_wm7, w_rm8, w_wm8, w_rm9, w_wm9, w_rm10, w_wm10, w_rm11, w_wm11, w_rm12, w_wm12, w_rm13, w_wm13, w_rm14, w_wm14, w_rm15, w_wm15, w_rm16, w_wm16, w_v0, w_v1, w_v11, w_v14, w_v2, w_v3, w_v4, w_v6, w_v7, w_v8, w_v9, w_v10, inB_t, cl_nI, w_ui1, w_ui2, w_ul1, w_ul3, w_lsz, w_lget, w_ladd, w_lrem, sl_ladd, sl_lrem, sl_grw, n_eq, n_lt, n_le, n_add, n_ad1, n_lt4, n_neg, n_lt0, n_ge0, w_M, w_M1, w_M2, w_T, w_T1, w_C, w_C1, w_Z, w_and, w_and1, w_or, w_or1, w_not, w_not1, w_tn, w_tn1, w_E, w_E1, w_E2, w_nl, w_nl1, w_nl2, w_C2_0, w_Z1_0, w_C2_1, w_Z1_1, w_C2_2, w_Z1_2, w_C2_3, w_Z1_3, w_C2_4, w_Z1_4, w_C2_5, w_Z1_5, w_seq, w_seq1, w_seq2, w_seq3, w_if, w_if1, w_skip, w_set, w_set1, w_setR, w_setR1, w_setN, w_setN1, w_setN2, w_inc, w_inc1, w_put, w_put1, w_put2, w_put3, w_wf0, w_wf1, w_po, w_po1, w_po2, w_ast, w_ast1, w_ast2, w_ast3, w_aop, w_aop1, w_aop2, w_aop3, w_aop4, w_ret, w_ret0, w_ret1, w_retN, w_retN1, w_retN2, w_retV, w_throw, w_aN, w_aI, w_aI1, w_aI2, w_aR, w_aR1, w_ask, w_ask1, w_V, w_V1, w_V2, w_S, w_S1, w_CI, w_CI1, w_CR, w_CR1, w_CN, w_CN1, w_CN2, w_CV, w_CV1, w_CV2, w_pop, w_pop1, w_popR, w_popR1, w_cast, w_cast1, w_run, w_run1, w_run2, ite_s1, ite_01, ite_10, ite_nz, i_10, i_01, i_20, i_02, i_21, i_12, i_30, i_03, i_40, i_04, il_00, il_10, il_20, il_01, il_02, sl_r, sl_I, sl_L, List.getElem?_cons_zero, List.getElem?_cons_succ, List.set_cons_zero, List.set_cons_succ, List.map_cons, List.map_nil, List.length_cons, List.length_nil, List.cons_append, List.nil_append, List.append_nil, List.replicate_succ, List.replicate_zero, Nat.reduceSub, Nat.reduceAdd, Nat.reduceEqDiff, if_true, if_false, true_and, and_true, reduceCtorEq, ite_true, ite_false, Bool.false_eq_true, Nat.zero_add, Nat.add_zero, Nat.sub_self, Nat.reduceLT, decide_eq_true_eq, Bool.not_eq_true, not_true_eq_false, not_false_eq_true, decide_true, decide_false, decide_not, Bool.decide_eq_true, and_self, or_self, or_true, true_or, or_false, false_or, false_and, and_false, ne_eq, Bool.not_not, Bool.not_eq_eq_eq_not, Nat.reduceEqDiff, Nat.reduceLeDiff, Bool.not_true, Bool.not_false, eq_self, ladd_I, ladd_L1, ladd_Ln, ladd_n, ladd_J, lrem_I, lrem_L1, lrem_Ln, lrem_N, grw_I, grw_L, grw_n, grw_J, sdr_u, tk_u, sdr_a, tk_a, sdr_r, tk_r, rg_get, List.length_range, fil_2, fil_I, sdr_f, tk_f, sl_fil, aO_2, pr_n, aO_I, aO_L, sl_aO, pr_I, pr_L, sl_pr, gN_n, d1_n, dl_n, gN_I, gN_L, sl_gN, d1_I, d1_L, d1_L1, sl_d1, dl_I, dl_L, dl_L1, sl_dl, sdr_dl, tk_dl, sl_dH, fil_2, sl_gT, sl_tI, tO_2, tO_Ln, tO_I, sl_tO, tI_n, stp_n, sl_lO, sl_dp, sl_cV, sl_rst, n_4m, n_48m, le_pred, ge0_pd, n_gt0, hj]) (fun j hj => by
    have e59 : (cw υ2 (σ.2.2.1 0) i j).1 59 = υ2.1 59 := cw_I (by decide) j
    rw [cw_s]
    simp (disch := first | omega | (simp only [w_ui2, w_ul3, ladd_n, lrem_N, grw_n, ladd_Ln, lrem_Ln, grw_L, List.length_range, fil_2, aO_2, pr_n, gN_n, d1_n, dl_n, fil_2, tO_2, tO_Ln, tI_n, stp_n]; omega)) only [w_I, w_L, w_L1, w_LR, w_LR1, w_LN, w_LN1, w_LN2, w_null, w_N, w_N1, w_B, w_B1, w_B2, w_GI, w_GI1, w_GR, w_GR1, w_A, w_A1, w_A2, w_A3, w_rd3, w_wr3, w_rd7, w_wr7, w_rd8, w_wr8, w_rd9, w_wr9, w_rd10, w_wr10, w_rm0, w_wm0, w_rm1, w_wm1, w_rm2, w_wm2, w_rm3, w_wm3, w_rm4, w_wm4, w_rm5, w_wm5, w_rm6, w_wm6, w_rm7, w_wm7, w_rm8, w_wm8, w_rm9, w_wm9, w_rm10, w_wm10, w_rm11, w_wm11, w_rm12, w_wm12, w_rm13, w_wm13, w_rm14, w_wm14, w_rm15, w_wm15, w_rm16, w_wm16, w_v0, w_v1, w_v11, w_v14, w_v2, w_v3, w_v4, w_v6, w_v7, w_v8, w_v9, w_v10, inB_t, cl_nI, w_ui1, w_ui2, w_ul1, w_ul3, w_lsz, w_lget, w_ladd, w_lrem, sl_ladd, sl_lrem, sl_grw, n_eq, n_lt, n_le, n_add, n_ad1, n_lt4, n_neg, n_lt0, n_ge0, w_M, w_M1, w_M2, w_T, w_T1, w_C, w_C1, w_Z, w_and, w_and1, w_or, w_or1, w_not, w_not1, w_tn, w_tn1, w_E, w_E1, w_E2, w_nl, w_nl1, w_nl2, w_C2_0, w_Z1_0, w_C2_1, w_Z1_1, w_C2_2, w_Z1_2, w_C2_3, w_Z1_3, w_C2_4, w_Z1_4, w_C2_5, w_Z1_5, w_seq, w_seq1, w_seq2, w_seq3, w_if, w_if1, w_skip, w_set, w_set1, w_setR, w_setR1, w_setN, w_setN1, w_setN2, w_inc, w_inc1, w_put, w_put1, w_put2, w_put3, w_wf0, w_wf1, w_po, w_po1, w_po2, w_ast, w_ast1, w_ast2, w_ast3, w_aop, w_aop1, w_aop2, w_aop3, w_aop4, w_ret, w_ret0, w_ret1, w_retN, w_retN1, w_retN2, w_retV, w_throw, w_aN, w_aI, w_aI1, w_aI2, w_aR, w_aR1, w_ask, w_ask1, w_V, w_V1, w_V2, w_S, w_S1, w_CI, w_CI1, w_CR, w_CR1, w_CN, w_CN1, w_CN2, w_CV, w_CV1, w_CV2, w_pop, w_pop1, w_popR, w_popR1, w_cast, w_cast1, w_run, w_run1, w_run2, ite_s1, ite_01, ite_10, ite_nz, i_10, i_01, i_20, i_02, i_21, i_12, i_30, i_03, i_40, i_04, il_00, il_10, il_20, il_01, il_02, sl_r, sl_I, sl_L, List.getElem?_cons_zero, List.getElem?_cons_succ, List.set_cons_zero, List.set_cons_succ, List.map_cons, List.map_nil, List.length_cons, List.length_nil, List.cons_append, List.nil_append, List.append_nil, List.replicate_succ, List.replicate_zero, Nat.reduceSub, Nat.reduceAdd, Nat.reduceEqDiff, if_true, if_false, true_and, and_true, reduceCtorEq, ite_true, ite_false, Bool.false_eq_true, Nat.zero_add, Nat.add_zero, Nat.sub_self, Nat.reduceLT, decide_eq_true_eq, Bool.not_eq_true, not_true_eq_false, not_false_eq_true, decide_true, decide_false, decide_not, Bool.decide_eq_true, and_self, or_self, or_true, true_or, or_false, false_or, false_and, and_false, ne_eq, Bool.not_not, Bool.not_eq_eq_eq_not, Nat.reduceEqDiff, Nat.reduceLeDiff, Bool.not_true, Bool.not_false, eq_self, ladd_I, ladd_L1, ladd_Ln, ladd_n, ladd_J, lrem_I, lrem_L1, lrem_Ln, lrem_N, grw_I, grw_L, grw_n, grw_J, sdr_u, tk_u, sdr_a, tk_a, sdr_r, tk_r, rg_get, List.length_range, fil_2, fil_I, sdr_f, tk_f, sl_fil, aO_2, pr_n, aO_I, aO_L, sl_aO, pr_I, pr_L, sl_pr, gN_n, d1_n, dl_n, gN_I, gN_L, sl_gN, d1_I, d1_L, d1_L1, sl_d1, dl_I, dl_L, dl_L1, sl_dl, sdr_dl, tk_dl, sl_dH, fil_2, sl_gT, sl_tI, tO_2, tO_Ln, tO_I, sl_tO, tI_n, stp_n, sl_lO, sl_dp, sl_cV, sl_rst, n_4m, n_48m, le_pred, ge0_pd, n_gt0, e59]) (by simp (disch := first | omega | (simp only [w_ui2, w_ul3, ladd_n, lrem_N, grw_n, ladd_Ln, lrem_Ln, grw_L, List.length_range, fil_2, aO_2, pr_n, gN_n, d1_n, dl_n, fil_2, tO_2, tO_Ln, tI_n, stp_n]; omega)) only [w_I, w_L, w_L1, w_LR, w_LR1, w_LN, w_LN1, w_LN2, w_null, w_N, w_N1, w_B, w_B1, w_B2, w_GI, w_GI1, w_GR, w_GR1, w_A, w_A1, w_A2, w_A3, w_rd3, w_wr3, w_rd7, w_wr7, w_rd8, w_wr8, w_rd9, w_wr9, w_rd10, w_wr10, w_rm0, w_wm0, w_rm1, w_wm1, w_rm2, w_wm2, w_rm3, w_wm3, w_rm4, w_wm4, w_rm5, w_wm5, w_rm6, w_wm6, w_rm7, w_wm7, w_rm8, w_wm8, w_rm9, w_wm9, w_rm10, w_wm10, w_rm11, w_wm11, w_rm12, w_wm12, w_rm13, w_wm13, w_rm14, w_wm14, w_rm15, w_wm15, w_rm16, w_wm16, w_v0, w_v1, w_v11, w_v14, w_v2, w_v3, w_v4, w_v6, w_v7, w_v8, w_v9, w_v10, inB_t, cl_nI, w_ui1, w_ui2, w_ul1, w_ul3, w_lsz, w_lget, w_ladd, w_lrem, sl_ladd, sl_lrem, sl_grw, n_eq, n_lt, n_le, n_add, n_ad1, n_lt4, n_neg, n_lt0, n_ge0, w_M, w_M1, w_M2, w_T, w_T1, w_C, w_C1, w_Z, w_and, w_and1, w_or, w_or1, w_not, w_not1, w_tn, w_tn1, w_E, w_E1, w_E2, w_nl, w_nl1, w_nl2, w_C2_0, w_Z1_0, w_C2_1, w_Z1_1, w_C2_2, w_Z1_2, w_C2_3, w_Z1_3, w_C2_4, w_Z1_4, w_C2_5, w_Z1_5, w_seq, w_seq1, w_seq2, w_seq3, w_if, w_if1, w_skip, w_set, w_set1, w_setR, w_setR1, w_setN, w_setN1, w_setN2, w_inc, w_inc1, w_put, w_put1, w_put2, w_put3, w_wf0, w_wf1, w_po, w_po1, w_po2, w_ast, w_ast1, w_ast2, w_ast3, w_aop, w_aop1, w_aop2, w_aop3, w_aop4, w_ret, w_ret0, w_ret1, w_retN, w_retN1, w_retN2, w_retV, w_throw, w_aN, w_aI, w_aI1, w_aI2, w_aR, w_aR1, w_ask, w_ask1, w_V, w_V1, w_V2, w_S, w_S1, w_CI, w_CI1, w_CR, w_CR1, w_CN, w_CN1, w_CN2, w_CV, w_CV1, w_CV2, w_pop, w_pop1, w_popR, w_popR1, w_cast, w_cast1, w_run, w_run1, w_run2, ite_s1, ite_01, ite_10, ite_nz, i_10, i_01, i_20, i_02, i_21, i_12, i_30, i_03, i_40, i_04, il_00, il_10, il_20, il_01, il_02, sl_r, sl_I, sl_L, List.getElem?_cons_zero, List.getElem?_cons_succ, List.set_cons_zero, List.set_cons_succ, List.map_cons, List.map_nil, List.length_cons, List.length_nil, List.cons_append, List.nil_append, List.append_nil, List.replicate_succ, List.replicate_zero, Nat.reduceSub, Nat.reduceAdd, Nat.reduceEqDiff, if_true, if_false, true_and, and_true, reduceCtorEq, ite_true, ite_false, Bool.false_eq_true, Nat.zero_add, Nat.add_zero, Nat.sub_self, Nat.reduceLT, decide_eq_true_eq, Bool.not_eq_true, not_true_eq_false, not_false_eq_true, decide_true, decide_false, decide_not, Bool.decide_eq_true, and_self, or_self, or_true, true_or, or_false, false_or, false_and, and_false, ne_eq, Bool.not_not, Bool.not_eq_eq_eq_not, Nat.reduceEqDiff, Nat.reduceLeDiff, Bool.not_true, Bool.not_false, eq_self, ladd_I, ladd_L1, ladd_Ln, ladd_n, ladd_J, lrem_I, lrem_L1, lrem_Ln, lrem_N, grw_I, grw_L, grw_n, grw_J, sdr_u, tk_u, sdr_a, tk_a, sdr_r, tk_r, rg_get, List.length_range, fil_2, fil_I, sdr_f, tk_f, sl_fil, aO_2, pr_n, aO_I, aO_L, sl_aO, pr_I, pr_L, sl_pr, gN_n, d1_n, dl_n, gN_I, gN_L, sl_gN, d1_I, d1_L, d1_L1, sl_d1, dl_I, dl_L, dl_L1, sl_dl, sdr_dl, tk_dl, sl_dH, fil_2, sl_gT, sl_tI, tO_2, tO_Ln, tO_I, sl_tO, tI_n, stp_n, sl_lO, sl_dp, sl_cV, sl_rst, n_4m, n_48m, le_pred, ge0_pd, n_gt0])
  have c1 : cw υ2 (σ.2.2.1 0) i 0 = υ2 := rfl
  simp only [c1, nI_0] at hl2
  have I4 := I.sn4 hi ha hn
  have hnl : σ.2.2.1 0 ∉ (sd4 σ i).2.1 2 := by rw [sd4_L2]; exact new_notin W (by decide)
  have hN4 : σ.2.2.1 0 < (sd4 σ i).2.2.1 0 := by rw [sd4_n]; omega
  have n25 : (sd4 σ i).1 25 (σ.2.2.1 0) 0 = 0 := by rw [sd4_new hi (by decide) (by decide) (by decide) (by decide) (by decide) (by decide), nm_v25]
  have ha4 : ¬ (sd4 σ i).1 13 i 0 = 0 := by rw [sd4_old (by decide) (by decide) (by decide) (by decide) (Or.inr (by decide))]; exact ha
  obtain ⟨υ3, g3, R5, F3⟩ := e_proposes (m := σ.2.2.1 0) (i := i) R3' I4.1.1.1 I4.2.2.2.2.2.1.1 hB hN4 hi (I4.2.1 i hi ha4) (fun j hj hv => I4.2.2.1 _ hN4 hnl n25 j hj hv)
  have s2 := F2.sl
  have s3 := F3.sl
  have Fa : Fp τ (sw σ (σ.2.2.1 0) (s5 (upI τ 40 0 0 0) (σ.2.2.1 0) i) 4) := by
    refine ⟨sw_2 4, fun k hk => ?_⟩
    funext o j
    rw [sw_I (by omega) (by omega), s5_I (by omega) (Or.inl (by omega)), upI_n (by omega)]
  have Fb : Fp υ2 (cw υ2 (σ.2.2.1 0) i 4) := ⟨cw_2 4, fun k hk => cw_I (by omega) 4⟩
  have h5 : upI (upI (upI (upI (upI (upI τ 40 0 0 0) 41 0 0 (nI (σ.2.2.1 0 + 1))) 50 0 (σ.2.2.1 0) (nI i)) 55 0 (σ.2.2.1 0) (-1)) 56 0 (σ.2.2.1 0) (-1)) 54 0 (σ.2.2.1 0) 0 = s5 (upI τ 40 0 0 0) (σ.2.2.1 0) i := rfl
  have b1 : ¬ ((0 : Int32) = 1) := by decide
  refine ⟨υ3, ?_, R5, Fa.tr (F2.fp.tr (Fb.tr F3.fp)), ?_⟩
  · simp (disch := first | omega | (simp only [w_ui2, w_ul3, ladd_n, lrem_N, grw_n, ladd_Ln, lrem_Ln, grw_L, List.length_range, fil_2, aO_2, pr_n, gN_n, d1_n, dl_n, fil_2, tO_2, tO_Ln, tI_n, stp_n]; omega)) only [w_I, w_L, w_L1, w_LR, w_LR1, w_LN, w_LN1, w_LN2, w_null, w_N, w_N1, w_B, w_B1, w_B2, w_GI, w_GI1, w_GR, w_GR1, w_A, w_A1, w_A2, w_A3, w_rd3, w_wr3, w_rd7, w_wr7, w_rd8, w_wr8, w_rd9, w_wr9, w_rd10, w_wr10, w_rm0, w_wm0, w_rm1, w_wm1, w_rm2, w_wm2, w_rm3, w_wm3, w_rm4, w_wm4, w_rm5, w_wm5, w_rm6, w_wm6, w_rm7, w_wm7, w_rm8, w_wm8, w_rm9, w_wm9, w_rm10, w_wm10, w_rm11, w_wm11, w_rm12, w_wm12, w_rm13, w_wm13, w_rm14, w_wm14, w_rm15, w_wm15, w_rm16, w_wm16, w_v0, w_v1, w_v11, w_v14, w_v2, w_v3, w_v4, w_v6, w_v7, w_v8, w_v9, w_v10, inB_t, cl_nI, w_ui1, w_ui2, w_ul1, w_ul3, w_lsz, w_lget, w_ladd, w_lrem, sl_ladd, sl_lrem, sl_grw, n_eq, n_lt, n_le, n_add, n_ad1, n_lt4, n_neg, n_lt0, n_ge0, w_M, w_M1, w_M2, w_T, w_T1, w_C, w_C1, w_Z, w_and, w_and1, w_or, w_or1, w_not, w_not1, w_tn, w_tn1, w_E, w_E1, w_E2, w_nl, w_nl1, w_nl2, w_C2_0, w_Z1_0, w_C2_1, w_Z1_1, w_C2_2, w_Z1_2, w_C2_3, w_Z1_3, w_C2_4, w_Z1_4, w_C2_5, w_Z1_5, w_seq, w_seq1, w_seq2, w_seq3, w_if, w_if1, w_skip, w_set, w_set1, w_setR, w_setR1, w_setN, w_setN1, w_setN2, w_inc, w_inc1, w_put, w_put1, w_put2, w_put3, w_wf0, w_wf1, w_po, w_po1, w_po2, w_ast, w_ast1, w_ast2, w_ast3, w_aop, w_aop1, w_aop2, w_aop3, w_aop4, w_ret, w_ret0, w_ret1, w_retN, w_retN1, w_retN2, w_retV, w_throw, w_aN, w_aI, w_aI1, w_aI2, w_aR, w_aR1, w_ask, w_ask1, w_V, w_V1, w_V2, w_S, w_S1, w_CI, w_CI1, w_CR, w_CR1, w_CN, w_CN1, w_CN2, w_CV, w_CV1, w_CV2, w_pop, w_pop1, w_popR, w_popR1, w_cast, w_cast1, w_run, w_run1, w_run2, ite_s1, ite_01, ite_10, ite_nz, i_10, i_01, i_20, i_02, i_21, i_12, i_30, i_03, i_40, i_04, il_00, il_10, il_20, il_01, il_02, sl_r, sl_I, sl_L, List.getElem?_cons_zero, List.getElem?_cons_succ, List.set_cons_zero, List.set_cons_succ, List.map_cons, List.map_nil, List.length_cons, List.length_nil, List.cons_append, List.nil_append, List.append_nil, List.replicate_succ, List.replicate_zero, Nat.reduceSub, Nat.reduceAdd, Nat.reduceEqDiff, if_true, if_false, true_and, and_true, reduceCtorEq, ite_true, ite_false, Bool.false_eq_true, Nat.zero_add, Nat.add_zero, Nat.sub_self, Nat.reduceLT, decide_eq_true_eq, Bool.not_eq_true, not_true_eq_false, not_false_eq_true, decide_true, decide_false, decide_not, Bool.decide_eq_true, and_self, or_self, or_true, true_or, or_false, false_or, false_and, and_false, ne_eq, Bool.not_not, Bool.not_eq_eq_eq_not, Nat.reduceEqDiff, Nat.reduceLeDiff, Bool.not_true, Bool.not_false, eq_self, ladd_I, ladd_L1, ladd_Ln, ladd_n, ladd_J, lrem_I, lrem_L1, lrem_Ln, lrem_N, grw_I, grw_L, grw_n, grw_J, sdr_u, tk_u, sdr_a, tk_a, sdr_r, tk_r, rg_get, List.length_range, fil_2, fil_I, sdr_f, tk_f, sl_fil, aO_2, pr_n, aO_I, aO_L, sl_aO, pr_I, pr_L, sl_pr, gN_n, d1_n, dl_n, gN_I, gN_L, sl_gN, d1_I, d1_L, d1_L1, sl_d1, dl_I, dl_L, dl_L1, sl_dl, sdr_dl, tk_dl, sl_dH, fil_2, sl_gT, sl_tI, tO_2, tO_Ln, tO_I, sl_tO, tI_n, stp_n, sl_lO, sl_dp, sl_cV, sl_rst, n_4m, n_48m, le_pred, ge0_pd, n_gt0, f_X3_send, b_X3_send, e, h.fai, ha, e2, h.mes, e3, h5, hl, g2, s2, hl2, g3, s3]
  · rw [F3.2 40 (by decide), cw_I (by decide), F2.2 40 (by decide), sw_I (by decide) (by decide), s5_I (by decide) (Or.inl (by decide)), upI_s]
end ME
