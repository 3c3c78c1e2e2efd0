/-! pure: the law delivers -/
def LD (τ : Sg) (m i : Nat) : Sg :=
  let τ3 := upJ (upJ (upI τ 50 0 m (stW (τ.1 50 0 m) (nI i) 2)) 1 i (τ.2.2.2 1 i ||| jShl 1 (nI m))) 2 m (withJ (τ.2.2.2 2 m) (nI i) (nI (pop (τ.2.2.2 1 i ||| jShl 1 (nI m)))))
  if τ.1 54 0 3 = nI i then upI (upI τ3 51 0 m (τ.1 54 0 5)) 54 0 5 (τ.1 54 0 5 + 1) else τ3
section DLV
variable {σ σ1 τ υ : Sg} {A m i j k a b q : Nat} {x y : Int32}
theorem e_dlv (hm : m < 48) (hi : i < 4) : f_L_delivers [ar (12, 0), ar (14, 1), ar (14, 2), ar (12, 1), ar (12, 4), ai (nI m), ai (nI i)] τ = some (.inl none, LD τ m i) := by
  by_cases h : τ.1 54 0 3 = nI i
  · simp (disch := first | omega | (simp only [w_ui2, w_ul3, w_uj3, ladd_n, lrem_N, grw_n, ladd_Ln, lrem_Ln, grw_L, List.length_range, fil_2, aO_2, pr_n, gN_n, d1_n, dl_n, fil_2, tO_2, tO_Ln, tI_n, stp_n]; omega)) only [w_I, w_L, w_L1, w_LR, w_LR1, w_LN, w_LN1, w_LN2, w_null, w_N, w_N1, w_B, w_B1, w_B2, w_GI, w_GI1, w_GR, w_GR1, w_A, w_A1, w_A2, w_A3, w_rd3, w_wr3, w_rd7, w_wr7, w_rd8, w_wr8, w_rd9, w_wr9, w_rd10, w_wr10, w_rm0, w_wm0, w_rm1, w_wm1, w_rm2, w_wm2, w_rm3, w_wm3, w_rm4, w_wm4, w_v0, w_v1, w_v2, w_v3, w_v4, w_v6, w_v7, w_v8, w_v9, w_v10, inB_t, cl_nI, w_ui1, w_ui2, w_ul1, w_ul3, w_lsz, w_lget, w_ladd, w_lrem, sl_ladd, sl_lrem, sl_grw, n_eq, n_lt, n_le, n_add, n_ad1, n_lt4, n_neg, n_lt0, n_ge0, w_M, w_M1, w_M2, w_T, w_T1, w_C, w_C1, w_Z, w_and, w_and1, w_or, w_or1, w_not, w_not1, w_tn, w_tn1, w_E, w_E1, w_E2, w_nl, w_nl1, w_nl2, w_C2_0, w_Z1_0, w_C2_1, w_Z1_1, w_C2_2, w_Z1_2, w_C2_3, w_Z1_3, w_C2_4, w_Z1_4, w_C2_5, w_Z1_5, w_seq, w_seq1, w_seq2, w_seq3, w_if, w_if1, w_skip, w_set, w_set1, w_setR, w_setR1, w_setN, w_setN1, w_setN2, w_inc, w_inc1, w_put, w_put1, w_put2, w_put3, w_wf0, w_wf1, w_po, w_po1, w_po2, w_ast, w_ast1, w_ast2, w_ast3, w_aop, w_aop1, w_aop2, w_aop3, w_aop4, w_ret, w_ret0, w_ret1, w_retN, w_retN1, w_retN2, w_retV, w_throw, w_aN, w_aI, w_aI1, w_aI2, w_aR, w_aR1, w_ask, w_ask1, w_V, w_V1, w_V2, w_S, w_S1, w_CI, w_CI1, w_CR, w_CR1, w_CN, w_CN1, w_CN2, w_CV, w_CV1, w_CV2, w_pop, w_pop1, w_popR, w_popR1, w_cast, w_cast1, w_run, lc_0, lc_I, lc_R, lc_N, lc_J, w_run1, w_run2, ite_s1, ite_01, ite_10, ite_nz, i_10, i_01, i_20, i_02, i_21, i_12, i_30, i_03, i_40, i_04, il_00, il_10, il_20, il_01, il_02, sl_r, sl_I, sl_L, w_J, w_LJ, w_LJ1, w_BJ, w_BJ1, w_BJ2, w_Sh, w_Sh1, w_Sh2, w_BC, w_BC1, w_BC2, w_IL, w_IL1, w_LI, w_LI1, w_Rm, w_Rm1, w_Rm2, w_AJ, w_AJ1, w_AJ2, w_AJ3, w_rj0, w_wj0, w_rj1, w_wj1, w_rj2, w_wj2, w_rj3, w_wj3, w_rj4, w_wj4, w_uj1, w_uj2, w_uj3, w_uj4, sl_J, w_setJ, w_setJ1, w_aJs, w_aJs1, w_aJs2, w_aJs3, w_jop, w_jop1, w_jop2, w_jop3, w_jop4, w_retJ, w_retJ1, w_aJ, w_aJ1, w_CJ, w_CJ1, List.getElem?_cons_zero, List.getElem?_cons_succ, List.set_cons_zero, List.set_cons_succ, List.map_cons, List.map_nil, List.length_cons, List.length_nil, List.cons_append, List.nil_append, List.append_nil, List.replicate_succ, List.replicate_zero, Nat.reduceSub, Nat.reduceAdd, Nat.reduceEqDiff, if_true, if_false, true_and, and_true, reduceCtorEq, ite_true, ite_false, Bool.false_eq_true, Nat.zero_add, Nat.add_zero, Nat.sub_self, Nat.reduceLT, decide_eq_true_eq, Bool.not_eq_true, not_true_eq_false, not_false_eq_true, decide_true, decide_false, decide_not, Bool.decide_eq_true, and_self, or_self, or_true, true_or, or_false, false_or, false_and, and_false, ne_eq, Bool.not_not, Bool.not_eq_eq_eq_not, Nat.reduceEqDiff, Nat.reduceLeDiff, Bool.not_true, Bool.not_false, eq_self, ladd_I, ladd_L1, ladd_Ln, ladd_n, ladd_J, lrem_I, lrem_L1, lrem_Ln, lrem_N, grw_I, grw_L, grw_n, grw_J, sdr_u, tk_u, sdr_a, tk_a, sdr_r, tk_r, rg_get, List.length_range, fil_2, fil_I, sdr_f, tk_f, sl_fil, aO_2, pr_n, aO_I, aO_L, sl_aO, pr_I, pr_L, sl_pr, gN_n, d1_n, dl_n, gN_I, gN_L, sl_gN, d1_I, d1_L, d1_L1, sl_d1, dl_I, dl_L, dl_L1, sl_dl, sdr_dl, tk_dl, sl_dH, fil_2, sl_gT, sl_tI, tO_2, tO_Ln, tO_I, sl_tO, tI_n, stp_n, sl_lO, sl_dp, sl_cV, sl_rst, ib_0_8, ib_0_12, ib_0_48, cl_0, ib_1_8, ib_1_12, ib_1_48, cl_1, ib_2_8, ib_2_12, ib_2_48, cl_2, ib_3_8, ib_3_12, ib_3_48, cl_3, ib_4_8, ib_4_12, ib_4_48, cl_4, ib_5_8, ib_5_12, ib_5_48, cl_5, ib_6_8, ib_6_12, ib_6_48, cl_6, ib_7_8, ib_7_12, ib_7_48, cl_7, ib_8_12, ib_8_48, cl_8, ib_9_12, ib_9_48, cl_9, ib_10_12, ib_10_48, cl_10, ib_11_12, ib_11_48, cl_11, n_p4, n_p8, e_at, e_with, e_state, e_becomes, e_has, e_many, cmp_e, f_L_delivers, b_L_delivers, LD, h]
  · simp (disch := first | omega | (simp only [w_ui2, w_ul3, w_uj3, ladd_n, lrem_N, grw_n, ladd_Ln, lrem_Ln, grw_L, List.length_range, fil_2, aO_2, pr_n, gN_n, d1_n, dl_n, fil_2, tO_2, tO_Ln, tI_n, stp_n]; omega)) only [w_I, w_L, w_L1, w_LR, w_LR1, w_LN, w_LN1, w_LN2, w_null, w_N, w_N1, w_B, w_B1, w_B2, w_GI, w_GI1, w_GR, w_GR1, w_A, w_A1, w_A2, w_A3, w_rd3, w_wr3, w_rd7, w_wr7, w_rd8, w_wr8, w_rd9, w_wr9, w_rd10, w_wr10, w_rm0, w_wm0, w_rm1, w_wm1, w_rm2, w_wm2, w_rm3, w_wm3, w_rm4, w_wm4, w_v0, w_v1, w_v2, w_v3, w_v4, w_v6, w_v7, w_v8, w_v9, w_v10, inB_t, cl_nI, w_ui1, w_ui2, w_ul1, w_ul3, w_lsz, w_lget, w_ladd, w_lrem, sl_ladd, sl_lrem, sl_grw, n_eq, n_lt, n_le, n_add, n_ad1, n_lt4, n_neg, n_lt0, n_ge0, w_M, w_M1, w_M2, w_T, w_T1, w_C, w_C1, w_Z, w_and, w_and1, w_or, w_or1, w_not, w_not1, w_tn, w_tn1, w_E, w_E1, w_E2, w_nl, w_nl1, w_nl2, w_C2_0, w_Z1_0, w_C2_1, w_Z1_1, w_C2_2, w_Z1_2, w_C2_3, w_Z1_3, w_C2_4, w_Z1_4, w_C2_5, w_Z1_5, w_seq, w_seq1, w_seq2, w_seq3, w_if, w_if1, w_skip, w_set, w_set1, w_setR, w_setR1, w_setN, w_setN1, w_setN2, w_inc, w_inc1, w_put, w_put1, w_put2, w_put3, w_wf0, w_wf1, w_po, w_po1, w_po2, w_ast, w_ast1, w_ast2, w_ast3, w_aop, w_aop1, w_aop2, w_aop3, w_aop4, w_ret, w_ret0, w_ret1, w_retN, w_retN1, w_retN2, w_retV, w_throw, w_aN, w_aI, w_aI1, w_aI2, w_aR, w_aR1, w_ask, w_ask1, w_V, w_V1, w_V2, w_S, w_S1, w_CI, w_CI1, w_CR, w_CR1, w_CN, w_CN1, w_CN2, w_CV, w_CV1, w_CV2, w_pop, w_pop1, w_popR, w_popR1, w_cast, w_cast1, w_run, lc_0, lc_I, lc_R, lc_N, lc_J, w_run1, w_run2, ite_s1, ite_01, ite_10, ite_nz, i_10, i_01, i_20, i_02, i_21, i_12, i_30, i_03, i_40, i_04, il_00, il_10, il_20, il_01, il_02, sl_r, sl_I, sl_L, w_J, w_LJ, w_LJ1, w_BJ, w_BJ1, w_BJ2, w_Sh, w_Sh1, w_Sh2, w_BC, w_BC1, w_BC2, w_IL, w_IL1, w_LI, w_LI1, w_Rm, w_Rm1, w_Rm2, w_AJ, w_AJ1, w_AJ2, w_AJ3, w_rj0, w_wj0, w_rj1, w_wj1, w_rj2, w_wj2, w_rj3, w_wj3, w_rj4, w_wj4, w_uj1, w_uj2, w_uj3, w_uj4, sl_J, w_setJ, w_setJ1, w_aJs, w_aJs1, w_aJs2, w_aJs3, w_jop, w_jop1, w_jop2, w_jop3, w_jop4, w_retJ, w_retJ1, w_aJ, w_aJ1, w_CJ, w_CJ1, List.getElem?_cons_zero, List.getElem?_cons_succ, List.set_cons_zero, List.set_cons_succ, List.map_cons, List.map_nil, List.length_cons, List.length_nil, List.cons_append, List.nil_append, List.append_nil, List.replicate_succ, List.replicate_zero, Nat.reduceSub, Nat.reduceAdd, Nat.reduceEqDiff, if_true, if_false, true_and, and_true, reduceCtorEq, ite_true, ite_false, Bool.false_eq_true, Nat.zero_add, Nat.add_zero, Nat.sub_self, Nat.reduceLT, decide_eq_true_eq, Bool.not_eq_true, not_true_eq_false, not_false_eq_true, decide_true, decide_false, decide_not, Bool.decide_eq_true, and_self, or_self, or_true, true_or, or_false, false_or, false_and, and_false, ne_eq, Bool.not_not, Bool.not_eq_eq_eq_not, Nat.reduceEqDiff, Nat.reduceLeDiff, Bool.not_true, Bool.not_false, eq_self, ladd_I, ladd_L1, ladd_Ln, ladd_n, ladd_J, lrem_I, lrem_L1, lrem_Ln, lrem_N, grw_I, grw_L, grw_n, grw_J, sdr_u, tk_u, sdr_a, tk_a, sdr_r, tk_r, rg_get, List.length_range, fil_2, fil_I, sdr_f, tk_f, sl_fil, aO_2, pr_n, aO_I, aO_L, sl_aO, pr_I, pr_L, sl_pr, gN_n, d1_n, dl_n, gN_I, gN_L, sl_gN, d1_I, d1_L, d1_L1, sl_d1, dl_I, dl_L, dl_L1, sl_dl, sdr_dl, tk_dl, sl_dH, fil_2, sl_gT, sl_tI, tO_2, tO_Ln, tO_I, sl_tO, tI_n, stp_n, sl_lO, sl_dp, sl_cV, sl_rst, ib_0_8, ib_0_12, ib_0_48, cl_0, ib_1_8, ib_1_12, ib_1_48, cl_1, ib_2_8, ib_2_12, ib_2_48, cl_2, ib_3_8, ib_3_12, ib_3_48, cl_3, ib_4_8, ib_4_12, ib_4_48, cl_4, ib_5_8, ib_5_12, ib_5_48, cl_5, ib_6_8, ib_6_12, ib_6_48, cl_6, ib_7_8, ib_7_12, ib_7_48, cl_7, ib_8_12, ib_8_48, cl_8, ib_9_12, ib_9_48, cl_9, ib_10_12, ib_10_48, cl_10, ib_11_12, ib_11_48, cl_11, n_p4, n_p8, e_at, e_with, e_state, e_becomes, e_has, e_many, cmp_e, f_L_delivers, b_L_delivers, LD, h]
theorem LD_fl : Fl τ (LD τ m i) := by
  unfold LD
  dsimp only
  split
  · exact ((((Fl.u (by decide)).tr Fl.J).tr Fl.J).tr (Fl.u (by decide))).tr (Fl.u (by decide))
  · exact ((Fl.u (by decide)).tr Fl.J).tr Fl.J
theorem LD_50 : (LD τ m i).1 50 0 a = if a = m then stW (τ.1 50 0 m) (nI i) 2 else τ.1 50 0 a := by
  unfold LD
  dsimp only
  split <;> simp [upI, upJ]
theorem LD_51 : (LD τ m i).1 51 0 a = if a = m ∧ τ.1 54 0 3 = nI i then τ.1 54 0 5 else τ.1 51 0 a := by
  unfold LD
  dsimp only
  split
  · rename_i h
    simp [upI, upJ, h]
  · rename_i h
    simp [upI, upJ, h]
theorem LD_54 : (LD τ m i).1 54 0 j = if j = 5 ∧ τ.1 54 0 3 = nI i then τ.1 54 0 5 + 1 else τ.1 54 0 j := by
  unfold LD
  dsimp only
  split
  · rename_i h
    simp [upI, upJ, h]
  · rename_i h
    simp [upI, upJ, h]
theorem LD_k (h : k ≠ 50) (h1 : k ≠ 51) (h2 : k ≠ 54) : (LD τ m i).1 k = τ.1 k := by
  funext o j
  unfold LD
  dsimp only
  split <;> simp [upI, upJ, h, h1, h2]
theorem LD_J : (LD τ m i).2.2.2 k j = if k = 1 ∧ j = i then τ.2.2.2 1 i ||| jShl 1 (nI m) else if k = 2 ∧ j = m then withJ (τ.2.2.2 2 m) (nI i) (nI (pop (τ.2.2.2 1 i ||| jShl 1 (nI m)))) else τ.2.2.2 k j := by
  unfold LD
  dsimp only
  have e : ∀ s : Sg, (upI s 51 0 m (τ.1 54 0 5)).2 = s.2 := fun _ => rfl
  split
  all_goals
    show (upJ (upJ _ 1 i _) 2 m _).2.2.2 k j = _
    rw [w_uj4, w_uj4]
    by_cases c1 : k = 2 ∧ j = m
    · rw [if_pos c1, if_neg (fun q => by omega), if_pos c1]
    · rw [if_neg c1, if_neg c1]
      rfl
theorem dl_29 : (S_dl σ m i).1 29 a j = if a = m ∧ j = i then nI (σ.2.1 (3 + i)).length else σ.1 29 a j := by
  unfold S_dl
  split
  · rw [upI_n (by decide), gN_I (by decide) (by decide), d1_C29]
  · exact d1_C29
theorem dl_num (h : i = tk σ → σ.1 23 m 0 = -1) : (S_dl σ m i).1 23 a 0 = if a = m ∧ i = tk σ then nI (σ.2.1 1).length else σ.1 23 a 0 := by
  by_cases c : a = m
  · subst c
    unfold S_dl
    by_cases e : i = tk σ
    · rw [if_pos e, if_pos ⟨rfl, e⟩, upI_n (by decide)]
      unfold S_gN
      rw [d1_I (by decide) (by decide) (by decide) (by decide), if_pos (h e), ladd_I (by decide), upI_s, d1_L (by omega)]
    · rw [if_neg e, if_neg (fun q => e q.2), d1_I (by decide) (by decide) (by decide) (by decide)]
  · rw [dl_23 c, if_neg (fun q => c q.1)]
theorem dl_L1n (h : i = tk σ → σ.1 23 m 0 = -1) : (S_dl σ m i).2.1 1 = if i = tk σ then σ.2.1 1 ++ [m] else σ.2.1 1 := by
  unfold S_dl
  by_cases e : i = tk σ
  · rw [if_pos e, if_pos e]
    show (S_gN (S_d1 σ m i) m).2.1 1 = _
    unfold S_gN
    rw [d1_I (by decide) (by decide) (by decide) (by decide), if_pos (h e), ladd_L1]
    show (S_d1 σ m i).2.1 1 ++ [m] = _
    rw [d1_L (by omega)]
  · rw [if_neg e, if_neg e, d1_L (by omega)]
theorem dl_sdr : sdr (S_dl σ m i) a = sdr σ a := by unfold sdr; rw [dl_k (by decide) (by decide) (by decide) (by decide) (by decide) (by decide)]
theorem dl_hst : hst (S_dl σ m i) a = hst σ a := by unfold hst; rw [dl_k (by decide) (by decide) (by decide) (by decide) (by decide) (by decide)]
theorem dl_tk : tk (S_dl σ m i) = tk σ := by unfold tk; rw [dl_k (by decide) (by decide) (by decide) (by decide) (by decide) (by decide)]
theorem dl_pv : pv (S_dl σ m i) a j = pv σ a j := by unfold pv; rw [dl_k (by decide) (by decide) (by decide) (by decide) (by decide) (by decide)]
theorem pop_d (h : RY σ τ A) (W : WF σ) (hm : m < σ.2.2.1 0) (hi : i < 4) (hr : m ∉ σ.2.1 (3 + i)) : pop (τ.2.2.2 1 i ||| jShl 1 (nI m)) = (σ.2.1 (3 + i)).length + 1 := by
  have hn := W.n
  have e := pop_list (r := τ.2.2.2 1 i ||| jShl 1 (nI m)) (l := σ.2.1 (3 + i) ++ [m]) (by
    rw [List.nodup_append]
    refine ⟨W.nd (by omega), by simp, fun a ha b hb e => ?_⟩
    simp at hb
    subst hb
    subst e
    exact hr ha) (fun k hk => by
    rw [bJ_or, bJ_one (by omega) hk, Bool.or_eq_true, h.db hi hk]
    simp) (fun k hk => by
    rcases List.mem_append.mp hk with q | q
    · have := W.el (k := 3 + i) (by omega) q
      omega
    · simp at q
      omega)
  rw [e, List.length_append]
  rfl
/-- delivering keeps the rows beside the class -/
theorem RY.dlv (h : RY σ τ A) (W : WF σ) (hh : ∀ a, a < σ.2.2.1 0 → hst σ a ≤ (σ.2.1 (3 + sdr σ a)).length) (hm : m < σ.2.2.1 0) (hi : i < 4) (hr : m ∉ σ.2.1 (3 + i)) (h23 : i = tk σ → σ.1 23 m 0 = -1) (c27 : ∀ a j, ¬ (a = m ∧ j = i) → σ1.1 27 a j = σ.1 27 a j) (c1 : ∀ k, k ≠ 27 → k < 30 → σ1.1 k = σ.1 k) (c2 : ∀ k, k ≠ 7 + i → σ1.2.1 k = σ.2.1 k) (c3 : σ1.2.2.1 0 = σ.2.2.1 0) (c4 : ∀ a, a ≠ m → (a ∈ σ1.2.1 (7 + i) ↔ a ∈ σ.2.1 (7 + i))) (c5 : m ∉ σ1.2.1 (7 + i)) (c6 : (σ1.2.1 (7 + i)).Sublist (σ.2.1 (7 + i))) : RY (S_dl σ1 m i) (LD τ m i) A := by
  have hn := W.n
  have es : ∀ a, sdr σ1 a = sdr σ a := fun a => sdr_of (c1 21 (by decide) (by decide))
  have et : tk σ1 = tk σ := by unfold tk; rw [c1 0 (by decide) (by decide)]
  have eh : ∀ a, hst σ1 a = hst σ a := fun a => by unfold hst; rw [c1 22 (by decide) (by decide)]
  have epv : ∀ a j, pv σ1 a j = pv σ a j := fun a j => by unfold pv; rw [c1 28 (by decide) (by decide)]
  have h23' : i = tk σ1 → σ1.1 23 m 0 = -1 := fun q => by rw [c1 23 (by decide) (by decide)]; exact h23 (by rw [← et]; exact q)
  have eR : ∀ b, b < 4 → (S_dl σ1 m i).2.1 (3 + b) = if b = i then σ.2.1 (3 + i) ++ [m] else σ.2.1 (3 + b) := fun b hb => by
    by_cases c : b = i
    · subst c
      rw [if_pos rfl, dl_L1, c2 _ (by omega)]
    · rw [if_neg c, dl_L (by omega) (by omega), c2 _ (by omega)]
  have eH : ∀ b, b < 4 → (S_dl σ1 m i).2.1 (7 + b) = σ1.2.1 (7 + b) := fun b hb => dl_L (by omega) (by omega)
  have el1 : σ1.2.1 1 = σ.2.1 1 := c2 1 (by omega)
  have eN : (S_dl σ1 m i).2.2.1 0 = σ.2.2.1 0 := by rw [dl_n, c3]
  have eg3 : (τ.1 54 0 3 = nI i) = (i = tk σ) := by
    have := W.tk4
    rw [h.g3, W.tok, n_eq (by omega) (by omega)]
    exact propext eq_comm
  have hp := pop_d h W hm hi hr
  have hl := W.len (k := 3 + i) (by omega)
  have ehs : ∀ a, a < σ.2.2.1 0 → hsl (S_dl σ1 m i) a = hsl σ a := fun a ha => by
    have hs4 := W.sn4 ha
    unfold hsl
    rw [dl_sdr, dl_hst, es, eh, eR _ hs4]
    split
    · rename_i c
      rw [← c]
      have := hh a ha
      exact List.take_append_of_le_length this
    · rfl
  have ewN : ∀ a j, wN (LD τ m i) a j = wN τ a j := fun a j => wN_of (by rw [LD_J, if_neg (by omega), if_neg (by omega)])
  refine ⟨fun a j ha hj => ?_, fun a ha => ?_, fun a ha => ?_, fun j hj => ?_, fun j hj z z2 => ?_, fun j hj z => ?_, ?_, fun a ha k hk => ?_, fun j hj k hk => ?_, fun j hj k hk => ?_, fun a j ha hj => ?_, fun a j ha hj => ?_, fun a j ha hj => ?_, fun a j ha hj => ?_, fun j hj => ?_⟩
  · rw [eN] at ha
    rw [LD_50, dl_c]
    by_cases c : a = m
    · subst c
      rw [if_pos rfl, show (2 : Int32) = nI 2 from rfl, st_w hi hj (by decide), h.cp ha hj]
      by_cases d : j = i
      · rw [if_pos d, if_pos ⟨rfl, d⟩]
      · rw [if_neg d, if_neg (fun q => d q.2), c27 _ _ (fun q => d q.2)]
    · rw [if_neg c, if_neg (fun q => c q.1), c27 _ _ (fun q => c q.1)]
      exact h.cp ha hj
  · rw [eN] at ha
    rw [LD_51, dl_num h23', el1, et, c1 23 (by decide) (by decide), h.g5, h.nu ha]
    simp only [eg3]
  · rw [eN] at ha
    rw [LD_k (by decide) (by decide) (by decide), dl_k (by decide) (by decide) (by decide) (by decide) (by decide) (by decide), c1 24 (by decide) (by decide)]
    exact h.ag ha
  · rw [LD_k (by decide) (by decide) (by decide), dl_k (by decide) (by decide) (by decide) (by decide) (by decide) (by decide), c1 12 (by decide) (by decide)]
    exact h.gp hj
  · rw [dl_tk, et] at z2
    rw [dl_k (by decide) (by decide) (by decide) (by decide) (by decide) (by decide), c1 13 (by decide) (by decide)] at z
    rw [LD_k (by decide) (by decide) (by decide), dl_11, et, c1 11 (by decide) (by decide), if_neg (fun q => z2 (q.2.trans q.1))]
    exact h.kn hj z z2
  · rw [dl_k (by decide) (by decide) (by decide) (by decide) (by decide) (by decide), c1 13 (by decide) (by decide)] at z
    rw [LD_k (by decide) (by decide) (by decide), dl_k (by decide) (by decide) (by decide) (by decide) (by decide) (by decide), c1 15 (by decide) (by decide)]
    exact h.lo hj z
  · rw [LD_54, LD_54, LD_54, LD_54, LD_54, LD_54, LD_54, LD_54]
    simp only [show ¬ ((0 : Nat) = 5) by decide, show ¬ ((1 : Nat) = 5) by decide, show ¬ ((2 : Nat) = 5) by decide, show ¬ ((3 : Nat) = 5) by decide, show ¬ ((4 : Nat) = 5) by decide, show ¬ ((6 : Nat) = 5) by decide, show ¬ ((7 : Nat) = 5) by decide, false_and, if_false, true_and]
    rw [dl_k (by decide) (by decide) (by decide) (by decide) (by decide) (by decide), dl_k (by decide) (by decide) (by decide) (by decide) (by decide) (by decide), dl_k (by decide) (by decide) (by decide) (by decide) (by decide) (by decide), dl_k (by decide) (by decide) (by decide) (by decide) (by decide) (by decide), dl_k (by decide) (by decide) (by decide) (by decide) (by decide) (by decide), c1 13 (by decide) (by decide), c1 14 (by decide) (by decide), c1 0 (by decide) (by decide), c1 2 (by decide) (by decide), c1 1 (by decide) (by decide), eN, dl_L1n h23', el1, et]
    refine ⟨h.g0, h.g1, h.g2, h.g3, h.g4, ?_, h.g6, h.g7⟩
    rw [h.g5]
    simp only [eg3]
    by_cases c : i = tk σ
    · rw [if_pos c, if_pos c, List.length_append, nI_1]
      rfl
    · rw [if_neg c, if_neg c]
  · rw [eN] at ha
    rw [LD_J, if_neg (by omega), if_neg (by omega), ehs a ha]
    exact h.hb ha hk
  · rw [LD_J, eR j hj]
    by_cases c : j = i
    · subst c
      rw [if_pos ⟨rfl, rfl⟩, if_pos rfl, bJ_or, bJ_one (by omega) hk, Bool.or_eq_true, h.db hi hk]
      simp
    · rw [if_neg (fun q => c q.2), if_neg (by omega), if_neg c]
      exact h.db hj hk
  · rw [LD_J, if_neg (by omega), if_neg (by omega), eN, dl_sdr, es]
    exact h.sb hj hk
  · rw [eN] at ha
    rw [LD_J, if_neg (by omega), dl_29, c1 29 (by decide) (by decide), c2 (3 + i) (by omega)]
    by_cases c : a = m
    · subst c
      rw [if_pos ⟨rfl, rfl⟩, hp, at_with hi hj (by omega), h.za ha hj]
      by_cases d : j = i
      · rw [if_pos d, if_pos ⟨rfl, d⟩, nI_1]
      · rw [if_neg d, if_neg (fun q => d q.2)]
    · rw [if_neg (fun q => c q.2), if_neg (fun q => c q.1)]
      exact h.za ha hj
  · rw [eN] at ha
    rw [LD_J, if_neg (by omega), if_neg (by omega), dl_pv, epv]
    exact h.pa ha hj
  · rw [eN, ewN, LD_J, if_neg (by omega), if_neg (by omega)]
    exact ⟨h.wa ha hj, h.wA ha hj, h.w0 ha hj⟩
  · rw [eN] at ha
    rw [eH j hj, eR j hj, ewN]
    by_cases c : j = i
    · subst c
      rw [if_pos rfl]
      by_cases d : a = m
      · subst d
        exact ⟨fun q => absurd q c5, fun q => absurd (List.mem_append_right _ List.mem_cons_self) q.2⟩
      · rw [c4 a d, h.wm ha hj]
        simp [d]
    · rw [if_neg c, c2 _ (by omega)]
      exact h.wm ha hj
  · simp only [ewN]
    rw [eH j hj]
    by_cases c : j = i
    · subst c
      exact (h.ws hj).sublist c6
    · rw [c2 _ (by omega)]
      exact h.ws hj
end DLV
