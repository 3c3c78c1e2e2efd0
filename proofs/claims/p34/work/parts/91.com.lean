/-! pure: the law lets a copy come in -/
section COM
variable {f : Prop} {σ σ1 τ υ : Sg} {A m i j k a b q n : Nat} {x y mm t : Int32}
theorem can_hist (C : CA σ) (W : WF σ) (ha : a < σ.2.2.1 0) (hi : i < 4) (hr : a ∉ σ.2.1 (3 + i)) : canB σ a i = true ↔ ∀ k ∈ hsl σ a, k ∈ σ.2.1 (3 + i) := by
  obtain ⟨h1, h2, h3, h4, h5⟩ := C.2.2.1 a ha
  have hs4 := W.sn4 ha
  have est : ∀ k, stN σ a k = cnt σ (hsl σ a) k + if sdr σ a = k then 1 else 0 := fun k => by
    unfold stN hsl
    rw [cnt_s h2, h3]
  have key : (∀ k ∈ hsl σ a, k ∈ σ.2.1 (3 + i)) ↔ ∀ j, j < 4 → cnt σ (hsl σ a) j ≤ cnt σ (σ.2.1 (3 + i)) j := by
    constructor
    · intro H j hj
      by_cases c : cnt σ (hsl σ a) j = 0
      · omega
      · obtain ⟨r, r1, r2, r3⟩ := cnt_ivt (σ := σ) (l := σ.2.1 (3 + sdr σ a)) (k := j) (hst σ a) (by omega) (cnt σ (hsl σ a) j - 1) (by unfold hsl at c ⊢; omega)
        have hr2 : r < (σ.2.1 (3 + sdr σ a)).length := by omega
        have hb : (σ.2.1 (3 + sdr σ a)).getD r 0 ∈ hsl σ a := by
          unfold hsl
          rw [List.mem_take_iff_getElem]
          refine ⟨r, by omega, ?_⟩
          rw [List.getD_eq_getElem?_getD, List.getElem?_eq_getElem hr2]
          rfl
        have hin := H _ hb
        have hbn := W.get (k := 3 + sdr σ a) (by omega) hr2
        have e := C.2.1 (sdr σ a) r hs4 hr2
        have e2 := (C.mem W hi hbn).mp hin
        rw [r2] at e e2
        omega
    · intro H k hk
      have hkL : k ∈ σ.2.1 (3 + sdr σ a) := List.mem_of_mem_take hk
      have hkn := W.el (k := 3 + sdr σ a) (by omega) hkL
      have e := (C.pos W hs4 hkn (p := hst σ a) (by omega)).mp hk
      have e2 := H (sdr σ k) (W.sn4 hkn)
      refine (C.mem W hi hkn).mpr ?_
      unfold hsl at e2
      omega
  have hsq := C.sq_st W ha
  have hnr : ¬ sq σ a ≤ cnt σ (σ.2.1 (3 + i)) (sdr σ a) := fun q => hr ((C.mem W hi ha).mpr q)
  rw [C.can W ha hi, key]
  have e0 := est (sdr σ a)
  rw [if_pos rfl] at e0
  constructor
  · rintro ⟨q1, q2⟩ j hj
    by_cases c : j = sdr σ a
    · subst c; omega
    · have := q2 j hj c
      rw [est, if_neg (fun z => c z.symm)] at this
      exact this
  · intro H
    refine ⟨?_, fun j hj c => ?_⟩
    · have := H _ hs4
      omega
    · rw [est, if_neg (fun z => c z.symm)]
      exact H j hj
theorem sub_0 {r w : Int64} : r &&& (w ^^^ (-1)) = 0 ↔ ∀ k, k < 64 → bJ r k = true → bJ w k = true := by
  constructor
  · intro h k hk hr
    have := congrArg (fun z => bJ z k) h
    simp only [bJ_and, bJ_xor, bJ_0, bJ_m1 k hk, hr] at this
    simpa using this
  · intro h
    apply bJ_ext
    intro k hk
    rw [bJ_and, bJ_xor, bJ_m1 k hk, bJ_0]
    cases hr : bJ r k with
    | false => rfl
    | true => rw [h k hk hr]; rfl
theorem il_m1 : ((-1 : Int32) < 0) = True := by decide
def cnL (τ : Sg) (i a : Nat) : Prop := stI (τ.1 50 0 a) (nI i) = 1 ∧ τ.2.2.2 0 a &&& (τ.2.2.2 1 i ^^^ (-1)) = 0
def fnP (τ : Sg) (i j : Nat) (nx : Int32) : Prop := (nx = -1 ∧ ∀ a, a < j → ¬ cnL τ i a) ∨ ∃ q, q < j ∧ nx = nI q ∧ cnL τ i q ∧ ∀ a, a < j → cnL τ i a → wN τ q i ≤ wN τ a i
theorem find_l (hN : n ≤ 48) (g0 : τ.1 54 0 0 = nI n) (hw : ∀ a, a < 48 → atJ (τ.2.2.2 3 a) (nI i) = nI (wN τ a i)) (hA : ∀ a, a < 48 → wN τ a i < 4096) (hi : i < 4) : ∃ nx, sWh (cCmp (bop 0) (xL 11) (xAld false (xLR 6) (xI 0))) (sSeq (sIf (cAnd (cAnd (cCmp (bop 4) (xCI (xS f_L_state (aR (xLR 0) (aI (xL 11) (aI (xL 8) aNil))))) (xI 1)) (cZ (fun x => bop 4 x 0) (xBC (xBJ (· &&& ·) (xAldJ (xLR 1) (xL 11)) (xBJ (· ^^^ ·) (xAldJ (xLR 2) (xL 8)) (xJ (-1)))) (xJ 0)))) (cOr (cZ (fun x => bop 0 x 0) (xL 10)) (cCmp (bop 0) (xCI (xS f_L_at (aJ (xAldJ (xLR 4) (xL 11)) (aI (xL 8) aNil)))) (xCI (xS f_L_at (aJ (xAldJ (xLR 4) (xL 10)) (aI (xL 8) aNil))))))) (sSet 10 (xL 11)) sSkip) (sInc 11 1)) 1000 [some (ar (12, 0)), some (ar (14, 0)), some (ar (14, 1)), some (ar (14, 2)), some (ar (14, 3)), some (ar (12, 1)), some (ar (12, 4)), some (ai mm), some (ai (nI i)), some (ai t), some (ai (-1)), some (ai 0)] τ = some (.inl ([some (ar (12, 0)), some (ar (14, 0)), some (ar (14, 1)), some (ar (14, 2)), some (ar (14, 3)), some (ar (12, 1)), some (ar (12, 4)), some (ai mm), some (ai (nI i)), some (ai t), some (ai nx), some (ai (nI n))], τ)) ∧ fnP τ i n nx := by
  obtain ⟨lc, υ, h1, h2, nx, h3, h4⟩ := wh_ind (N := 1000) (c := (cCmp (bop 0) (xL 11) (xAld false (xLR 6) (xI 0)))) (b := (sSeq (sIf (cAnd (cAnd (cCmp (bop 4) (xCI (xS f_L_state (aR (xLR 0) (aI (xL 11) (aI (xL 8) aNil))))) (xI 1)) (cZ (fun x => bop 4 x 0) (xBC (xBJ (· &&& ·) (xAldJ (xLR 1) (xL 11)) (xBJ (· ^^^ ·) (xAldJ (xLR 2) (xL 8)) (xJ (-1)))) (xJ 0)))) (cOr (cZ (fun x => bop 0 x 0) (xL 10)) (cCmp (bop 0) (xCI (xS f_L_at (aJ (xAldJ (xLR 4) (xL 11)) (aI (xL 8) aNil)))) (xCI (xS f_L_at (aJ (xAldJ (xLR 4) (xL 10)) (aI (xL 8) aNil))))))) (sSet 10 (xL 11)) sSkip) (sInc 11 1))) (fun j lc υ => υ = τ ∧ ∃ nx, lc = [some (ar (12, 0)), some (ar (14, 0)), some (ar (14, 1)), some (ar (14, 2)), some (ar (14, 3)), some (ar (12, 1)), some (ar (12, 4)), some (ai mm), some (ai (nI i)), some (ai t), some (ai nx), some (ai (nI j))] ∧ fnP τ i j nx) (lc := [some (ar (12, 0)), some (ar (14, 0)), some (ar (14, 1)), some (ar (14, 2)), some (ar (14, 3)), some (ar (12, 1)), some (ar (12, 4)), some (ai mm), some (ai (nI i)), some (ai t), some (ai (-1)), some (ai 0)]) (σ := τ) n (by omega) ⟨rfl, -1, by rw [nI_0], Or.inl ⟨rfl, fun a ha => absurd ha (Nat.not_lt_zero _)⟩⟩ (fun j lc υ hj ⟨e1, nx, e2, P⟩ => by
    subst e1
    subst e2
    refine ⟨by simp (disch := first | omega | (simp only [w_ui2, w_ul3, w_uj3, ladd_n, lrem_N, grw_n, ladd_Ln, lrem_Ln, grw_L, List.length_range, fil_2, aO_2, pr_n, gN_n, d1_n, dl_n, fil_2, tO_2, tO_Ln, tI_n, stp_n]; omega)) only [w_I, w_L, w_L1, w_LR, w_LR1, w_LN, w_LN1, w_LN2, w_null, w_N, w_N1, w_B, w_B1, w_B2, w_GI, w_GI1, w_GR, w_GR1, w_A, w_A1, w_A2, w_A3, w_rd3, w_wr3, w_rd7, w_wr7, w_rd8, w_wr8, w_rd9, w_wr9, w_rd10, w_wr10, w_rm0, w_wm0, w_rm1, w_wm1, w_rm2, w_wm2, w_rm3, w_wm3, w_rm4, w_wm4, w_v0, w_v1, w_v2, w_v3, w_v4, w_v6, w_v7, w_v8, w_v9, w_v10, inB_t, cl_nI, w_ui1, w_ui2, w_ul1, w_ul3, w_lsz, w_lget, w_ladd, w_lrem, sl_ladd, sl_lrem, sl_grw, n_eq, n_lt, n_le, n_add, n_ad1, n_lt4, n_neg, n_lt0, n_ge0, w_M, w_M1, w_M2, w_T, w_T1, w_C, w_C1, w_Z, w_and, w_and1, w_or, w_or1, w_not, w_not1, w_tn, w_tn1, w_E, w_E1, w_E2, w_nl, w_nl1, w_nl2, w_C2_0, w_Z1_0, w_C2_1, w_Z1_1, w_C2_2, w_Z1_2, w_C2_3, w_Z1_3, w_C2_4, w_Z1_4, w_C2_5, w_Z1_5, w_seq, w_seq1, w_seq2, w_seq3, w_if, w_if1, w_skip, w_set, w_set1, w_setR, w_setR1, w_setN, w_setN1, w_setN2, w_inc, w_inc1, w_put, w_put1, w_put2, w_put3, w_wf0, w_wf1, w_po, w_po1, w_po2, w_ast, w_ast1, w_ast2, w_ast3, w_aop, w_aop1, w_aop2, w_aop3, w_aop4, w_ret, w_ret0, w_ret1, w_retN, w_retN1, w_retN2, w_retV, w_throw, w_aN, w_aI, w_aI1, w_aI2, w_aR, w_aR1, w_ask, w_ask1, w_V, w_V1, w_V2, w_S, w_S1, w_CI, w_CI1, w_CR, w_CR1, w_CN, w_CN1, w_CN2, w_CV, w_CV1, w_CV2, w_pop, w_pop1, w_popR, w_popR1, w_cast, w_cast1, w_run, lc_0, lc_I, lc_R, lc_N, lc_J, w_run1, w_run2, ite_s1, ite_01, ite_10, ite_nz, i_10, i_01, i_20, i_02, i_21, i_12, i_30, i_03, i_40, i_04, il_00, il_10, il_20, il_01, il_02, sl_r, sl_I, sl_L, w_J, w_LJ, w_LJ1, w_BJ, w_BJ1, w_BJ2, w_Sh, w_Sh1, w_Sh2, w_BC, w_BC1, w_BC2, w_IL, w_IL1, w_LI, w_LI1, w_Rm, w_Rm1, w_Rm2, w_AJ, w_AJ1, w_AJ2, w_AJ3, w_rj0, w_wj0, w_rj1, w_wj1, w_rj2, w_wj2, w_rj3, w_wj3, w_rj4, w_wj4, w_uj1, w_uj2, w_uj3, w_uj4, sl_J, w_setJ, w_setJ1, w_aJs, w_aJs1, w_aJs2, w_aJs3, w_jop, w_jop1, w_jop2, w_jop3, w_jop4, w_retJ, w_retJ1, w_aJ, w_aJ1, w_CJ, w_CJ1, List.getElem?_cons_zero, List.getElem?_cons_succ, List.set_cons_zero, List.set_cons_succ, List.map_cons, List.map_nil, List.length_cons, List.length_nil, List.cons_append, List.nil_append, List.append_nil, List.replicate_succ, List.replicate_zero, Nat.reduceSub, Nat.reduceAdd, Nat.reduceEqDiff, if_true, if_false, true_and, and_true, reduceCtorEq, ite_true, ite_false, Bool.false_eq_true, Nat.zero_add, Nat.add_zero, Nat.sub_self, Nat.reduceLT, decide_eq_true_eq, Bool.not_eq_true, not_true_eq_false, not_false_eq_true, decide_true, decide_false, decide_not, Bool.decide_eq_true, and_self, or_self, or_true, true_or, or_false, false_or, false_and, and_false, ne_eq, Bool.not_not, Bool.not_eq_eq_eq_not, Nat.reduceEqDiff, Nat.reduceLeDiff, Bool.not_true, Bool.not_false, eq_self, ladd_I, ladd_L1, ladd_Ln, ladd_n, ladd_J, lrem_I, lrem_L1, lrem_Ln, lrem_N, grw_I, grw_L, grw_n, grw_J, sdr_u, tk_u, sdr_a, tk_a, sdr_r, tk_r, rg_get, List.length_range, fil_2, fil_I, sdr_f, tk_f, sl_fil, aO_2, pr_n, aO_I, aO_L, sl_aO, pr_I, pr_L, sl_pr, gN_n, d1_n, dl_n, gN_I, gN_L, sl_gN, d1_I, d1_L, d1_L1, sl_d1, dl_I, dl_L, dl_L1, sl_dl, sdr_dl, tk_dl, sl_dH, fil_2, sl_gT, sl_tI, tO_2, tO_Ln, tO_I, sl_tO, tI_n, stp_n, sl_lO, sl_dp, sl_cV, sl_rst, ib_0_8, ib_0_12, ib_0_48, cl_0, ib_1_8, ib_1_12, ib_1_48, cl_1, ib_2_8, ib_2_12, ib_2_48, cl_2, ib_3_8, ib_3_12, ib_3_48, cl_3, ib_4_8, ib_4_12, ib_4_48, cl_4, ib_5_8, ib_5_12, ib_5_48, cl_5, ib_6_8, ib_6_12, ib_6_48, cl_6, ib_7_8, ib_7_12, ib_7_48, cl_7, ib_8_12, ib_8_48, cl_8, ib_9_12, ib_9_48, cl_9, ib_10_12, ib_10_48, cl_10, ib_11_12, ib_11_48, cl_11, n_p4, n_p8, e_at, e_with, e_state, e_becomes, e_has, e_many, cmp_e, il_m1, g0, hj], ?_⟩
    have up : ¬ cnL υ i j → fnP υ i (j + 1) nx := fun hc => by
      rcases P with ⟨p1, p2⟩ | ⟨q, p1, p2, p3, p4⟩
      · refine Or.inl ⟨p1, fun a ha => ?_⟩
        by_cases e : a = j
        · rw [e]; exact hc
        · exact p2 a (by omega)
      · refine Or.inr ⟨q, by omega, p2, p3, fun a ha hca => ?_⟩
        by_cases e : a = j
        · rw [e] at hca; exact absurd hca hc
        · exact p4 a (by omega) hca
    by_cases hs : stI (υ.1 50 0 j) (nI i) = 1
    · by_cases hd : υ.2.2.2 0 j &&& (υ.2.2.2 1 i ^^^ (-1)) = 0
      · have wj := hw j (by omega)
        have aj9 := hA j (by omega)
        rcases P with ⟨p1, p2⟩ | ⟨q, p1, p2, p3, p4⟩
        · subst p1
          refine ⟨_, _, by simp (disch := first | omega | (simp only [w_ui2, w_ul3, w_uj3, ladd_n, lrem_N, grw_n, ladd_Ln, lrem_Ln, grw_L, List.length_range, fil_2, aO_2, pr_n, gN_n, d1_n, dl_n, fil_2, tO_2, tO_Ln, tI_n, stp_n]; omega)) only [w_I, w_L, w_L1, w_LR, w_LR1, w_LN, w_LN1, w_LN2, w_null, w_N, w_N1, w_B, w_B1, w_B2, w_GI, w_GI1, w_GR, w_GR1, w_A, w_A1, w_A2, w_A3, w_rd3, w_wr3, w_rd7, w_wr7, w_rd8, w_wr8, w_rd9, w_wr9, w_rd10, w_wr10, w_rm0, w_wm0, w_rm1, w_wm1, w_rm2, w_wm2, w_rm3, w_wm3, w_rm4, w_wm4, w_v0, w_v1, w_v2, w_v3, w_v4, w_v6, w_v7, w_v8, w_v9, w_v10, inB_t, cl_nI, w_ui1, w_ui2, w_ul1, w_ul3, w_lsz, w_lget, w_ladd, w_lrem, sl_ladd, sl_lrem, sl_grw, n_eq, n_lt, n_le, n_add, n_ad1, n_lt4, n_neg, n_lt0, n_ge0, w_M, w_M1, w_M2, w_T, w_T1, w_C, w_C1, w_Z, w_and, w_and1, w_or, w_or1, w_not, w_not1, w_tn, w_tn1, w_E, w_E1, w_E2, w_nl, w_nl1, w_nl2, w_C2_0, w_Z1_0, w_C2_1, w_Z1_1, w_C2_2, w_Z1_2, w_C2_3, w_Z1_3, w_C2_4, w_Z1_4, w_C2_5, w_Z1_5, w_seq, w_seq1, w_seq2, w_seq3, w_if, w_if1, w_skip, w_set, w_set1, w_setR, w_setR1, w_setN, w_setN1, w_setN2, w_inc, w_inc1, w_put, w_put1, w_put2, w_put3, w_wf0, w_wf1, w_po, w_po1, w_po2, w_ast, w_ast1, w_ast2, w_ast3, w_aop, w_aop1, w_aop2, w_aop3, w_aop4, w_ret, w_ret0, w_ret1, w_retN, w_retN1, w_retN2, w_retV, w_throw, w_aN, w_aI, w_aI1, w_aI2, w_aR, w_aR1, w_ask, w_ask1, w_V, w_V1, w_V2, w_S, w_S1, w_CI, w_CI1, w_CR, w_CR1, w_CN, w_CN1, w_CN2, w_CV, w_CV1, w_CV2, w_pop, w_pop1, w_popR, w_popR1, w_cast, w_cast1, w_run, lc_0, lc_I, lc_R, lc_N, lc_J, w_run1, w_run2, ite_s1, ite_01, ite_10, ite_nz, i_10, i_01, i_20, i_02, i_21, i_12, i_30, i_03, i_40, i_04, il_00, il_10, il_20, il_01, il_02, sl_r, sl_I, sl_L, w_J, w_LJ, w_LJ1, w_BJ, w_BJ1, w_BJ2, w_Sh, w_Sh1, w_Sh2, w_BC, w_BC1, w_BC2, w_IL, w_IL1, w_LI, w_LI1, w_Rm, w_Rm1, w_Rm2, w_AJ, w_AJ1, w_AJ2, w_AJ3, w_rj0, w_wj0, w_rj1, w_wj1, w_rj2, w_wj2, w_rj3, w_wj3, w_rj4, w_wj4, w_uj1, w_uj2, w_uj3, w_uj4, sl_J, w_setJ, w_setJ1, w_aJs, w_aJs1, w_aJs2, w_aJs3, w_jop, w_jop1, w_jop2, w_jop3, w_jop4, w_retJ, w_retJ1, w_aJ, w_aJ1, w_CJ, w_CJ1, List.getElem?_cons_zero, List.getElem?_cons_succ, List.set_cons_zero, List.set_cons_succ, List.map_cons, List.map_nil, List.length_cons, List.length_nil, List.cons_append, List.nil_append, List.append_nil, List.replicate_succ, List.replicate_zero, Nat.reduceSub, Nat.reduceAdd, Nat.reduceEqDiff, if_true, if_false, true_and, and_true, reduceCtorEq, ite_true, ite_false, Bool.false_eq_true, Nat.zero_add, Nat.add_zero, Nat.sub_self, Nat.reduceLT, decide_eq_true_eq, Bool.not_eq_true, not_true_eq_false, not_false_eq_true, decide_true, decide_false, decide_not, Bool.decide_eq_true, and_self, or_self, or_true, true_or, or_false, false_or, false_and, and_false, ne_eq, Bool.not_not, Bool.not_eq_eq_eq_not, Nat.reduceEqDiff, Nat.reduceLeDiff, Bool.not_true, Bool.not_false, eq_self, ladd_I, ladd_L1, ladd_Ln, ladd_n, ladd_J, lrem_I, lrem_L1, lrem_Ln, lrem_N, grw_I, grw_L, grw_n, grw_J, sdr_u, tk_u, sdr_a, tk_a, sdr_r, tk_r, rg_get, List.length_range, fil_2, fil_I, sdr_f, tk_f, sl_fil, aO_2, pr_n, aO_I, aO_L, sl_aO, pr_I, pr_L, sl_pr, gN_n, d1_n, dl_n, gN_I, gN_L, sl_gN, d1_I, d1_L, d1_L1, sl_d1, dl_I, dl_L, dl_L1, sl_dl, sdr_dl, tk_dl, sl_dH, fil_2, sl_gT, sl_tI, tO_2, tO_Ln, tO_I, sl_tO, tI_n, stp_n, sl_lO, sl_dp, sl_cV, sl_rst, ib_0_8, ib_0_12, ib_0_48, cl_0, ib_1_8, ib_1_12, ib_1_48, cl_1, ib_2_8, ib_2_12, ib_2_48, cl_2, ib_3_8, ib_3_12, ib_3_48, cl_3, ib_4_8, ib_4_12, ib_4_48, cl_4, ib_5_8, ib_5_12, ib_5_48, cl_5, ib_6_8, ib_6_12, ib_6_48, cl_6, ib_7_8, ib_7_12, ib_7_48, cl_7, ib_8_12, ib_8_48, cl_8, ib_9_12, ib_9_48, cl_9, ib_10_12, ib_10_48, cl_10, ib_11_12, ib_11_48, cl_11, n_p4, n_p8, e_at, e_with, e_state, e_becomes, e_has, e_many, cmp_e, il_m1, hs, hd]; exact rfl, rfl, nI j, by rfl, Or.inr ⟨j, by omega, rfl, ⟨hs, hd⟩, fun a ha hca => ?_⟩⟩
          by_cases e : a = j
          · rw [e]; exact Nat.le_refl _
          · exact absurd hca (p2 a (by omega))
        · subst p2
          have wq := hw q (by omega)
          have aq9 := hA q (by omega)
          by_cases hlt : wN υ j i < wN υ q i
          · refine ⟨_, _, by simp (disch := first | omega | (simp only [w_ui2, w_ul3, w_uj3, ladd_n, lrem_N, grw_n, ladd_Ln, lrem_Ln, grw_L, List.length_range, fil_2, aO_2, pr_n, gN_n, d1_n, dl_n, fil_2, tO_2, tO_Ln, tI_n, stp_n]; omega)) only [w_I, w_L, w_L1, w_LR, w_LR1, w_LN, w_LN1, w_LN2, w_null, w_N, w_N1, w_B, w_B1, w_B2, w_GI, w_GI1, w_GR, w_GR1, w_A, w_A1, w_A2, w_A3, w_rd3, w_wr3, w_rd7, w_wr7, w_rd8, w_wr8, w_rd9, w_wr9, w_rd10, w_wr10, w_rm0, w_wm0, w_rm1, w_wm1, w_rm2, w_wm2, w_rm3, w_wm3, w_rm4, w_wm4, w_v0, w_v1, w_v2, w_v3, w_v4, w_v6, w_v7, w_v8, w_v9, w_v10, inB_t, cl_nI, w_ui1, w_ui2, w_ul1, w_ul3, w_lsz, w_lget, w_ladd, w_lrem, sl_ladd, sl_lrem, sl_grw, n_eq, n_lt, n_le, n_add, n_ad1, n_lt4, n_neg, n_lt0, n_ge0, w_M, w_M1, w_M2, w_T, w_T1, w_C, w_C1, w_Z, w_and, w_and1, w_or, w_or1, w_not, w_not1, w_tn, w_tn1, w_E, w_E1, w_E2, w_nl, w_nl1, w_nl2, w_C2_0, w_Z1_0, w_C2_1, w_Z1_1, w_C2_2, w_Z1_2, w_C2_3, w_Z1_3, w_C2_4, w_Z1_4, w_C2_5, w_Z1_5, w_seq, w_seq1, w_seq2, w_seq3, w_if, w_if1, w_skip, w_set, w_set1, w_setR, w_setR1, w_setN, w_setN1, w_setN2, w_inc, w_inc1, w_put, w_put1, w_put2, w_put3, w_wf0, w_wf1, w_po, w_po1, w_po2, w_ast, w_ast1, w_ast2, w_ast3, w_aop, w_aop1, w_aop2, w_aop3, w_aop4, w_ret, w_ret0, w_ret1, w_retN, w_retN1, w_retN2, w_retV, w_throw, w_aN, w_aI, w_aI1, w_aI2, w_aR, w_aR1, w_ask, w_ask1, w_V, w_V1, w_V2, w_S, w_S1, w_CI, w_CI1, w_CR, w_CR1, w_CN, w_CN1, w_CN2, w_CV, w_CV1, w_CV2, w_pop, w_pop1, w_popR, w_popR1, w_cast, w_cast1, w_run, lc_0, lc_I, lc_R, lc_N, lc_J, w_run1, w_run2, ite_s1, ite_01, ite_10, ite_nz, i_10, i_01, i_20, i_02, i_21, i_12, i_30, i_03, i_40, i_04, il_00, il_10, il_20, il_01, il_02, sl_r, sl_I, sl_L, w_J, w_LJ, w_LJ1, w_BJ, w_BJ1, w_BJ2, w_Sh, w_Sh1, w_Sh2, w_BC, w_BC1, w_BC2, w_IL, w_IL1, w_LI, w_LI1, w_Rm, w_Rm1, w_Rm2, w_AJ, w_AJ1, w_AJ2, w_AJ3, w_rj0, w_wj0, w_rj1, w_wj1, w_rj2, w_wj2, w_rj3, w_wj3, w_rj4, w_wj4, w_uj1, w_uj2, w_uj3, w_uj4, sl_J, w_setJ, w_setJ1, w_aJs, w_aJs1, w_aJs2, w_aJs3, w_jop, w_jop1, w_jop2, w_jop3, w_jop4, w_retJ, w_retJ1, w_aJ, w_aJ1, w_CJ, w_CJ1, List.getElem?_cons_zero, List.getElem?_cons_succ, List.set_cons_zero, List.set_cons_succ, List.map_cons, List.map_nil, List.length_cons, List.length_nil, List.cons_append, List.nil_append, List.append_nil, List.replicate_succ, List.replicate_zero, Nat.reduceSub, Nat.reduceAdd, Nat.reduceEqDiff, if_true, if_false, true_and, and_true, reduceCtorEq, ite_true, ite_false, Bool.false_eq_true, Nat.zero_add, Nat.add_zero, Nat.sub_self, Nat.reduceLT, decide_eq_true_eq, Bool.not_eq_true, not_true_eq_false, not_false_eq_true, decide_true, decide_false, decide_not, Bool.decide_eq_true, and_self, or_self, or_true, true_or, or_false, false_or, false_and, and_false, ne_eq, Bool.not_not, Bool.not_eq_eq_eq_not, Nat.reduceEqDiff, Nat.reduceLeDiff, Bool.not_true, Bool.not_false, eq_self, ladd_I, ladd_L1, ladd_Ln, ladd_n, ladd_J, lrem_I, lrem_L1, lrem_Ln, lrem_N, grw_I, grw_L, grw_n, grw_J, sdr_u, tk_u, sdr_a, tk_a, sdr_r, tk_r, rg_get, List.length_range, fil_2, fil_I, sdr_f, tk_f, sl_fil, aO_2, pr_n, aO_I, aO_L, sl_aO, pr_I, pr_L, sl_pr, gN_n, d1_n, dl_n, gN_I, gN_L, sl_gN, d1_I, d1_L, d1_L1, sl_d1, dl_I, dl_L, dl_L1, sl_dl, sdr_dl, tk_dl, sl_dH, fil_2, sl_gT, sl_tI, tO_2, tO_Ln, tO_I, sl_tO, tI_n, stp_n, sl_lO, sl_dp, sl_cV, sl_rst, ib_0_8, ib_0_12, ib_0_48, cl_0, ib_1_8, ib_1_12, ib_1_48, cl_1, ib_2_8, ib_2_12, ib_2_48, cl_2, ib_3_8, ib_3_12, ib_3_48, cl_3, ib_4_8, ib_4_12, ib_4_48, cl_4, ib_5_8, ib_5_12, ib_5_48, cl_5, ib_6_8, ib_6_12, ib_6_48, cl_6, ib_7_8, ib_7_12, ib_7_48, cl_7, ib_8_12, ib_8_48, cl_8, ib_9_12, ib_9_48, cl_9, ib_10_12, ib_10_48, cl_10, ib_11_12, ib_11_48, cl_11, n_p4, n_p8, e_at, e_with, e_state, e_becomes, e_has, e_many, cmp_e, il_m1, hs, hd, wj, wq, hlt]; exact rfl, rfl, nI j, by rfl, Or.inr ⟨j, by omega, rfl, ⟨hs, hd⟩, fun a ha hca => ?_⟩⟩
            by_cases e : a = j
            · rw [e]; exact Nat.le_refl _
            · have := p4 a (by omega) hca
              omega
          · refine ⟨_, _, by simp (disch := first | omega | (simp only [w_ui2, w_ul3, w_uj3, ladd_n, lrem_N, grw_n, ladd_Ln, lrem_Ln, grw_L, List.length_range, fil_2, aO_2, pr_n, gN_n, d1_n, dl_n, fil_2, tO_2, tO_Ln, tI_n, stp_n]; omega)) only [w_I, w_L, w_L1, w_LR, w_LR1, w_LN, w_LN1, w_LN2, w_null, w_N, w_N1, w_B, w_B1, w_B2, w_GI, w_GI1, w_GR, w_GR1, w_A, w_A1, w_A2, w_A3, w_rd3, w_wr3, w_rd7, w_wr7, w_rd8, w_wr8, w_rd9, w_wr9, w_rd10, w_wr10, w_rm0, w_wm0, w_rm1, w_wm1, w_rm2, w_wm2, w_rm3, w_wm3, w_rm4, w_wm4, w_v0, w_v1, w_v2, w_v3, w_v4, w_v6, w_v7, w_v8, w_v9, w_v10, inB_t, cl_nI, w_ui1, w_ui2, w_ul1, w_ul3, w_lsz, w_lget, w_ladd, w_lrem, sl_ladd, sl_lrem, sl_grw, n_eq, n_lt, n_le, n_add, n_ad1, n_lt4, n_neg, n_lt0, n_ge0, w_M, w_M1, w_M2, w_T, w_T1, w_C, w_C1, w_Z, w_and, w_and1, w_or, w_or1, w_not, w_not1, w_tn, w_tn1, w_E, w_E1, w_E2, w_nl, w_nl1, w_nl2, w_C2_0, w_Z1_0, w_C2_1, w_Z1_1, w_C2_2, w_Z1_2, w_C2_3, w_Z1_3, w_C2_4, w_Z1_4, w_C2_5, w_Z1_5, w_seq, w_seq1, w_seq2, w_seq3, w_if, w_if1, w_skip, w_set, w_set1, w_setR, w_setR1, w_setN, w_setN1, w_setN2, w_inc, w_inc1, w_put, w_put1, w_put2, w_put3, w_wf0, w_wf1, w_po, w_po1, w_po2, w_ast, w_ast1, w_ast2, w_ast3, w_aop, w_aop1, w_aop2, w_aop3, w_aop4, w_ret, w_ret0, w_ret1, w_retN, w_retN1, w_retN2, w_retV, w_throw, w_aN, w_aI, w_aI1, w_aI2, w_aR, w_aR1, w_ask, w_ask1, w_V, w_V1, w_V2, w_S, w_S1, w_CI, w_CI1, w_CR, w_CR1, w_CN, w_CN1, w_CN2, w_CV, w_CV1, w_CV2, w_pop, w_pop1, w_popR, w_popR1, w_cast, w_cast1, w_run, lc_0, lc_I, lc_R, lc_N, lc_J, w_run1, w_run2, ite_s1, ite_01, ite_10, ite_nz, i_10, i_01, i_20, i_02, i_21, i_12, i_30, i_03, i_40, i_04, il_00, il_10, il_20, il_01, il_02, sl_r, sl_I, sl_L, w_J, w_LJ, w_LJ1, w_BJ, w_BJ1, w_BJ2, w_Sh, w_Sh1, w_Sh2, w_BC, w_BC1, w_BC2, w_IL, w_IL1, w_LI, w_LI1, w_Rm, w_Rm1, w_Rm2, w_AJ, w_AJ1, w_AJ2, w_AJ3, w_rj0, w_wj0, w_rj1, w_wj1, w_rj2, w_wj2, w_rj3, w_wj3, w_rj4, w_wj4, w_uj1, w_uj2, w_uj3, w_uj4, sl_J, w_setJ, w_setJ1, w_aJs, w_aJs1, w_aJs2, w_aJs3, w_jop, w_jop1, w_jop2, w_jop3, w_jop4, w_retJ, w_retJ1, w_aJ, w_aJ1, w_CJ, w_CJ1, List.getElem?_cons_zero, List.getElem?_cons_succ, List.set_cons_zero, List.set_cons_succ, List.map_cons, List.map_nil, List.length_cons, List.length_nil, List.cons_append, List.nil_append, List.append_nil, List.replicate_succ, List.replicate_zero, Nat.reduceSub, Nat.reduceAdd, Nat.reduceEqDiff, if_true, if_false, true_and, and_true, reduceCtorEq, ite_true, ite_false, Bool.false_eq_true, Nat.zero_add, Nat.add_zero, Nat.sub_self, Nat.reduceLT, decide_eq_true_eq, Bool.not_eq_true, not_true_eq_false, not_false_eq_true, decide_true, decide_false, decide_not, Bool.decide_eq_true, and_self, or_self, or_true, true_or, or_false, false_or, false_and, and_false, ne_eq, Bool.not_not, Bool.not_eq_eq_eq_not, Nat.reduceEqDiff, Nat.reduceLeDiff, Bool.not_true, Bool.not_false, eq_self, ladd_I, ladd_L1, ladd_Ln, ladd_n, ladd_J, lrem_I, lrem_L1, lrem_Ln, lrem_N, grw_I, grw_L, grw_n, grw_J, sdr_u, tk_u, sdr_a, tk_a, sdr_r, tk_r, rg_get, List.length_range, fil_2, fil_I, sdr_f, tk_f, sl_fil, aO_2, pr_n, aO_I, aO_L, sl_aO, pr_I, pr_L, sl_pr, gN_n, d1_n, dl_n, gN_I, gN_L, sl_gN, d1_I, d1_L, d1_L1, sl_d1, dl_I, dl_L, dl_L1, sl_dl, sdr_dl, tk_dl, sl_dH, fil_2, sl_gT, sl_tI, tO_2, tO_Ln, tO_I, sl_tO, tI_n, stp_n, sl_lO, sl_dp, sl_cV, sl_rst, ib_0_8, ib_0_12, ib_0_48, cl_0, ib_1_8, ib_1_12, ib_1_48, cl_1, ib_2_8, ib_2_12, ib_2_48, cl_2, ib_3_8, ib_3_12, ib_3_48, cl_3, ib_4_8, ib_4_12, ib_4_48, cl_4, ib_5_8, ib_5_12, ib_5_48, cl_5, ib_6_8, ib_6_12, ib_6_48, cl_6, ib_7_8, ib_7_12, ib_7_48, cl_7, ib_8_12, ib_8_48, cl_8, ib_9_12, ib_9_48, cl_9, ib_10_12, ib_10_48, cl_10, ib_11_12, ib_11_48, cl_11, n_p4, n_p8, e_at, e_with, e_state, e_becomes, e_has, e_many, cmp_e, il_m1, hs, hd, wj, wq, hlt]; exact rfl, rfl, nI q, by rfl, Or.inr ⟨q, by omega, rfl, p3, fun a ha hca => ?_⟩⟩
            by_cases e : a = j
            · rw [e]; omega
            · exact p4 a (by omega) hca
      · exact ⟨_, _, by simp (disch := first | omega | (simp only [w_ui2, w_ul3, w_uj3, ladd_n, lrem_N, grw_n, ladd_Ln, lrem_Ln, grw_L, List.length_range, fil_2, aO_2, pr_n, gN_n, d1_n, dl_n, fil_2, tO_2, tO_Ln, tI_n, stp_n]; omega)) only [w_I, w_L, w_L1, w_LR, w_LR1, w_LN, w_LN1, w_LN2, w_null, w_N, w_N1, w_B, w_B1, w_B2, w_GI, w_GI1, w_GR, w_GR1, w_A, w_A1, w_A2, w_A3, w_rd3, w_wr3, w_rd7, w_wr7, w_rd8, w_wr8, w_rd9, w_wr9, w_rd10, w_wr10, w_rm0, w_wm0, w_rm1, w_wm1, w_rm2, w_wm2, w_rm3, w_wm3, w_rm4, w_wm4, w_v0, w_v1, w_v2, w_v3, w_v4, w_v6, w_v7, w_v8, w_v9, w_v10, inB_t, cl_nI, w_ui1, w_ui2, w_ul1, w_ul3, w_lsz, w_lget, w_ladd, w_lrem, sl_ladd, sl_lrem, sl_grw, n_eq, n_lt, n_le, n_add, n_ad1, n_lt4, n_neg, n_lt0, n_ge0, w_M, w_M1, w_M2, w_T, w_T1, w_C, w_C1, w_Z, w_and, w_and1, w_or, w_or1, w_not, w_not1, w_tn, w_tn1, w_E, w_E1, w_E2, w_nl, w_nl1, w_nl2, w_C2_0, w_Z1_0, w_C2_1, w_Z1_1, w_C2_2, w_Z1_2, w_C2_3, w_Z1_3, w_C2_4, w_Z1_4, w_C2_5, w_Z1_5, w_seq, w_seq1, w_seq2, w_seq3, w_if, w_if1, w_skip, w_set, w_set1, w_setR, w_setR1, w_setN, w_setN1, w_setN2, w_inc, w_inc1, w_put, w_put1, w_put2, w_put3, w_wf0, w_wf1, w_po, w_po1, w_po2, w_ast, w_ast1, w_ast2, w_ast3, w_aop, w_aop1, w_aop2, w_aop3, w_aop4, w_ret, w_ret0, w_ret1, w_retN, w_retN1, w_retN2, w_retV, w_throw, w_aN, w_aI, w_aI1, w_aI2, w_aR, w_aR1, w_ask, w_ask1, w_V, w_V1, w_V2, w_S, w_S1, w_CI, w_CI1, w_CR, w_CR1, w_CN, w_CN1, w_CN2, w_CV, w_CV1, w_CV2, w_pop, w_pop1, w_popR, w_popR1, w_cast, w_cast1, w_run, lc_0, lc_I, lc_R, lc_N, lc_J, w_run1, w_run2, ite_s1, ite_01, ite_10, ite_nz, i_10, i_01, i_20, i_02, i_21, i_12, i_30, i_03, i_40, i_04, il_00, il_10, il_20, il_01, il_02, sl_r, sl_I, sl_L, w_J, w_LJ, w_LJ1, w_BJ, w_BJ1, w_BJ2, w_Sh, w_Sh1, w_Sh2, w_BC, w_BC1, w_BC2, w_IL, w_IL1, w_LI, w_LI1, w_Rm, w_Rm1, w_Rm2, w_AJ, w_AJ1, w_AJ2, w_AJ3, w_rj0, w_wj0, w_rj1, w_wj1, w_rj2, w_wj2, w_rj3, w_wj3, w_rj4, w_wj4, w_uj1, w_uj2, w_uj3, w_uj4, sl_J, w_setJ, w_setJ1, w_aJs, w_aJs1, w_aJs2, w_aJs3, w_jop, w_jop1, w_jop2, w_jop3, w_jop4, w_retJ, w_retJ1, w_aJ, w_aJ1, w_CJ, w_CJ1, List.getElem?_cons_zero, List.getElem?_cons_succ, List.set_cons_zero, List.set_cons_succ, List.map_cons, List.map_nil, List.length_cons, List.length_nil, List.cons_append, List.nil_append, List.append_nil, List.replicate_succ, List.replicate_zero, Nat.reduceSub, Nat.reduceAdd, Nat.reduceEqDiff, if_true, if_false, true_and, and_true, reduceCtorEq, ite_true, ite_false, Bool.false_eq_true, Nat.zero_add, Nat.add_zero, Nat.sub_self, Nat.reduceLT, decide_eq_true_eq, Bool.not_eq_true, not_true_eq_false, not_false_eq_true, decide_true, decide_false, decide_not, Bool.decide_eq_true, and_self, or_self, or_true, true_or, or_false, false_or, false_and, and_false, ne_eq, Bool.not_not, Bool.not_eq_eq_eq_not, Nat.reduceEqDiff, Nat.reduceLeDiff, Bool.not_true, Bool.not_false, eq_self, ladd_I, ladd_L1, ladd_Ln, ladd_n, ladd_J, lrem_I, lrem_L1, lrem_Ln, lrem_N, grw_I, grw_L, grw_n, grw_J, sdr_u, tk_u, sdr_a, tk_a, sdr_r, tk_r, rg_get, List.length_range, fil_2, fil_I, sdr_f, tk_f, sl_fil, aO_2, pr_n, aO_I, aO_L, sl_aO, pr_I, pr_L, sl_pr, gN_n, d1_n, dl_n, gN_I, gN_L, sl_gN, d1_I, d1_L, d1_L1, sl_d1, dl_I, dl_L, dl_L1, sl_dl, sdr_dl, tk_dl, sl_dH, fil_2, sl_gT, sl_tI, tO_2, tO_Ln, tO_I, sl_tO, tI_n, stp_n, sl_lO, sl_dp, sl_cV, sl_rst, ib_0_8, ib_0_12, ib_0_48, cl_0, ib_1_8, ib_1_12, ib_1_48, cl_1, ib_2_8, ib_2_12, ib_2_48, cl_2, ib_3_8, ib_3_12, ib_3_48, cl_3, ib_4_8, ib_4_12, ib_4_48, cl_4, ib_5_8, ib_5_12, ib_5_48, cl_5, ib_6_8, ib_6_12, ib_6_48, cl_6, ib_7_8, ib_7_12, ib_7_48, cl_7, ib_8_12, ib_8_48, cl_8, ib_9_12, ib_9_48, cl_9, ib_10_12, ib_10_48, cl_10, ib_11_12, ib_11_48, cl_11, n_p4, n_p8, e_at, e_with, e_state, e_becomes, e_has, e_many, cmp_e, il_m1, hs, hd]; exact rfl, rfl, nx, by rfl, up (fun q => hd q.2)⟩
    · exact ⟨_, _, by simp (disch := first | omega | (simp only [w_ui2, w_ul3, w_uj3, ladd_n, lrem_N, grw_n, ladd_Ln, lrem_Ln, grw_L, List.length_range, fil_2, aO_2, pr_n, gN_n, d1_n, dl_n, fil_2, tO_2, tO_Ln, tI_n, stp_n]; omega)) only [w_I, w_L, w_L1, w_LR, w_LR1, w_LN, w_LN1, w_LN2, w_null, w_N, w_N1, w_B, w_B1, w_B2, w_GI, w_GI1, w_GR, w_GR1, w_A, w_A1, w_A2, w_A3, w_rd3, w_wr3, w_rd7, w_wr7, w_rd8, w_wr8, w_rd9, w_wr9, w_rd10, w_wr10, w_rm0, w_wm0, w_rm1, w_wm1, w_rm2, w_wm2, w_rm3, w_wm3, w_rm4, w_wm4, w_v0, w_v1, w_v2, w_v3, w_v4, w_v6, w_v7, w_v8, w_v9, w_v10, inB_t, cl_nI, w_ui1, w_ui2, w_ul1, w_ul3, w_lsz, w_lget, w_ladd, w_lrem, sl_ladd, sl_lrem, sl_grw, n_eq, n_lt, n_le, n_add, n_ad1, n_lt4, n_neg, n_lt0, n_ge0, w_M, w_M1, w_M2, w_T, w_T1, w_C, w_C1, w_Z, w_and, w_and1, w_or, w_or1, w_not, w_not1, w_tn, w_tn1, w_E, w_E1, w_E2, w_nl, w_nl1, w_nl2, w_C2_0, w_Z1_0, w_C2_1, w_Z1_1, w_C2_2, w_Z1_2, w_C2_3, w_Z1_3, w_C2_4, w_Z1_4, w_C2_5, w_Z1_5, w_seq, w_seq1, w_seq2, w_seq3, w_if, w_if1, w_skip, w_set, w_set1, w_setR, w_setR1, w_setN, w_setN1, w_setN2, w_inc, w_inc1, w_put, w_put1, w_put2, w_put3, w_wf0, w_wf1, w_po, w_po1, w_po2, w_ast, w_ast1, w_ast2, w_ast3, w_aop, w_aop1, w_aop2, w_aop3, w_aop4, w_ret, w_ret0, w_ret1, w_retN, w_retN1, w_retN2, w_retV, w_throw, w_aN, w_aI, w_aI1, w_aI2, w_aR, w_aR1, w_ask, w_ask1, w_V, w_V1, w_V2, w_S, w_S1, w_CI, w_CI1, w_CR, w_CR1, w_CN, w_CN1, w_CN2, w_CV, w_CV1, w_CV2, w_pop, w_pop1, w_popR, w_popR1, w_cast, w_cast1, w_run, lc_0, lc_I, lc_R, lc_N, lc_J, w_run1, w_run2, ite_s1, ite_01, ite_10, ite_nz, i_10, i_01, i_20, i_02, i_21, i_12, i_30, i_03, i_40, i_04, il_00, il_10, il_20, il_01, il_02, sl_r, sl_I, sl_L, w_J, w_LJ, w_LJ1, w_BJ, w_BJ1, w_BJ2, w_Sh, w_Sh1, w_Sh2, w_BC, w_BC1, w_BC2, w_IL, w_IL1, w_LI, w_LI1, w_Rm, w_Rm1, w_Rm2, w_AJ, w_AJ1, w_AJ2, w_AJ3, w_rj0, w_wj0, w_rj1, w_wj1, w_rj2, w_wj2, w_rj3, w_wj3, w_rj4, w_wj4, w_uj1, w_uj2, w_uj3, w_uj4, sl_J, w_setJ, w_setJ1, w_aJs, w_aJs1, w_aJs2, w_aJs3, w_jop, w_jop1, w_jop2, w_jop3, w_jop4, w_retJ, w_retJ1, w_aJ, w_aJ1, w_CJ, w_CJ1, List.getElem?_cons_zero, List.getElem?_cons_succ, List.set_cons_zero, List.set_cons_succ, List.map_cons, List.map_nil, List.length_cons, List.length_nil, List.cons_append, List.nil_append, List.append_nil, List.replicate_succ, List.replicate_zero, Nat.reduceSub, Nat.reduceAdd, Nat.reduceEqDiff, if_true, if_false, true_and, and_true, reduceCtorEq, ite_true, ite_false, Bool.false_eq_true, Nat.zero_add, Nat.add_zero, Nat.sub_self, Nat.reduceLT, decide_eq_true_eq, Bool.not_eq_true, not_true_eq_false, not_false_eq_true, decide_true, decide_false, decide_not, Bool.decide_eq_true, and_self, or_self, or_true, true_or, or_false, false_or, false_and, and_false, ne_eq, Bool.not_not, Bool.not_eq_eq_eq_not, Nat.reduceEqDiff, Nat.reduceLeDiff, Bool.not_true, Bool.not_false, eq_self, ladd_I, ladd_L1, ladd_Ln, ladd_n, ladd_J, lrem_I, lrem_L1, lrem_Ln, lrem_N, grw_I, grw_L, grw_n, grw_J, sdr_u, tk_u, sdr_a, tk_a, sdr_r, tk_r, rg_get, List.length_range, fil_2, fil_I, sdr_f, tk_f, sl_fil, aO_2, pr_n, aO_I, aO_L, sl_aO, pr_I, pr_L, sl_pr, gN_n, d1_n, dl_n, gN_I, gN_L, sl_gN, d1_I, d1_L, d1_L1, sl_d1, dl_I, dl_L, dl_L1, sl_dl, sdr_dl, tk_dl, sl_dH, fil_2, sl_gT, sl_tI, tO_2, tO_Ln, tO_I, sl_tO, tI_n, stp_n, sl_lO, sl_dp, sl_cV, sl_rst, ib_0_8, ib_0_12, ib_0_48, cl_0, ib_1_8, ib_1_12, ib_1_48, cl_1, ib_2_8, ib_2_12, ib_2_48, cl_2, ib_3_8, ib_3_12, ib_3_48, cl_3, ib_4_8, ib_4_12, ib_4_48, cl_4, ib_5_8, ib_5_12, ib_5_48, cl_5, ib_6_8, ib_6_12, ib_6_48, cl_6, ib_7_8, ib_7_12, ib_7_48, cl_7, ib_8_12, ib_8_48, cl_8, ib_9_12, ib_9_48, cl_9, ib_10_12, ib_10_48, cl_10, ib_11_12, ib_11_48, cl_11, n_p4, n_p8, e_at, e_with, e_state, e_becomes, e_has, e_many, cmp_e, il_m1, hs]; exact rfl, rfl, nx, by rfl, up (fun q => hs q.1)⟩) (fun lc υ ⟨e1, nx, e2, P⟩ => by
    subst e1
    subst e2
    simp (disch := first | omega | (simp only [w_ui2, w_ul3, w_uj3, ladd_n, lrem_N, grw_n, ladd_Ln, lrem_Ln, grw_L, List.length_range, fil_2, aO_2, pr_n, gN_n, d1_n, dl_n, fil_2, tO_2, tO_Ln, tI_n, stp_n]; omega)) only [w_I, w_L, w_L1, w_LR, w_LR1, w_LN, w_LN1, w_LN2, w_null, w_N, w_N1, w_B, w_B1, w_B2, w_GI, w_GI1, w_GR, w_GR1, w_A, w_A1, w_A2, w_A3, w_rd3, w_wr3, w_rd7, w_wr7, w_rd8, w_wr8, w_rd9, w_wr9, w_rd10, w_wr10, w_rm0, w_wm0, w_rm1, w_wm1, w_rm2, w_wm2, w_rm3, w_wm3, w_rm4, w_wm4, w_v0, w_v1, w_v2, w_v3, w_v4, w_v6, w_v7, w_v8, w_v9, w_v10, inB_t, cl_nI, w_ui1, w_ui2, w_ul1, w_ul3, w_lsz, w_lget, w_ladd, w_lrem, sl_ladd, sl_lrem, sl_grw, n_eq, n_lt, n_le, n_add, n_ad1, n_lt4, n_neg, n_lt0, n_ge0, w_M, w_M1, w_M2, w_T, w_T1, w_C, w_C1, w_Z, w_and, w_and1, w_or, w_or1, w_not, w_not1, w_tn, w_tn1, w_E, w_E1, w_E2, w_nl, w_nl1, w_nl2, w_C2_0, w_Z1_0, w_C2_1, w_Z1_1, w_C2_2, w_Z1_2, w_C2_3, w_Z1_3, w_C2_4, w_Z1_4, w_C2_5, w_Z1_5, w_seq, w_seq1, w_seq2, w_seq3, w_if, w_if1, w_skip, w_set, w_set1, w_setR, w_setR1, w_setN, w_setN1, w_setN2, w_inc, w_inc1, w_put, w_put1, w_put2, w_put3, w_wf0, w_wf1, w_po, w_po1, w_po2, w_ast, w_ast1, w_ast2, w_ast3, w_aop, w_aop1, w_aop2, w_aop3, w_aop4, w_ret, w_ret0, w_ret1, w_retN, w_retN1, w_retN2, w_retV, w_throw, w_aN, w_aI, w_aI1, w_aI2, w_aR, w_aR1, w_ask, w_ask1, w_V, w_V1, w_V2, w_S, w_S1, w_CI, w_CI1, w_CR, w_CR1, w_CN, w_CN1, w_CN2, w_CV, w_CV1, w_CV2, w_pop, w_pop1, w_popR, w_popR1, w_cast, w_cast1, w_run, lc_0, lc_I, lc_R, lc_N, lc_J, w_run1, w_run2, ite_s1, ite_01, ite_10, ite_nz, i_10, i_01, i_20, i_02, i_21, i_12, i_30, i_03, i_40, i_04, il_00, il_10, il_20, il_01, il_02, sl_r, sl_I, sl_L, w_J, w_LJ, w_LJ1, w_BJ, w_BJ1, w_BJ2, w_Sh, w_Sh1, w_Sh2, w_BC, w_BC1, w_BC2, w_IL, w_IL1, w_LI, w_LI1, w_Rm, w_Rm1, w_Rm2, w_AJ, w_AJ1, w_AJ2, w_AJ3, w_rj0, w_wj0, w_rj1, w_wj1, w_rj2, w_wj2, w_rj3, w_wj3, w_rj4, w_wj4, w_uj1, w_uj2, w_uj3, w_uj4, sl_J, w_setJ, w_setJ1, w_aJs, w_aJs1, w_aJs2, w_aJs3, w_jop, w_jop1, w_jop2, w_jop3, w_jop4, w_retJ, w_retJ1, w_aJ, w_aJ1, w_CJ, w_CJ1, List.getElem?_cons_zero, List.getElem?_cons_succ, List.set_cons_zero, List.set_cons_succ, List.map_cons, List.map_nil, List.length_cons, List.length_nil, List.cons_append, List.nil_append, List.append_nil, List.replicate_succ, List.replicate_zero, Nat.reduceSub, Nat.reduceAdd, Nat.reduceEqDiff, if_true, if_false, true_and, and_true, reduceCtorEq, ite_true, ite_false, Bool.false_eq_true, Nat.zero_add, Nat.add_zero, Nat.sub_self, Nat.reduceLT, decide_eq_true_eq, Bool.not_eq_true, not_true_eq_false, not_false_eq_true, decide_true, decide_false, decide_not, Bool.decide_eq_true, and_self, or_self, or_true, true_or, or_false, false_or, false_and, and_false, ne_eq, Bool.not_not, Bool.not_eq_eq_eq_not, Nat.reduceEqDiff, Nat.reduceLeDiff, Bool.not_true, Bool.not_false, eq_self, ladd_I, ladd_L1, ladd_Ln, ladd_n, ladd_J, lrem_I, lrem_L1, lrem_Ln, lrem_N, grw_I, grw_L, grw_n, grw_J, sdr_u, tk_u, sdr_a, tk_a, sdr_r, tk_r, rg_get, List.length_range, fil_2, fil_I, sdr_f, tk_f, sl_fil, aO_2, pr_n, aO_I, aO_L, sl_aO, pr_I, pr_L, sl_pr, gN_n, d1_n, dl_n, gN_I, gN_L, sl_gN, d1_I, d1_L, d1_L1, sl_d1, dl_I, dl_L, dl_L1, sl_dl, sdr_dl, tk_dl, sl_dH, fil_2, sl_gT, sl_tI, tO_2, tO_Ln, tO_I, sl_tO, tI_n, stp_n, sl_lO, sl_dp, sl_cV, sl_rst, ib_0_8, ib_0_12, ib_0_48, cl_0, ib_1_8, ib_1_12, ib_1_48, cl_1, ib_2_8, ib_2_12, ib_2_48, cl_2, ib_3_8, ib_3_12, ib_3_48, cl_3, ib_4_8, ib_4_12, ib_4_48, cl_4, ib_5_8, ib_5_12, ib_5_48, cl_5, ib_6_8, ib_6_12, ib_6_48, cl_6, ib_7_8, ib_7_12, ib_7_48, cl_7, ib_8_12, ib_8_48, cl_8, ib_9_12, ib_9_48, cl_9, ib_10_12, ib_10_48, cl_10, ib_11_12, ib_11_48, cl_11, n_p4, n_p8, e_at, e_with, e_state, e_becomes, e_has, e_many, cmp_e, il_m1, g0, Nat.lt_irrefl])
  subst h2
  subst h3
  exact ⟨nx, h1, h4⟩
/-- the facts of one member that the search rests on -/
def FD (σ : Sg) (i : Nat) : Prop := WF σ ∧ CA σ ∧ DJ σ i ∧ ∀ a, a < σ.2.2.1 0 → (σ.1 27 a i = 1 ↔ a ∈ σ.2.1 (7 + i))
theorem CY.fd (h : CY f σ) (hi : i < 4) (hal : ¬ σ.1 13 i 0 = 0) : FD σ i := ⟨h.1.1, h.1.2.2.2.1, h.2.2.2.1 i hi, fun a ha => by
  rcases h.2.2.2.2 i hi hal a ha with q | q | q | q
  · exact ⟨fun z => by rcases q.2.1 with y | y <;> rw [y] at z <;> exact absurd z (by decide), fun z => absurd z q.2.2.2⟩
  · exact ⟨fun z => by rw [q.2.1] at z; exact absurd z (by decide), fun z => absurd z q.2.2.2⟩
  · exact ⟨fun _ => q.2.2.2, fun _ => q.2.1⟩
  · exact ⟨fun z => by rw [q.2.1] at z; exact absurd z (by decide), fun z => absurd z q.2.2.2⟩⟩
theorem cnL_c (h : RY σ τ A) (F : FD σ i) (hi : i < 4) (ha : a < σ.2.2.1 0) : cnL τ i a ↔ a ∈ σ.2.1 (7 + i) ∧ canB σ a i = true := by
  obtain ⟨W, C, D, S⟩ := F
  have hn := W.n
  unfold cnL
  rw [h.cp ha hi, S a ha, sub_0]
  refine and_congr_right fun hh => ?_
  rw [can_hist C W ha hi (D a hh)]
  have hs4 := W.sn4 ha
  constructor
  · intro H k hk
    have hk2 : k < 64 := by have := W.el (k := 3 + sdr σ a) (by omega) (List.mem_of_mem_take hk); omega
    exact (h.db hi hk2).mp (H k hk2 ((h.hb ha hk2).mpr hk))
  · intro H k hk2 hk
    exact (h.db hi hk2).mpr (H k ((h.hb ha hk2).mp hk))
theorem find_r (h : RY σ τ A) (F : FD σ i) (hi : i < 4) (P : fnP τ i (σ.2.2.1 0) x) : x = if rdy σ i = true then nI (hM σ i) else -1 := by
  have hel : ∀ a ∈ σ.2.1 (7 + i), a < σ.2.2.1 0 := fun a ha => F.1.el (by omega) ha
  by_cases r : rdy σ i = true
  · rw [if_pos r]
    have hlt : frc σ i < (σ.2.1 (7 + i)).length := of_decide_eq_true r
    have hmm : hM σ i ∈ σ.2.1 (7 + i) := getD_mem hlt
    have hcan : canB σ (hM σ i) i = true := fI_at (P := frP σ i) hlt
    rcases P with ⟨p1, p2⟩ | ⟨q, p1, p2, p3, p4⟩
    · exact absurd ((cnL_c h F hi (hel _ hmm)).mpr ⟨hmm, hcan⟩) (p2 _ (hel _ hmm))
    · rw [p2]
      obtain ⟨q1, q2⟩ := (cnL_c h F hi p1).mp p3
      have h4 := p4 _ (hel _ hmm) ((cnL_c h F hi (hel _ hmm)).mpr ⟨hmm, hcan⟩)
      have hix := List.idxOf_lt_length_of_mem q1
      have hge : frc σ i ≤ (σ.2.1 (7 + i)).idxOf q := fI_ex (P := frP σ i) hix (by unfold frP; rw [get_idx q1]; exact q2)
      rcases Nat.lt_or_eq_of_le hge with z | z
      · have := List.pairwise_iff_getElem.mp (h.ws hi) (frc σ i) _ hlt hix z
        rw [List.getElem_idxOf hix] at this
        have e : (σ.2.1 (7 + i))[frc σ i] = hM σ i := by
          unfold hM
          rw [List.getD_eq_getElem?_getD, List.getElem?_eq_getElem hlt]
          rfl
        rw [e] at this
        omega
      · unfold hM
        rw [z, get_idx q1]
  · rw [if_neg r]
    have hf : rdy σ i = false := by simpa using r
    rcases P with ⟨p1, p2⟩ | ⟨q, p1, p2, p3, p4⟩
    · exact p1
    · obtain ⟨q1, q2⟩ := (cnL_c h F hi p1).mp p3
      rw [rdyF.mp hf q q1] at q2
      cases q2
theorem fI_shift {P : Nat → Bool} (h : P 0 = false) : fI P (n + 1) = fI (fun t => P (t + 1)) n + 1 := by
  have b1 := fI_le (fun t => P (t + 1)) n
  have a1 := fI_le P (n + 1)
  apply Nat.le_antisymm
  · rcases Nat.lt_or_ge (fI (fun t => P (t + 1)) n) n with q | q
    · exact fI_ex (P := P) (by omega) (fI_at (P := fun t => P (t + 1)) q)
    · omega
  · rcases Nat.lt_or_ge (fI P (n + 1)) (n + 1) with q | q
    · have hp := fI_at q
      obtain ⟨c, hc⟩ : ∃ c, fI P (n + 1) = c + 1 := ⟨fI P (n + 1) - 1, by
        have : fI P (n + 1) ≠ 0 := fun e => by rw [e, h] at hp; cases hp
        omega⟩
      rw [hc] at hp ⊢
      have := fI_ex (P := fun t => P (t + 1)) (n := n) (j := c) (by omega) hp
      omega
    · omega
theorem itr_sh : ∀ t, itr i (t + 1) σ = itr i t (stp σ i) := by
  intro t
  induction t with
  | zero => rfl
  | succ t ih =>
    show stp (itr i (t + 1) σ) i = stp (itr i t (stp σ i)) i
    rw [ih]
theorem hT_s (P : PH σ i) (hi : i < 4) (hr : rdy σ i = true) : hT σ i = hT (stp σ i) i + 1 ∧ S_dH σ i = S_dH (stp σ i) i := by
  have hlt : frc σ i < (σ.2.1 (7 + i)).length := of_decide_eq_true hr
  obtain ⟨q1, q2, q3, q4, q5, q6, q7⟩ := stp_ok P hi hr
  have hl : (σ.2.1 (7 + i)).length = ((stp σ i).2.1 (7 + i)).length + 1 := by
    rw [q2, List.length_eraseIdx, if_pos hlt]
    omega
  have e1 : hT σ i = hT (stp σ i) i + 1 := by
    unfold hT
    rw [hl, fI_shift (by simp [itr, hr])]
    simp only [itr_sh]
  refine ⟨e1, ?_⟩
  unfold S_dH
  rw [e1, itr_sh]
theorem hT_0 (hr : rdy σ i = false) : hT σ i = 0 ∧ S_dH σ i = σ := by
  have e : hT σ i = 0 := by
    unfold hT
    rcases Nat.eq_zero_or_pos (σ.2.1 (7 + i)).length with q | q
    · rw [q]; rfl
    · have := fI_ex (P := fun t => !rdy (itr i t σ) i) (n := (σ.2.1 (7 + i)).length) (j := 0) q (by simp [itr, hr])
      omega
  refine ⟨e, ?_⟩
  unfold S_dH
  rw [e]
  rfl
theorem CA.le (C : CA σ) : ∀ a, a < σ.2.2.1 0 → hst σ a ≤ (σ.2.1 (3 + sdr σ a)).length := fun a ha => Nat.le_of_lt (C.2.2.1 a ha).2.1
/-- one round of the loop: nothing to deliver -/
theorem com_no (h : RY σ τ A) (hA : A < 4096) (F : FD σ i) (hi : i < 4) (hr : rdy σ i = false) {o1 o2 : Option AV} {M : Nat} : sWh (fun _ σ => some (true, σ)) (sSeq (sSet 10 (xI (-1))) (sSeq (sSeq (sSet 11 (xI 0)) (sWh (cCmp (bop 0) (xL 11) (xAld false (xLR 6) (xI 0))) (sSeq (sIf (cAnd (cAnd (cCmp (bop 4) (xCI (xS f_L_state (aR (xLR 0) (aI (xL 11) (aI (xL 8) aNil))))) (xI 1)) (cZ (fun x => bop 4 x 0) (xBC (xBJ (· &&& ·) (xAldJ (xLR 1) (xL 11)) (xBJ (· ^^^ ·) (xAldJ (xLR 2) (xL 8)) (xJ (-1)))) (xJ 0)))) (cOr (cZ (fun x => bop 0 x 0) (xL 10)) (cCmp (bop 0) (xCI (xS f_L_at (aJ (xAldJ (xLR 4) (xL 11)) (aI (xL 8) aNil)))) (xCI (xS f_L_at (aJ (xAldJ (xLR 4) (xL 10)) (aI (xL 8) aNil))))))) (sSet 10 (xL 11)) sSkip) (sInc 11 1)) 1000)) (sSeq (sIf (cZ (fun x => bop 0 x 0) (xL 10)) (sRet false (xL 9)) sSkip) (sSeq (sCV (xS f_L_delivers (aR (xLR 0) (aR (xLR 2) (aR (xLR 3) (aR (xLR 5) (aR (xLR 6) (aI (xL 10) (aI (xL 8) aNil))))))))) (sInc 9 1))))) (M + 1) [some (ar (12, 0)), some (ar (14, 0)), some (ar (14, 1)), some (ar (14, 2)), some (ar (14, 3)), some (ar (12, 1)), some (ar (12, 4)), some (ai mm), some (ai (nI i)), some (ai t), o1, o2] τ = some (.inr (.inl (some (ai t)), τ)) := by
  have hn := F.1.n
  obtain ⟨nx, h1, P⟩ := find_l (mm := mm) (t := t) hn h.g0 (fun a ha => h.wa ha hi) (fun a ha => by have := h.wA ha hi; omega) hi
  have e := find_r h F hi P
  rw [hr] at e
  simp only [Bool.false_eq_true, if_false] at e
  subst e
  rw [wh_succ]
  simp (disch := first | omega | (simp only [w_ui2, w_ul3, w_uj3, ladd_n, lrem_N, grw_n, ladd_Ln, lrem_Ln, grw_L, List.length_range, fil_2, aO_2, pr_n, gN_n, d1_n, dl_n, fil_2, tO_2, tO_Ln, tI_n, stp_n]; omega)) only [w_I, w_L, w_L1, w_LR, w_LR1, w_LN, w_LN1, w_LN2, w_null, w_N, w_N1, w_B, w_B1, w_B2, w_GI, w_GI1, w_GR, w_GR1, w_A, w_A1, w_A2, w_A3, w_rd3, w_wr3, w_rd7, w_wr7, w_rd8, w_wr8, w_rd9, w_wr9, w_rd10, w_wr10, w_rm0, w_wm0, w_rm1, w_wm1, w_rm2, w_wm2, w_rm3, w_wm3, w_rm4, w_wm4, w_v0, w_v1, w_v2, w_v3, w_v4, w_v6, w_v7, w_v8, w_v9, w_v10, inB_t, cl_nI, w_ui1, w_ui2, w_ul1, w_ul3, w_lsz, w_lget, w_ladd, w_lrem, sl_ladd, sl_lrem, sl_grw, n_eq, n_lt, n_le, n_add, n_ad1, n_lt4, n_neg, n_lt0, n_ge0, w_M, w_M1, w_M2, w_T, w_T1, w_C, w_C1, w_Z, w_and, w_and1, w_or, w_or1, w_not, w_not1, w_tn, w_tn1, w_E, w_E1, w_E2, w_nl, w_nl1, w_nl2, w_C2_0, w_Z1_0, w_C2_1, w_Z1_1, w_C2_2, w_Z1_2, w_C2_3, w_Z1_3, w_C2_4, w_Z1_4, w_C2_5, w_Z1_5, w_seq, w_seq1, w_seq2, w_seq3, w_if, w_if1, w_skip, w_set, w_set1, w_setR, w_setR1, w_setN, w_setN1, w_setN2, w_inc, w_inc1, w_put, w_put1, w_put2, w_put3, w_wf0, w_wf1, w_po, w_po1, w_po2, w_ast, w_ast1, w_ast2, w_ast3, w_aop, w_aop1, w_aop2, w_aop3, w_aop4, w_ret, w_ret0, w_ret1, w_retN, w_retN1, w_retN2, w_retV, w_throw, w_aN, w_aI, w_aI1, w_aI2, w_aR, w_aR1, w_ask, w_ask1, w_V, w_V1, w_V2, w_S, w_S1, w_CI, w_CI1, w_CR, w_CR1, w_CN, w_CN1, w_CN2, w_CV, w_CV1, w_CV2, w_pop, w_pop1, w_popR, w_popR1, w_cast, w_cast1, w_run, lc_0, lc_I, lc_R, lc_N, lc_J, w_run1, w_run2, ite_s1, ite_01, ite_10, ite_nz, i_10, i_01, i_20, i_02, i_21, i_12, i_30, i_03, i_40, i_04, il_00, il_10, il_20, il_01, il_02, sl_r, sl_I, sl_L, w_J, w_LJ, w_LJ1, w_BJ, w_BJ1, w_BJ2, w_Sh, w_Sh1, w_Sh2, w_BC, w_BC1, w_BC2, w_IL, w_IL1, w_LI, w_LI1, w_Rm, w_Rm1, w_Rm2, w_AJ, w_AJ1, w_AJ2, w_AJ3, w_rj0, w_wj0, w_rj1, w_wj1, w_rj2, w_wj2, w_rj3, w_wj3, w_rj4, w_wj4, w_uj1, w_uj2, w_uj3, w_uj4, sl_J, w_setJ, w_setJ1, w_aJs, w_aJs1, w_aJs2, w_aJs3, w_jop, w_jop1, w_jop2, w_jop3, w_jop4, w_retJ, w_retJ1, w_aJ, w_aJ1, w_CJ, w_CJ1, List.getElem?_cons_zero, List.getElem?_cons_succ, List.set_cons_zero, List.set_cons_succ, List.map_cons, List.map_nil, List.length_cons, List.length_nil, List.cons_append, List.nil_append, List.append_nil, List.replicate_succ, List.replicate_zero, Nat.reduceSub, Nat.reduceAdd, Nat.reduceEqDiff, if_true, if_false, true_and, and_true, reduceCtorEq, ite_true, ite_false, Bool.false_eq_true, Nat.zero_add, Nat.add_zero, Nat.sub_self, Nat.reduceLT, decide_eq_true_eq, Bool.not_eq_true, not_true_eq_false, not_false_eq_true, decide_true, decide_false, decide_not, Bool.decide_eq_true, and_self, or_self, or_true, true_or, or_false, false_or, false_and, and_false, ne_eq, Bool.not_not, Bool.not_eq_eq_eq_not, Nat.reduceEqDiff, Nat.reduceLeDiff, Bool.not_true, Bool.not_false, eq_self, ladd_I, ladd_L1, ladd_Ln, ladd_n, ladd_J, lrem_I, lrem_L1, lrem_Ln, lrem_N, grw_I, grw_L, grw_n, grw_J, sdr_u, tk_u, sdr_a, tk_a, sdr_r, tk_r, rg_get, List.length_range, fil_2, fil_I, sdr_f, tk_f, sl_fil, aO_2, pr_n, aO_I, aO_L, sl_aO, pr_I, pr_L, sl_pr, gN_n, d1_n, dl_n, gN_I, gN_L, sl_gN, d1_I, d1_L, d1_L1, sl_d1, dl_I, dl_L, dl_L1, sl_dl, sdr_dl, tk_dl, sl_dH, fil_2, sl_gT, sl_tI, tO_2, tO_Ln, tO_I, sl_tO, tI_n, stp_n, sl_lO, sl_dp, sl_cV, sl_rst, ib_0_8, ib_0_12, ib_0_48, cl_0, ib_1_8, ib_1_12, ib_1_48, cl_1, ib_2_8, ib_2_12, ib_2_48, cl_2, ib_3_8, ib_3_12, ib_3_48, cl_3, ib_4_8, ib_4_12, ib_4_48, cl_4, ib_5_8, ib_5_12, ib_5_48, cl_5, ib_6_8, ib_6_12, ib_6_48, cl_6, ib_7_8, ib_7_12, ib_7_48, cl_7, ib_8_12, ib_8_48, cl_8, ib_9_12, ib_9_48, cl_9, ib_10_12, ib_10_48, cl_10, ib_11_12, ib_11_48, cl_11, n_p4, n_p8, e_at, e_with, e_state, e_becomes, e_has, e_many, cmp_e, il_m1, Option.bind_some, h1]
/-- .. something to deliver -/
theorem com_yes (h : RY σ τ A) (hA : A < 4096) (F : FD σ i) (hi : i < 4) (hr : rdy σ i = true) {o1 o2 : Option AV} {M q : Nat} : ∃ o3 o4, sWh (fun _ σ => some (true, σ)) (sSeq (sSet 10 (xI (-1))) (sSeq (sSeq (sSet 11 (xI 0)) (sWh (cCmp (bop 0) (xL 11) (xAld false (xLR 6) (xI 0))) (sSeq (sIf (cAnd (cAnd (cCmp (bop 4) (xCI (xS f_L_state (aR (xLR 0) (aI (xL 11) (aI (xL 8) aNil))))) (xI 1)) (cZ (fun x => bop 4 x 0) (xBC (xBJ (· &&& ·) (xAldJ (xLR 1) (xL 11)) (xBJ (· ^^^ ·) (xAldJ (xLR 2) (xL 8)) (xJ (-1)))) (xJ 0)))) (cOr (cZ (fun x => bop 0 x 0) (xL 10)) (cCmp (bop 0) (xCI (xS f_L_at (aJ (xAldJ (xLR 4) (xL 11)) (aI (xL 8) aNil)))) (xCI (xS f_L_at (aJ (xAldJ (xLR 4) (xL 10)) (aI (xL 8) aNil))))))) (sSet 10 (xL 11)) sSkip) (sInc 11 1)) 1000)) (sSeq (sIf (cZ (fun x => bop 0 x 0) (xL 10)) (sRet false (xL 9)) sSkip) (sSeq (sCV (xS f_L_delivers (aR (xLR 0) (aR (xLR 2) (aR (xLR 3) (aR (xLR 5) (aR (xLR 6) (aI (xL 10) (aI (xL 8) aNil))))))))) (sInc 9 1))))) (M + 1) [some (ar (12, 0)), some (ar (14, 0)), some (ar (14, 1)), some (ar (14, 2)), some (ar (14, 3)), some (ar (12, 1)), some (ar (12, 4)), some (ai mm), some (ai (nI i)), some (ai (nI q)), o1, o2] τ = sWh (fun _ σ => some (true, σ)) (sSeq (sSet 10 (xI (-1))) (sSeq (sSeq (sSet 11 (xI 0)) (sWh (cCmp (bop 0) (xL 11) (xAld false (xLR 6) (xI 0))) (sSeq (sIf (cAnd (cAnd (cCmp (bop 4) (xCI (xS f_L_state (aR (xLR 0) (aI (xL 11) (aI (xL 8) aNil))))) (xI 1)) (cZ (fun x => bop 4 x 0) (xBC (xBJ (· &&& ·) (xAldJ (xLR 1) (xL 11)) (xBJ (· ^^^ ·) (xAldJ (xLR 2) (xL 8)) (xJ (-1)))) (xJ 0)))) (cOr (cZ (fun x => bop 0 x 0) (xL 10)) (cCmp (bop 0) (xCI (xS f_L_at (aJ (xAldJ (xLR 4) (xL 11)) (aI (xL 8) aNil)))) (xCI (xS f_L_at (aJ (xAldJ (xLR 4) (xL 10)) (aI (xL 8) aNil))))))) (sSet 10 (xL 11)) sSkip) (sInc 11 1)) 1000)) (sSeq (sIf (cZ (fun x => bop 0 x 0) (xL 10)) (sRet false (xL 9)) sSkip) (sSeq (sCV (xS f_L_delivers (aR (xLR 0) (aR (xLR 2) (aR (xLR 3) (aR (xLR 5) (aR (xLR 6) (aI (xL 10) (aI (xL 8) aNil))))))))) (sInc 9 1))))) M [some (ar (12, 0)), some (ar (14, 0)), some (ar (14, 1)), some (ar (14, 2)), some (ar (14, 3)), some (ar (12, 1)), some (ar (12, 4)), some (ai mm), some (ai (nI i)), some (ai (nI (q + 1))), o3, o4] (LD τ (hM σ i) i) := by
  have hn := F.1.n
  obtain ⟨nx, h1, P⟩ := find_l (mm := mm) (t := nI q) hn h.g0 (fun a ha => h.wa ha hi) (fun a ha => by have := h.wA ha hi; omega) hi
  have e := find_r h F hi P
  rw [if_pos hr] at e
  subst e
  have hlt : frc σ i < (σ.2.1 (7 + i)).length := of_decide_eq_true hr
  have hm : hM σ i < σ.2.2.1 0 := F.1.el (k := 7 + i) (by omega) (getD_mem hlt)
  have e2 := e_dlv (τ := τ) (m := hM σ i) (i := i) (by omega) hi
  have e3 := (LD_fl (τ := τ) (m := hM σ i) (i := i)).sl
  refine ⟨some (ai (nI (hM σ i))), some (ai (nI (σ.2.2.1 0))), ?_⟩
  rw [wh_succ]
  simp (disch := first | omega | (simp only [w_ui2, w_ul3, w_uj3, ladd_n, lrem_N, grw_n, ladd_Ln, lrem_Ln, grw_L, List.length_range, fil_2, aO_2, pr_n, gN_n, d1_n, dl_n, fil_2, tO_2, tO_Ln, tI_n, stp_n]; omega)) only [w_I, w_L, w_L1, w_LR, w_LR1, w_LN, w_LN1, w_LN2, w_null, w_N, w_N1, w_B, w_B1, w_B2, w_GI, w_GI1, w_GR, w_GR1, w_A, w_A1, w_A2, w_A3, w_rd3, w_wr3, w_rd7, w_wr7, w_rd8, w_wr8, w_rd9, w_wr9, w_rd10, w_wr10, w_rm0, w_wm0, w_rm1, w_wm1, w_rm2, w_wm2, w_rm3, w_wm3, w_rm4, w_wm4, w_v0, w_v1, w_v2, w_v3, w_v4, w_v6, w_v7, w_v8, w_v9, w_v10, inB_t, cl_nI, w_ui1, w_ui2, w_ul1, w_ul3, w_lsz, w_lget, w_ladd, w_lrem, sl_ladd, sl_lrem, sl_grw, n_eq, n_lt, n_le, n_add, n_ad1, n_lt4, n_neg, n_lt0, n_ge0, w_M, w_M1, w_M2, w_T, w_T1, w_C, w_C1, w_Z, w_and, w_and1, w_or, w_or1, w_not, w_not1, w_tn, w_tn1, w_E, w_E1, w_E2, w_nl, w_nl1, w_nl2, w_C2_0, w_Z1_0, w_C2_1, w_Z1_1, w_C2_2, w_Z1_2, w_C2_3, w_Z1_3, w_C2_4, w_Z1_4, w_C2_5, w_Z1_5, w_seq, w_seq1, w_seq2, w_seq3, w_if, w_if1, w_skip, w_set, w_set1, w_setR, w_setR1, w_setN, w_setN1, w_setN2, w_inc, w_inc1, w_put, w_put1, w_put2, w_put3, w_wf0, w_wf1, w_po, w_po1, w_po2, w_ast, w_ast1, w_ast2, w_ast3, w_aop, w_aop1, w_aop2, w_aop3, w_aop4, w_ret, w_ret0, w_ret1, w_retN, w_retN1, w_retN2, w_retV, w_throw, w_aN, w_aI, w_aI1, w_aI2, w_aR, w_aR1, w_ask, w_ask1, w_V, w_V1, w_V2, w_S, w_S1, w_CI, w_CI1, w_CR, w_CR1, w_CN, w_CN1, w_CN2, w_CV, w_CV1, w_CV2, w_pop, w_pop1, w_popR, w_popR1, w_cast, w_cast1, w_run, lc_0, lc_I, lc_R, lc_N, lc_J, w_run1, w_run2, ite_s1, ite_01, ite_10, ite_nz, i_10, i_01, i_20, i_02, i_21, i_12, i_30, i_03, i_40, i_04, il_00, il_10, il_20, il_01, il_02, sl_r, sl_I, sl_L, w_J, w_LJ, w_LJ1, w_BJ, w_BJ1, w_BJ2, w_Sh, w_Sh1, w_Sh2, w_BC, w_BC1, w_BC2, w_IL, w_IL1, w_LI, w_LI1, w_Rm, w_Rm1, w_Rm2, w_AJ, w_AJ1, w_AJ2, w_AJ3, w_rj0, w_wj0, w_rj1, w_wj1, w_rj2, w_wj2, w_rj3, w_wj3, w_rj4, w_wj4, w_uj1, w_uj2, w_uj3, w_uj4, sl_J, w_setJ, w_setJ1, w_aJs, w_aJs1, w_aJs2, w_aJs3, w_jop, w_jop1, w_jop2, w_jop3, w_jop4, w_retJ, w_retJ1, w_aJ, w_aJ1, w_CJ, w_CJ1, List.getElem?_cons_zero, List.getElem?_cons_succ, List.set_cons_zero, List.set_cons_succ, List.map_cons, List.map_nil, List.length_cons, List.length_nil, List.cons_append, List.nil_append, List.append_nil, List.replicate_succ, List.replicate_zero, Nat.reduceSub, Nat.reduceAdd, Nat.reduceEqDiff, if_true, if_false, true_and, and_true, reduceCtorEq, ite_true, ite_false, Bool.false_eq_true, Nat.zero_add, Nat.add_zero, Nat.sub_self, Nat.reduceLT, decide_eq_true_eq, Bool.not_eq_true, not_true_eq_false, not_false_eq_true, decide_true, decide_false, decide_not, Bool.decide_eq_true, and_self, or_self, or_true, true_or, or_false, false_or, false_and, and_false, ne_eq, Bool.not_not, Bool.not_eq_eq_eq_not, Nat.reduceEqDiff, Nat.reduceLeDiff, Bool.not_true, Bool.not_false, eq_self, ladd_I, ladd_L1, ladd_Ln, ladd_n, ladd_J, lrem_I, lrem_L1, lrem_Ln, lrem_N, grw_I, grw_L, grw_n, grw_J, sdr_u, tk_u, sdr_a, tk_a, sdr_r, tk_r, rg_get, List.length_range, fil_2, fil_I, sdr_f, tk_f, sl_fil, aO_2, pr_n, aO_I, aO_L, sl_aO, pr_I, pr_L, sl_pr, gN_n, d1_n, dl_n, gN_I, gN_L, sl_gN, d1_I, d1_L, d1_L1, sl_d1, dl_I, dl_L, dl_L1, sl_dl, sdr_dl, tk_dl, sl_dH, fil_2, sl_gT, sl_tI, tO_2, tO_Ln, tO_I, sl_tO, tI_n, stp_n, sl_lO, sl_dp, sl_cV, sl_rst, ib_0_8, ib_0_12, ib_0_48, cl_0, ib_1_8, ib_1_12, ib_1_48, cl_1, ib_2_8, ib_2_12, ib_2_48, cl_2, ib_3_8, ib_3_12, ib_3_48, cl_3, ib_4_8, ib_4_12, ib_4_48, cl_4, ib_5_8, ib_5_12, ib_5_48, cl_5, ib_6_8, ib_6_12, ib_6_48, cl_6, ib_7_8, ib_7_12, ib_7_48, cl_7, ib_8_12, ib_8_48, cl_8, ib_9_12, ib_9_48, cl_9, ib_10_12, ib_10_48, cl_10, ib_11_12, ib_11_48, cl_11, n_p4, n_p8, e_at, e_with, e_state, e_becomes, e_has, e_many, cmp_e, il_m1, Option.bind_some, h1, e2, e3]
theorem com_loop (hA : A < 4096) (hi : i < 4) : ∀ (n : Nat) (σ τ : Sg) (q M : Nat) (o1 o2 : Option AV), (σ.2.1 (7 + i)).length = n → n < M → CY f σ → ¬ σ.1 13 i 0 = 0 → RY σ τ A → ∃ υ, sWh (fun _ σ => some (true, σ)) (sSeq (sSet 10 (xI (-1))) (sSeq (sSeq (sSet 11 (xI 0)) (sWh (cCmp (bop 0) (xL 11) (xAld false (xLR 6) (xI 0))) (sSeq (sIf (cAnd (cAnd (cCmp (bop 4) (xCI (xS f_L_state (aR (xLR 0) (aI (xL 11) (aI (xL 8) aNil))))) (xI 1)) (cZ (fun x => bop 4 x 0) (xBC (xBJ (· &&& ·) (xAldJ (xLR 1) (xL 11)) (xBJ (· ^^^ ·) (xAldJ (xLR 2) (xL 8)) (xJ (-1)))) (xJ 0)))) (cOr (cZ (fun x => bop 0 x 0) (xL 10)) (cCmp (bop 0) (xCI (xS f_L_at (aJ (xAldJ (xLR 4) (xL 11)) (aI (xL 8) aNil)))) (xCI (xS f_L_at (aJ (xAldJ (xLR 4) (xL 10)) (aI (xL 8) aNil))))))) (sSet 10 (xL 11)) sSkip) (sInc 11 1)) 1000)) (sSeq (sIf (cZ (fun x => bop 0 x 0) (xL 10)) (sRet false (xL 9)) sSkip) (sSeq (sCV (xS f_L_delivers (aR (xLR 0) (aR (xLR 2) (aR (xLR 3) (aR (xLR 5) (aR (xLR 6) (aI (xL 10) (aI (xL 8) aNil))))))))) (sInc 9 1))))) M [some (ar (12, 0)), some (ar (14, 0)), some (ar (14, 1)), some (ar (14, 2)), some (ar (14, 3)), some (ar (12, 1)), some (ar (12, 4)), some (ai mm), some (ai (nI i)), some (ai (nI q)), o1, o2] τ = some (.inr (.inl (some (ai (nI (q + hT σ i)))), υ)) ∧ RY (S_dH σ i) υ A ∧ Fl τ υ := by
  intro n
  induction n with
  | zero =>
    intro σ τ q M o1 o2 hl hMM Y hal h
    obtain ⟨M, rfl⟩ : ∃ M', M = M' + 1 := ⟨M - 1, by omega⟩
    have hr : rdy σ i = false := by
      unfold rdy
      rw [hl]
      simp
    obtain ⟨e1, e2⟩ := hT_0 hr
    rw [e1, e2]
    exact ⟨τ, com_no h hA (Y.fd hi hal) hi hr, h, Fl.rf⟩
  | succ n ih =>
    intro σ τ q M o1 o2 hl hMM Y hal h
    obtain ⟨M, rfl⟩ : ∃ M', M = M' + 1 := ⟨M - 1, by omega⟩
    by_cases r : rdy σ i = true
    · obtain ⟨q1, q2, q3, q4, q5, q6, q7⟩ := stp_ok (Y.ph hi) hi r
      obtain ⟨g1, g2, g3⟩ := Y.st1 hi hal r
      obtain ⟨e1, e2⟩ := hT_s (Y.ph hi) hi r
      have hlt : frc σ i < (σ.2.1 (7 + i)).length := of_decide_eq_true r
      have W := Y.1.1
      have hnd := W.nd (k := 7 + i) (by omega)
      have R : RY (stp σ i) (LD τ (hM σ i) i) A := by
        refine h.dlv (σ1 := lrem σ (7 + i) (frc σ i)) W Y.1.2.2.2.1.le q4 hi q6 (fun z => ?_) (fun a j _ => lrem_I (by decide)) (fun k _ hk => lrem_k (by omega)) (fun k hk => lrem_Ln hk) rfl (fun a ha => ?_) ?_ ?_
        · subst z
          exact Y.1.2.2.2.2.1 hal _ q4 q6
        · rw [lrem_L1]; exact mem_er hnd hlt ha
        · rw [lrem_L1]; exact nd_erase hnd hlt
        · rw [lrem_L1]; exact List.eraseIdx_sublist ..
      obtain ⟨o3, o4, e3⟩ := com_yes (mm := mm) (o1 := o1) (o2 := o2) (M := M) (q := q) h hA (Y.fd hi hal) hi r
      have hal2 : ¬ (stp σ i).1 13 i 0 = 0 := by rw [g2.2.1 13 (by decide) (by decide) (by decide) (by decide) (by decide) (by decide)]; exact hal
      obtain ⟨υ, k1, k2, k3⟩ := ih (stp σ i) (LD τ (hM σ i) i) (q + 1) M o3 o4 (by rw [q2, List.length_eraseIdx, if_pos hlt]; omega) (by omega) g1 hal2 R
      refine ⟨υ, ?_, by rw [e2]; exact k2, LD_fl.tr k3⟩
      rw [e3, k1, e1, show q + 1 + hT (stp σ i) i = q + (hT (stp σ i) i + 1) by omega]
    · have hr : rdy σ i = false := by simpa using r
      obtain ⟨e1, e2⟩ := hT_0 hr
      rw [e1, e2]
      exact ⟨τ, com_no h hA (Y.fd hi hal) hi hr, h, Fl.rf⟩
/-- a copy waits -/
def S_wt (σ : Sg) (m i : Nat) : Sg := ladd (upI σ 27 m i 1) (7 + i) m
def LW (τ : Sg) (m i A : Nat) : Sg := upJ (upI (upI τ 50 0 m (stW (τ.1 50 0 m) (nI i) 1)) 54 0 7 (nI (A + 1))) 3 m (withJ (τ.2.2.2 3 m) (nI i) (nI (A + 1)))
theorem wt_k (h : k ≠ 27) (h' : k ≠ 30) : (S_wt σ m i).1 k = σ.1 k := by unfold S_wt; rw [ladd_k h', upI_k h]
theorem wt_27 : (S_wt σ m i).1 27 a j = if a = m ∧ j = i then 1 else σ.1 27 a j := by
  unfold S_wt
  rw [ladd_I (by decide), w_ui1]
  simp
theorem wt_L (h : k ≠ 7 + i) : (S_wt σ m i).2.1 k = σ.2.1 k := ladd_Ln h
theorem wt_H : (S_wt σ m i).2.1 (7 + i) = σ.2.1 (7 + i) ++ [m] := ladd_L1
theorem wt_n : (S_wt σ m i).2.2.1 0 = σ.2.2.1 0 := ladd_n
theorem LW_fl : Fl τ (LW τ m i A) := ((Fl.u (by decide)).tr (Fl.u (by decide))).tr Fl.J
theorem RY.wt (h : RY σ τ A) (W : WF σ) (hA : A + 1 < 4096) (hm : m < σ.2.2.1 0) (hi : i < 4) (hr : m ∉ σ.2.1 (3 + i)) (hh : m ∉ σ.2.1 (7 + i)) : RY (S_wt σ m i) (LW τ m i A) (A + 1) := by
  have hn := W.n
  have e50 : ∀ a, (LW τ m i A).1 50 0 a = if a = m then stW (τ.1 50 0 m) (nI i) 1 else τ.1 50 0 a := fun a => by simp [LW, upI, upJ]
  have e54 : ∀ j, (LW τ m i A).1 54 0 j = if j = 7 then nI (A + 1) else τ.1 54 0 j := fun j => by simp [LW, upI, upJ]
  have eI : ∀ k, k ≠ 50 → k ≠ 54 → (LW τ m i A).1 k = τ.1 k := fun k h1 h2 => by funext o j; simp [LW, upI, upJ, h1, h2]
  have eJ : ∀ k j, (LW τ m i A).2.2.2 k j = if k = 3 ∧ j = m then withJ (τ.2.2.2 3 m) (nI i) (nI (A + 1)) else τ.2.2.2 k j := fun k j => by simp [LW, upI, upJ]
  have ew : ∀ a j, a < 48 → j < 4 → atJ ((LW τ m i A).2.2.2 3 a) (nI j) = nI (if a = m ∧ j = i then A + 1 else wN τ a j) := fun a j ha hj => by
    rw [eJ]
    by_cases c : a = m
    · subst c
      rw [if_pos ⟨rfl, rfl⟩, at_with hi hj hA, h.wa ha hj]
      by_cases d : j = i
      · rw [if_pos d, if_pos ⟨rfl, d⟩]
      · rw [if_neg d, if_neg (fun q => d q.2)]
    · rw [if_neg (fun q => c q.2), if_neg (fun q => c q.1), h.wa ha hj]
  have eN : ∀ a j, a < 48 → j < 4 → wN (LW τ m i A) a j = if a = m ∧ j = i then A + 1 else wN τ a j := fun a j ha hj => by
    have := h.wA ha hj
    unfold wN
    rw [ew a j ha hj, cl_nI (by split <;> omega)]
    rfl
  have es : ∀ a, sdr (S_wt σ m i) a = sdr σ a := fun a => sdr_of (wt_k (by decide) (by decide))
  have ehs : ∀ a, a < σ.2.2.1 0 → hsl (S_wt σ m i) a = hsl σ a := fun a ha => by
    have := W.sn4 ha
    unfold hsl hst
    rw [es, wt_L (by omega), wt_k (by decide) (by decide)]
  have et : tk (S_wt σ m i) = tk σ := by unfold tk; rw [wt_k (by decide) (by decide)]
  have hel : ∀ j, j < 4 → ∀ a ∈ σ.2.1 (7 + j), a < σ.2.2.1 0 := fun j hj a ha => W.el (by omega) ha
  refine ⟨fun a j ha hj => ?_, fun a ha => ?_, fun a ha => ?_, fun j hj => ?_, fun j hj z z2 => ?_, fun j hj z => ?_, ?_, fun a ha k hk => ?_, fun j hj k hk => ?_, fun j hj k hk => ?_, fun a j ha hj => ?_, fun a j ha hj => ?_, fun a j ha hj => ?_, fun a j ha hj => ?_, fun j hj => ?_⟩
  · rw [wt_n] at ha
    rw [e50, wt_27]
    by_cases c : a = m
    · subst c
      rw [if_pos rfl, show (1 : Int32) = nI 1 from rfl, st_w hi hj (by decide), h.cp ha hj]
      by_cases d : j = i
      · rw [if_pos d, if_pos ⟨rfl, d⟩]
      · rw [if_neg d, if_neg (fun q => d q.2)]
    · rw [if_neg c, if_neg (fun q => c q.1)]
      exact h.cp ha hj
  · rw [wt_n] at ha
    rw [eI 51 (by decide) (by decide), wt_k (by decide) (by decide)]
    exact h.nu ha
  · rw [wt_n] at ha
    rw [eI 52 (by decide) (by decide), wt_k (by decide) (by decide)]
    exact h.ag ha
  · rw [eI 53 (by decide) (by decide), wt_k (by decide) (by decide)]
    exact h.gp hj
  · rw [et] at z2
    rw [wt_k (by decide) (by decide)] at z
    rw [eI 53 (by decide) (by decide), wt_k (by decide) (by decide)]
    exact h.kn hj z z2
  · rw [wt_k (by decide) (by decide)] at z
    rw [eI 53 (by decide) (by decide), wt_k (by decide) (by decide)]
    exact h.lo hj z
  · rw [wt_k (by decide) (by decide), wt_k (by decide) (by decide), wt_k (by decide) (by decide), wt_k (by decide) (by decide), wt_k (by decide) (by decide), wt_n, wt_L (by omega)]
    simp only [e54, show ¬ ((0 : Nat) = 7) by decide, show ¬ ((1 : Nat) = 7) by decide, show ¬ ((2 : Nat) = 7) by decide, show ¬ ((3 : Nat) = 7) by decide, show ¬ ((4 : Nat) = 7) by decide, show ¬ ((5 : Nat) = 7) by decide, show ¬ ((6 : Nat) = 7) by decide, if_false, if_true]
    exact ⟨h.g0, h.g1, h.g2, h.g3, h.g4, h.g5, h.g6, trivial⟩
  · rw [wt_n] at ha
    rw [eJ, if_neg (by omega), ehs a ha]
    exact h.hb ha hk
  · rw [eJ, if_neg (by omega), wt_L (by omega)]
    exact h.db hj hk
  · rw [eJ, if_neg (by omega), wt_n, es]
    exact h.sb hj hk
  · rw [wt_n] at ha
    rw [eJ, if_neg (by omega), wt_k (by decide) (by decide)]
    exact h.za ha hj
  · rw [wt_n] at ha
    rw [eJ, if_neg (by omega)]
    unfold pv
    rw [wt_k (by decide) (by decide)]
    exact h.pa ha hj
  · rw [ew a j ha hj, eN a j ha hj, wt_n]
    have := h.wA ha hj
    refine ⟨rfl, by split <;> omega, fun z => ?_⟩
    rw [if_neg (fun q => by omega)]
    exact h.w0 ha hj z
  · rw [wt_n] at ha
    rw [eN a j (by omega) hj, wt_L (k := 3 + j) (by omega)]
    by_cases c : j = i
    · subst c
      rw [wt_H]
      by_cases d : a = m
      · subst d
        simp [hr]
      · rw [if_neg (fun q => d q.1), List.mem_append, h.wm ha hj]
        simp [d]
    · rw [wt_L (by omega), if_neg (fun q => c q.2)]
      exact h.wm ha hj
  · by_cases c : j = i
    · subst c
      rw [wt_H, List.pairwise_append]
      refine ⟨(h.ws hj).imp_of_mem fun {a b} ha hb q => ?_, List.pairwise_singleton _ _, fun a ha b hb => ?_⟩
      · have h1 := hel j hj a ha
        have h2 := hel j hj b hb
        rw [eN a j (by omega) hj, eN b j (by omega) hj, if_neg (fun z : a = m ∧ j = j => hh (z.1 ▸ ha)), if_neg (fun z : b = m ∧ j = j => hh (z.1 ▸ hb))]
        exact q
      · have h1 := hel j hj a ha
        simp only [List.mem_singleton] at hb
        subst hb
        rw [eN a j (by omega) hj, eN b j (by omega) hj, if_neg (fun z : a = b ∧ j = j => hh (z.1 ▸ ha)), if_pos ⟨rfl, rfl⟩]
        have := h.wA (m := a) (by omega) hj
        omega
    · rw [wt_L (by omega)]
      refine (h.ws hj).imp_of_mem fun {a b} ha hb q => ?_
      have h1 := hel j hj a ha
      have h2 := hel j hj b hb
      rw [eN a j (by omega) hj, eN b j (by omega) hj, if_neg (fun z => c z.2), if_neg (fun z => c z.2)]
      exact q
theorem wt_fd (Y : CY f σ) (hm : m < σ.2.2.1 0) (hi : i < 4) (hal : ¬ σ.1 13 i 0 = 0) (hr : m ∉ σ.2.1 (3 + i)) (hh : m ∉ σ.2.1 (7 + i)) : FD (S_wt σ m i) i := by
  obtain ⟨W, C, D, S⟩ := Y.fd hi hal
  refine ⟨(W.u (by decide)).add (by omega) (by omega) hm hh, C.of (wt_k (by decide) (by decide)) (wt_k (by decide) (by decide)) (wt_k (by decide) (by decide)) (wt_k (by decide) (by decide)) (fun b hb => wt_L (by omega)) wt_n W, fun a ha => ?_, fun a ha => ?_⟩
  · rw [wt_H] at ha
    rw [wt_L (by omega)]
    rcases List.mem_append.mp ha with q | q
    · exact D a q
    · simp only [List.mem_singleton] at q
      rw [q]
      exact hr
  · rw [wt_n] at ha
    rw [wt_27, wt_H, List.mem_append]
    by_cases c : a = m
    · simp [c]
    · rw [if_neg (fun q => c q.1), S a ha]
      simp [c]
/-- the law lets a copy come in -/
theorem e_com (h : RY σ τ A) (hA : A + 1 < 4096) (Y : CY f σ) (hi : i < 4) (hal : ¬ σ.1 13 i 0 = 0) (hm : m < σ.2.2.1 0) (hc : σ.1 27 m i = 0 ∨ σ.1 27 m i = 3) (hq : rdy σ i = false) : ∃ υ, f_L_comes [ar (12, 0), ar (14, 0), ar (14, 1), ar (14, 2), ar (14, 3), ar (12, 1), ar (12, 4), ai (nI m), ai (nI i)] τ = some (.inl (some (ai (nI (r_tI σ m i)))), υ) ∧ RY (S_tI σ m i) υ (A + 1) ∧ Fl τ υ := by
  have hx := Y.2.2.2.2 i hi hal m hm
  have hx2 : σ.1 25 m 0 = 0 ∧ m ∉ σ.2.1 (3 + i) ∧ m ∉ σ.2.1 (7 + i) := by
    rcases hx with q | q | q | q
    · exact ⟨q.1, q.2.2.1, q.2.2.2⟩
    · rw [q.2.1] at hc; rcases hc with z | z <;> exact absurd z (by decide)
    · rw [q.2.1] at hc; rcases hc with z | z <;> exact absurd z (by decide)
    · rw [q.2.1] at hc; rcases hc with z | z <;> exact absurd z (by decide)
  obtain ⟨x1, x2, x3⟩ := hx2
  have W := Y.1.1
  have hn := W.n
  have R := h.wt W hA hm hi x2 x3
  have F := wt_fd Y hm hi hal x2 x3
  have hcan : ∀ a, canB (S_wt σ m i) a i = canB σ a i := fun a => canB_of (wt_k (by decide) (by decide)) (wt_k (by decide) (by decide)) (wt_k (by decide) (by decide))
  have pre : ∀ r, sWh (fun _ σ => some (true, σ)) (sSeq (sSet 10 (xI (-1))) (sSeq (sSeq (sSet 11 (xI 0)) (sWh (cCmp (bop 0) (xL 11) (xAld false (xLR 6) (xI 0))) (sSeq (sIf (cAnd (cAnd (cCmp (bop 4) (xCI (xS f_L_state (aR (xLR 0) (aI (xL 11) (aI (xL 8) aNil))))) (xI 1)) (cZ (fun x => bop 4 x 0) (xBC (xBJ (· &&& ·) (xAldJ (xLR 1) (xL 11)) (xBJ (· ^^^ ·) (xAldJ (xLR 2) (xL 8)) (xJ (-1)))) (xJ 0)))) (cOr (cZ (fun x => bop 0 x 0) (xL 10)) (cCmp (bop 0) (xCI (xS f_L_at (aJ (xAldJ (xLR 4) (xL 11)) (aI (xL 8) aNil)))) (xCI (xS f_L_at (aJ (xAldJ (xLR 4) (xL 10)) (aI (xL 8) aNil))))))) (sSet 10 (xL 11)) sSkip) (sInc 11 1)) 1000)) (sSeq (sIf (cZ (fun x => bop 0 x 0) (xL 10)) (sRet false (xL 9)) sSkip) (sSeq (sCV (xS f_L_delivers (aR (xLR 0) (aR (xLR 2) (aR (xLR 3) (aR (xLR 5) (aR (xLR 6) (aI (xL 10) (aI (xL 8) aNil))))))))) (sInc 9 1))))) 1000 [some (ar (12, 0)), some (ar (14, 0)), some (ar (14, 1)), some (ar (14, 2)), some (ar (14, 3)), some (ar (12, 1)), some (ar (12, 4)), some (ai (nI m)), some (ai (nI i)), some (ai 0), none, none] (LW τ m i A) = some (.inr r) → f_L_comes [ar (12, 0), ar (14, 0), ar (14, 1), ar (14, 2), ar (14, 3), ar (12, 1), ar (12, 4), ai (nI m), ai (nI i)] τ = some r := fun r hr => by
    have e7 : upJ (upI (upI τ 50 0 m (stW (τ.1 50 0 m) (nI i) 1)) 54 0 7 (nI (A + 1))) 3 m (withJ (τ.2.2.2 3 m) (nI i) (nI (A + 1))) = LW τ m i A := rfl
    simp (disch := first | omega | (simp only [w_ui2, w_ul3, w_uj3, ladd_n, lrem_N, grw_n, ladd_Ln, lrem_Ln, grw_L, List.length_range, fil_2, aO_2, pr_n, gN_n, d1_n, dl_n, fil_2, tO_2, tO_Ln, tI_n, stp_n]; omega)) only [w_I, w_L, w_L1, w_LR, w_LR1, w_LN, w_LN1, w_LN2, w_null, w_N, w_N1, w_B, w_B1, w_B2, w_GI, w_GI1, w_GR, w_GR1, w_A, w_A1, w_A2, w_A3, w_rd3, w_wr3, w_rd7, w_wr7, w_rd8, w_wr8, w_rd9, w_wr9, w_rd10, w_wr10, w_rm0, w_wm0, w_rm1, w_wm1, w_rm2, w_wm2, w_rm3, w_wm3, w_rm4, w_wm4, w_v0, w_v1, w_v2, w_v3, w_v4, w_v6, w_v7, w_v8, w_v9, w_v10, inB_t, cl_nI, w_ui1, w_ui2, w_ul1, w_ul3, w_lsz, w_lget, w_ladd, w_lrem, sl_ladd, sl_lrem, sl_grw, n_eq, n_lt, n_le, n_add, n_ad1, n_lt4, n_neg, n_lt0, n_ge0, w_M, w_M1, w_M2, w_T, w_T1, w_C, w_C1, w_Z, w_and, w_and1, w_or, w_or1, w_not, w_not1, w_tn, w_tn1, w_E, w_E1, w_E2, w_nl, w_nl1, w_nl2, w_C2_0, w_Z1_0, w_C2_1, w_Z1_1, w_C2_2, w_Z1_2, w_C2_3, w_Z1_3, w_C2_4, w_Z1_4, w_C2_5, w_Z1_5, w_seq, w_seq1, w_seq2, w_seq3, w_if, w_if1, w_skip, w_set, w_set1, w_setR, w_setR1, w_setN, w_setN1, w_setN2, w_inc, w_inc1, w_put, w_put1, w_put2, w_put3, w_wf0, w_wf1, w_po, w_po1, w_po2, w_ast, w_ast1, w_ast2, w_ast3, w_aop, w_aop1, w_aop2, w_aop3, w_aop4, w_ret, w_ret0, w_ret1, w_retN, w_retN1, w_retN2, w_retV, w_throw, w_aN, w_aI, w_aI1, w_aI2, w_aR, w_aR1, w_ask, w_ask1, w_V, w_V1, w_V2, w_S, w_S1, w_CI, w_CI1, w_CR, w_CR1, w_CN, w_CN1, w_CN2, w_CV, w_CV1, w_CV2, w_pop, w_pop1, w_popR, w_popR1, w_cast, w_cast1, w_run, lc_0, lc_I, lc_R, lc_N, lc_J, w_run1, w_run2, ite_s1, ite_01, ite_10, ite_nz, i_10, i_01, i_20, i_02, i_21, i_12, i_30, i_03, i_40, i_04, il_00, il_10, il_20, il_01, il_02, sl_r, sl_I, sl_L, w_J, w_LJ, w_LJ1, w_BJ, w_BJ1, w_BJ2, w_Sh, w_Sh1, w_Sh2, w_BC, w_BC1, w_BC2, w_IL, w_IL1, w_LI, w_LI1, w_Rm, w_Rm1, w_Rm2, w_AJ, w_AJ1, w_AJ2, w_AJ3, w_rj0, w_wj0, w_rj1, w_wj1, w_rj2, w_wj2, w_rj3, w_wj3, w_rj4, w_wj4, w_uj1, w_uj2, w_uj3, w_uj4, sl_J, w_setJ, w_setJ1, w_aJs, w_aJs1, w_aJs2, w_aJs3, w_jop, w_jop1, w_jop2, w_jop3, w_jop4, w_retJ, w_retJ1, w_aJ, w_aJ1, w_CJ, w_CJ1, List.getElem?_cons_zero, List.getElem?_cons_succ, List.set_cons_zero, List.set_cons_succ, List.map_cons, List.map_nil, List.length_cons, List.length_nil, List.cons_append, List.nil_append, List.append_nil, List.replicate_succ, List.replicate_zero, Nat.reduceSub, Nat.reduceAdd, Nat.reduceEqDiff, if_true, if_false, true_and, and_true, reduceCtorEq, ite_true, ite_false, Bool.false_eq_true, Nat.zero_add, Nat.add_zero, Nat.sub_self, Nat.reduceLT, decide_eq_true_eq, Bool.not_eq_true, not_true_eq_false, not_false_eq_true, decide_true, decide_false, decide_not, Bool.decide_eq_true, and_self, or_self, or_true, true_or, or_false, false_or, false_and, and_false, ne_eq, Bool.not_not, Bool.not_eq_eq_eq_not, Nat.reduceEqDiff, Nat.reduceLeDiff, Bool.not_true, Bool.not_false, eq_self, ladd_I, ladd_L1, ladd_Ln, ladd_n, ladd_J, lrem_I, lrem_L1, lrem_Ln, lrem_N, grw_I, grw_L, grw_n, grw_J, sdr_u, tk_u, sdr_a, tk_a, sdr_r, tk_r, rg_get, List.length_range, fil_2, fil_I, sdr_f, tk_f, sl_fil, aO_2, pr_n, aO_I, aO_L, sl_aO, pr_I, pr_L, sl_pr, gN_n, d1_n, dl_n, gN_I, gN_L, sl_gN, d1_I, d1_L, d1_L1, sl_d1, dl_I, dl_L, dl_L1, sl_dl, sdr_dl, tk_dl, sl_dH, fil_2, sl_gT, sl_tI, tO_2, tO_Ln, tO_I, sl_tO, tI_n, stp_n, sl_lO, sl_dp, sl_cV, sl_rst, ib_0_8, ib_0_12, ib_0_48, cl_0, ib_1_8, ib_1_12, ib_1_48, cl_1, ib_2_8, ib_2_12, ib_2_48, cl_2, ib_3_8, ib_3_12, ib_3_48, cl_3, ib_4_8, ib_4_12, ib_4_48, cl_4, ib_5_8, ib_5_12, ib_5_48, cl_5, ib_6_8, ib_6_12, ib_6_48, cl_6, ib_7_8, ib_7_12, ib_7_48, cl_7, ib_8_12, ib_8_48, cl_8, ib_9_12, ib_9_48, cl_9, ib_10_12, ib_10_48, cl_10, ib_11_12, ib_11_48, cl_11, n_p4, n_p8, e_at, e_with, e_state, e_becomes, e_has, e_many, cmp_e, il_m1, f_L_comes, b_L_comes, h.g7, e7, hr, show ¬ ((54 : Nat) = 50) by decide, show ¬ ((50 : Nat) = 54) by decide]
  rw [show (0 : Int32) = nI 0 from nI_0.symm] at pre
  have hnd := W.nd (k := 7 + i) (by omega)
  unfold S_tI r_tI
  by_cases c : canB σ m i = true
  · rw [if_pos c, if_pos c]
    have hr : rdy (S_wt σ m i) i = true ∧ hM (S_wt σ m i) i = m := by
      have hl : frc (S_wt σ m i) i = (σ.2.1 (7 + i)).length := by
        unfold frc
        rw [wt_H, List.length_append]
        apply Nat.le_antisymm
        · refine fI_ex (by simp) ?_
          unfold frP
          rw [wt_H, hcan]
          simp [List.getD_eq_getElem?_getD, c]
        · rcases Nat.lt_or_ge (fI (frP (S_wt σ m i) i) ((σ.2.1 (7 + i)).length + [m].length)) (σ.2.1 (7 + i)).length with q | q
          · have hv := fI_at (P := frP (S_wt σ m i) i) (n := (σ.2.1 (7 + i)).length + [m].length) (by omega)
            generalize fI (frP (S_wt σ m i) i) ((σ.2.1 (7 + i)).length + [m].length) = v at q hv ⊢
            have e : frP (S_wt σ m i) i v = canB σ ((σ.2.1 (7 + i)).getD v 0) i := by
              unfold frP
              rw [wt_H, hcan, List.getD_eq_getElem?_getD, List.getElem?_append_left q, ← List.getD_eq_getElem?_getD]
            rw [e, rdyF.mp hq _ (getD_mem q)] at hv
            cases hv
          · exact q
      refine ⟨?_, ?_⟩
      · unfold rdy
        rw [hl, wt_H]
        simp
      · unfold hM
        rw [hl, wt_H]
        simp [List.getD_eq_getElem?_getD]
    obtain ⟨o3, o4, e3⟩ := com_yes (mm := nI m) (o1 := none) (o2 := none) (M := 999) (q := 0) R hA F hi hr.1
    rw [hr.2] at e3
    have Y1 := dlX Y.1 Y.2.1 Y.2.2.1 Y.2.2.2.1 (fun b hb z a ha _ => Y.2.2.2.2 b hb z a ha) hm hi x2 x3 x1 c
    have hal2 : ¬ (S_dl σ m i).1 13 i 0 = 0 := by rw [dl_I (by decide) (by decide) (by decide) (by decide) (by decide) (by decide)]; exact hal
    have R2 : RY (S_dl σ m i) (LD (LW τ m i A) m i) (A + 1) := by
      refine R.dlv (σ1 := σ) F.1 F.2.1.le (by rw [wt_n]; exact hm) hi (by rw [wt_L (by omega)]; exact x2) (fun z => ?_) (fun a j z => ?_) (fun k h1 h2 => (wt_k h1 (by omega)).symm) (fun k hk => (wt_L hk).symm) wt_n.symm (fun a ha => ?_) x3 ?_
      · have z' : i = tk σ := by
          rw [z]
          unfold tk
          rw [wt_k (by decide) (by decide)]
        rw [wt_k (by decide) (by decide)]
        subst z'
        exact Y.1.2.2.2.2.1 hal m hm x2
      · rw [wt_27, if_neg z]
      · rw [wt_H, List.mem_append]; simp [ha]
      · rw [wt_H]; exact List.sublist_append_left _ _
    have hl9 := W.len (k := 7 + i) (by omega)
    obtain ⟨υ, k1, k2, k3⟩ := com_loop (mm := nI m) hA hi _ (S_dl σ m i) (LD (LW τ m i A) m i) 1 999 o3 o4 rfl (by rw [dl_L (by omega) (by omega)]; omega) Y1 hal2 R2
    exact ⟨υ, pre _ (e3.trans k1), k2, LW_fl.tr (LD_fl.tr k3)⟩
  · rw [if_neg c, if_neg c]
    have hr : rdy (S_wt σ m i) i = false := by
      rw [rdyF] at hq ⊢
      rw [wt_H]
      intro a ha
      rw [hcan]
      rcases List.mem_append.mp ha with q | q
      · exact hq a q
      · simp only [List.mem_singleton] at q
        subst q
        simpa using c
    exact ⟨LW τ m i A, pre _ (com_no R hA F hi hr), R, LW_fl⟩
end COM
