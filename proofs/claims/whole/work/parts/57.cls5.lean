/-! pure: the class's methods: what is held is delivered -/
/-- what has no number isn't in the numbered order -/
def NU (σ : Sg) : Prop := ∀ m, m < σ.2.2.1 0 → σ.1 23 m 0 = -1 → m ∉ σ.2.1 1
section C5
variable {σ : Sg} {m i k o j n k2 o2 j2 : Nat} {x y : Int32}
theorem NU.of {τ : Sg} (h : NU σ) (hn : τ.2.2.1 0 = σ.2.2.1 0) (hI : ∀ m, τ.1 23 m 0 = σ.1 23 m 0) (hL : τ.2.1 1 = σ.2.1 1) : NU τ := fun m hm hq => by
  rw [hL]
  exact h m (by rwa [hn] at hm) (by rwa [hI] at hq)
theorem NU.gN (h : NU σ) (W : WF σ) : NU (S_gN σ m) := by
  intro a ha hq
  rw [gN_n] at ha
  unfold S_gN at hq ⊢
  split
  · rename_i h1
    rw [if_pos h1, ladd_I (by decide), w_ui1] at hq
    have hl := W.len (k := 1) (by decide)
    by_cases e : a = m
    · rw [if_pos ⟨rfl, e, rfl⟩] at hq
      rw [n_neg (by omega)] at hq
      exact hq.elim
    · rw [if_neg (fun q => e q.2.1)] at hq
      rw [ladd_L1]
      intro hm
      rcases List.mem_append.mp hm with q | q
      · exact h a ha hq q
      · simp at q
        exact e q
  · rename_i h1
    rw [if_neg h1] at hq
    exact h a ha hq
theorem NU.dl (h : NU σ) (W : WF σ) (hm : m < σ.2.2.1 0) (hi : i < 4) (hn : m ∉ σ.2.1 (3 + i)) : NU (S_dl σ m i) := by
  have W1 := W.d1 hm hi hn
  have h1 : NU (S_d1 σ m i) := h.of d1_n (fun a => d1_I (by decide) (by decide) (by decide) (by decide)) (d1_L (by omega))
  unfold S_dl
  split
  · exact (h1.gN W1).of rfl (fun a => upI_n (by decide)) rfl
  · exact h1
def hM (σ : Sg) (i : Nat) : Nat := (σ.2.1 (7 + i)).getD (frc σ i) 0
def stp (σ : Sg) (i : Nat) : Sg := S_dl (lrem σ (7 + i) (frc σ i)) (hM σ i) i
def itr (i : Nat) : Nat → Sg → Sg
  | 0, σ => σ
  | t + 1, σ => stp (itr i t σ) i
def rdy (σ : Sg) (i : Nat) : Bool := decide (frc σ i < (σ.2.1 (7 + i)).length)
def hT (σ : Sg) (i : Nat) : Nat := fI (fun t => !rdy (itr i t σ) i) (σ.2.1 (7 + i)).length
def S_dH (σ : Sg) (i : Nat) : Sg := itr i (hT σ i) σ
/-- what a delivery of the held ones may take as given -/
def PH (σ : Sg) (i : Nat) : Prop := WF σ ∧ NU σ ∧ ∀ m ∈ σ.2.1 (7 + i), m ∉ σ.2.1 (3 + i)
theorem getD_mem {l : List Nat} {j : Nat} (h : j < l.length) : l.getD j 0 ∈ l := by
  rw [List.getD_eq_getElem?_getD, List.getElem?_eq_getElem h]
  exact List.getElem_mem h
theorem nd_erase {l : List Nat} {j : Nat} (hl : l.Nodup) (h : j < l.length) : l.getD j 0 ∉ l.eraseIdx j := by
  rw [List.getD_eq_getElem?_getD, List.getElem?_eq_getElem h]
  show l[j] ∉ _
  intro hm
  rw [List.mem_eraseIdx_iff_getElem] at hm
  obtain ⟨a, ha, hne, e⟩ := hm
  exact hne ((List.getElem_inj hl).mp e)
theorem stp_ok (P : PH σ i) (hi : i < 4) (h : rdy σ i = true) : PH (stp σ i) i ∧ (stp σ i).2.1 (7 + i) = (σ.2.1 (7 + i)).eraseIdx (frc σ i) ∧ (stp σ i).2.1 (3 + i) = σ.2.1 (3 + i) ++ [hM σ i] ∧ hM σ i < σ.2.2.1 0 ∧ hM σ i ∈ σ.2.1 (7 + i) ∧ hM σ i ∉ σ.2.1 (3 + i) ∧ (stp σ i).2.2.1 0 = σ.2.2.1 0 := by
  obtain ⟨W, N, D⟩ := P
  have hlt : frc σ i < (σ.2.1 (7 + i)).length := of_decide_eq_true h
  have hmm : hM σ i ∈ σ.2.1 (7 + i) := getD_mem hlt
  have hm : hM σ i < σ.2.2.1 0 := W.el (by omega) hmm
  have hr := D _ hmm
  have Wr : WF (lrem σ (7 + i) (frc σ i)) := W.rem (by omega)
  have Nr : NU (lrem σ (7 + i) (frc σ i)) := N.of rfl (fun a => lrem_I (by decide)) (lrem_Ln (by omega))
  have er : (lrem σ (7 + i) (frc σ i)).2.1 (3 + i) = σ.2.1 (3 + i) := lrem_Ln (by omega)
  have hm' : hM σ i < (lrem σ (7 + i) (frc σ i)).2.2.1 0 := hm
  have hr' : hM σ i ∉ (lrem σ (7 + i) (frc σ i)).2.1 (3 + i) := by rw [er]; exact hr
  have e7 : (stp σ i).2.1 (7 + i) = (σ.2.1 (7 + i)).eraseIdx (frc σ i) := by
    unfold stp
    rw [dl_L (by omega) (by omega), lrem_L1]
  have e3 : (stp σ i).2.1 (3 + i) = σ.2.1 (3 + i) ++ [hM σ i] := by
    unfold stp
    rw [dl_L1, er]
  refine ⟨⟨Wr.dl hm' hi hr' (fun _ => Nr _ hm'), Nr.dl Wr hm' hi hr', ?_⟩, e7, e3, hm, hmm, hr, ?_⟩
  · rw [e7, e3]
    intro a ha hb
    rcases List.mem_append.mp hb with q | q
    · exact D a (List.mem_of_mem_eraseIdx ha) q
    · simp at q
      subst q
      exact nd_erase (W.nd (by omega)) hlt ha
  · unfold stp
    rw [dl_n]
    rfl
theorem itr_ok (P : PH σ i) (hi : i < 4) : ∀ t, (∀ s, s < t → rdy (itr i s σ) i = true) → PH (itr i t σ) i ∧ ((itr i t σ).2.1 (7 + i)).length + t = (σ.2.1 (7 + i)).length ∧ (itr i t σ).2.2.1 0 = σ.2.2.1 0 := by
  intro t
  induction t with
  | zero => intro _; exact ⟨P, rfl, rfl⟩
  | succ t ih =>
    intro h
    obtain ⟨p1, p2, p3⟩ := ih (fun s hs => h s (by omega))
    have hr := h t (by omega)
    obtain ⟨q1, q2, q3, q4, q5, q6, q7⟩ := stp_ok p1 hi hr
    have hlt : frc (itr i t σ) i < ((itr i t σ).2.1 (7 + i)).length := of_decide_eq_true hr
    refine ⟨q1, ?_, q7.trans p3⟩
    show ((stp (itr i t σ) i).2.1 (7 + i)).length + (t + 1) = _
    rw [q2, List.length_eraseIdx_of_lt hlt]
    omega
theorem hT_le : hT σ i ≤ (σ.2.1 (7 + i)).length := fI_le _ _
theorem hT_rdy {s : Nat} (h : s < hT σ i) : rdy (itr i s σ) i = true := by
  have := fI_lt (P := fun t => !rdy (itr i t σ) i) h
  simpa using this
theorem dH_ok (P : PH σ i) (hi : i < 4) : PH (S_dH σ i) i ∧ (S_dH σ i).2.2.1 0 = σ.2.2.1 0 := by
  obtain ⟨h1, h2, h3⟩ := itr_ok P hi (hT σ i) (fun s hs => hT_rdy hs)
  exact ⟨h1, h3⟩
/-- behind it nothing that is held can be received -/
theorem dH_end (P : PH σ i) (hi : i < 4) : rdy (S_dH σ i) i = false := by
  obtain ⟨h1, h2, h3⟩ := itr_ok P hi (hT σ i) (fun s hs => hT_rdy hs)
  by_cases h : hT σ i < (σ.2.1 (7 + i)).length
  · have := fI_at (P := fun t => !rdy (itr i t σ) i) h
    have h' : (!rdy (S_dH σ i) i) = true := this
    simpa using h'
  · have := hT_le (σ := σ) (i := i)
    have h0 : ((itr i (hT σ i) σ).2.1 (7 + i)).length = 0 := by omega
    unfold rdy S_dH
    rw [h0]
    simp
theorem sl_stp : sleB σ (stp σ i) = true := sl_trans (b := lrem σ (7 + i) (frc σ i)) sl_lrem sl_dl
theorem sl_itr : ∀ t, sleB σ (itr i t σ) = true := by
  intro t
  induction t with
  | zero => exact sleB_refl σ
  | succ t ih => exact sl_trans ih sl_stp
theorem sl_dH : sleB σ (S_dH σ i) = true := sl_itr _
theorem ev_dH (P : PH σ i) (hi : i < 4) : f_X2_deliverHeld [ar (0, 0), ar (2, i)] σ = some (.inl (some (ai (nI (hT σ i)))), S_dH σ i) := by
  have hL := P.1.len (k := 7 + i) (by omega)
  have hTl := hT_le (σ := σ) (i := i)
  have body : ∀ t, t < hT σ i → ∀ z : Option AV, ((sSeq (sSeq (sSet 4 (xCI (xV 2 f_X0_firstReceivable (xLR 1) aNil))) (sSeq (sIf (cCmp (bop 4) (xL 4) (xI (-1))) (sRet false (xL 3)) sSkip) (sCV (xV 0 f_X2_deliver (xLR 0) (aR (xCast 6 (xCR (xV 4 f_lremove (xGR 2 (fun i => (4, 7 + i)) (xLR 1)) (aI (xL 4) aNil)))) (aR (xLR 1) aNil)))))) (sInc 3 1)) : Sx) [some (ar (0, 0)), some (ar (2, i)), some (ai (nI (σ.2.1 (7 + i)).length)), some (ai (nI t)), z] (itr i t σ) = some (.inl ([some (ar (0, 0)), some (ar (2, i)), some (ai (nI (σ.2.1 (7 + i)).length)), some (ai (nI (t + 1))), some (ai (nI (frc (itr i t σ) i)))], itr i (t + 1) σ)) := by
    intro t ht z
    obtain ⟨p1, p2, p3⟩ := itr_ok P hi t (fun s hs => hT_rdy (by omega))
    have hr := hT_rdy ht
    obtain ⟨q1, q2, q3, q4, q5, q6, q7⟩ := stp_ok p1 hi hr
    have hlt : frc (itr i t σ) i < ((itr i t σ).2.1 (7 + i)).length := of_decide_eq_true hr
    have e1 := ev_fr p1.1 hi
    rw [if_pos hlt] at e1
    have c1 := p1.1.cap (k := 7 + i) (by omega)
    have e2 := ev_dl (σ := lrem (itr i t σ) (7 + i) (frc (itr i t σ) i)) (m := hM (itr i t σ) i) (i := i) (p1.1.rem (by omega)) q4 hi (by rw [lrem_Ln (by omega)]; exact q6)
    have s2 := sl_dl (σ := lrem (itr i t σ) (7 + i) (frc (itr i t σ) i)) (m := hM (itr i t σ) i) (i := i)
    have e3 : itr i (t + 1) σ = S_dl (lrem (itr i t σ) (7 + i) (frc (itr i t σ) i)) (hM (itr i t σ) i) i := rfl
    have e4 : ((itr i t σ).2.1 (7 + i)).getD (frc (itr i t σ) i) 0 = hM (itr i t σ) i := rfl
    rw [e3]
    simp (disch := first | omega | (simp only [w_ui2, w_ul3, ladd_n, lrem_N, grw_n, ladd_Ln, lrem_Ln, grw_L, List.length_range, fil_2, aO_2, pr_n, gN_n, d1_n, dl_n]; omega)) only [w_I, w_L, w_L1, w_LR, w_LR1, w_LN, w_LN1, w_LN2, w_null, w_N, w_N1, w_B, w_B1, w_B2, w_GI, w_GI1, w_GR, w_GR1, w_A, w_A1, w_A2, w_A3, w_rd3, w_wr3, w_rd7, w_wr7, w_rd8, w_wr8, w_rd9, w_wr9, w_rd10, w_wr10, w_rm0, w_wm0, w_rm1, w_wm1, w_rm2, w_wm2, w_rm3, w_wm3, w_rm4, w_wm4, w_rm5, w_wm5, w_rm6, w_wm6, w_rm7, w_wm7, w_rm8, w_wm8, w_rm9, w_wm9, w_rm10, w_wm10, w_rm11, w_wm11, w_rm12, w_wm12, w_rm13, w_wm13, w_rm14, w_wm14, w_rm15, w_wm15, w_rm16, w_wm16, w_v0, w_v1, w_v11, w_v14, w_v2, w_v3, w_v4, w_v6, w_v7, w_v8, w_v9, w_v10, inB_t, cl_nI, w_ui1, w_ui2, w_ul1, w_ul3, w_lsz, w_lget, w_ladd, w_lrem, sl_ladd, sl_lrem, sl_grw, n_eq, n_lt, n_le, n_add, n_ad1, n_lt4, n_neg, n_lt0, n_ge0, w_M, w_M1, w_M2, w_T, w_T1, w_C, w_C1, w_Z, w_and, w_and1, w_or, w_or1, w_not, w_not1, w_tn, w_tn1, w_E, w_E1, w_E2, w_nl, w_nl1, w_nl2, w_C2_0, w_Z1_0, w_C2_1, w_Z1_1, w_C2_2, w_Z1_2, w_C2_3, w_Z1_3, w_C2_4, w_Z1_4, w_C2_5, w_Z1_5, w_seq, w_seq1, w_seq2, w_seq3, w_if, w_if1, w_skip, w_set, w_set1, w_setR, w_setR1, w_setN, w_setN1, w_setN2, w_inc, w_inc1, w_put, w_put1, w_put2, w_put3, w_wf0, w_wf1, w_po, w_po1, w_po2, w_ast, w_ast1, w_ast2, w_ast3, w_aop, w_aop1, w_aop2, w_aop3, w_aop4, w_ret, w_ret0, w_ret1, w_retN, w_retN1, w_retN2, w_retV, w_throw, w_aN, w_aI, w_aI1, w_aI2, w_aR, w_aR1, w_ask, w_ask1, w_V, w_V1, w_V2, w_S, w_S1, w_CI, w_CI1, w_CR, w_CR1, w_CN, w_CN1, w_CN2, w_CV, w_CV1, w_CV2, w_pop, w_pop1, w_popR, w_popR1, w_cast, w_cast1, w_run, w_run1, w_run2, ite_s1, ite_01, ite_10, ite_nz, i_10, i_01, i_20, i_02, i_21, i_12, i_30, i_03, i_40, i_04, il_00, il_10, il_20, il_01, il_02, sl_r, sl_I, sl_L, List.getElem?_cons_zero, List.getElem?_cons_succ, List.set_cons_zero, List.set_cons_succ, List.map_cons, List.map_nil, List.length_cons, List.length_nil, List.cons_append, List.nil_append, List.append_nil, List.replicate_succ, List.replicate_zero, Nat.reduceSub, Nat.reduceAdd, Nat.reduceEqDiff, if_true, if_false, true_and, and_true, reduceCtorEq, ite_true, ite_false, Bool.false_eq_true, Nat.zero_add, Nat.add_zero, Nat.sub_self, Nat.reduceLT, decide_eq_true_eq, Bool.not_eq_true, not_true_eq_false, not_false_eq_true, decide_true, decide_false, decide_not, Bool.decide_eq_true, and_self, or_self, or_true, true_or, or_false, false_or, false_and, and_false, ne_eq, Bool.not_not, Bool.not_eq_eq_eq_not, Nat.reduceEqDiff, Nat.reduceLeDiff, Bool.not_true, Bool.not_false, eq_self, ladd_I, ladd_L1, ladd_Ln, ladd_n, ladd_J, lrem_I, lrem_L1, lrem_Ln, lrem_N, grw_I, grw_L, grw_n, grw_J, sdr_u, tk_u, sdr_a, tk_a, sdr_r, tk_r, rg_get, List.length_range, fil_2, fil_I, sdr_f, tk_f, sl_fil, aO_2, pr_n, aO_I, aO_L, sl_aO, pr_I, pr_L, sl_pr, gN_n, d1_n, dl_n, gN_I, gN_L, sl_gN, d1_I, d1_L, d1_L1, sl_d1, dl_I, dl_L, dl_L1, sl_dl, sdr_dl, tk_dl, e1, e4, e2, s2]
  by_cases h : hT σ i < (σ.2.1 (7 + i)).length
  · have p := itr_ok P hi (hT σ i) (fun s hs => hT_rdy hs)
    have hd := dH_end P hi
    have hnl : ¬ frc (itr i (hT σ i) σ) i < ((itr i (hT σ i) σ).2.1 (7 + i)).length := of_decide_eq_false hd
    have e1 := ev_fr p.1.1 hi
    rw [if_neg hnl] at e1
    have hl := wh_exit (N := 1000) (c := (cCmp (bop 0) (xL 3) (xL 2))) (b := (sSeq (sSeq (sSet 4 (xCI (xV 2 f_X0_firstReceivable (xLR 1) aNil))) (sSeq (sIf (cCmp (bop 4) (xL 4) (xI (-1))) (sRet false (xL 3)) sSkip) (sCV (xV 0 f_X2_deliver (xLR 0) (aR (xCast 6 (xCR (xV 4 f_lremove (xGR 2 (fun i => (4, 7 + i)) (xLR 1)) (aI (xL 4) aNil)))) (aR (xLR 1) aNil)))))) (sInc 3 1))) (r := (.inl (some (ai (nI (hT σ i)))), S_dH σ i)) (fun t => ([some (ar (0, 0)), some (ar (2, i)), some (ai (nI (σ.2.1 (7 + i)).length)), some (ai (nI t)), if t = 0 then none else some (ai (nI (frc (itr i (t - 1) σ) i)))], itr i t σ)) (hT σ i) (by omega) (fun t ht => by simp (disch := first | omega | (simp only [w_ui2, w_ul3, ladd_n, lrem_N, grw_n, ladd_Ln, lrem_Ln, grw_L, List.length_range, fil_2, aO_2, pr_n, gN_n, d1_n, dl_n]; omega)) only [w_I, w_L, w_L1, w_LR, w_LR1, w_LN, w_LN1, w_LN2, w_null, w_N, w_N1, w_B, w_B1, w_B2, w_GI, w_GI1, w_GR, w_GR1, w_A, w_A1, w_A2, w_A3, w_rd3, w_wr3, w_rd7, w_wr7, w_rd8, w_wr8, w_rd9, w_wr9, w_rd10, w_wr10, w_rm0, w_wm0, w_rm1, w_wm1, w_rm2, w_wm2, w_rm3, w_wm3, w_rm4, w_wm4, w_rm5, w_wm5, w_rm6, w_wm6, w_rm7, w_wm7, w_rm8, w_wm8, w_rm9, w_wm9, w_rm10, w_wm10, w_rm11, w_wm11, w_rm12, w_wm12, w_rm13, w_wm13, w_rm14, w_wm14, w_rm15, w_wm15, w_rm16, w_wm16, w_v0, w_v1, w_v11, w_v14, w_v2, w_v3, w_v4, w_v6, w_v7, w_v8, w_v9, w_v10, inB_t, cl_nI, w_ui1, w_ui2, w_ul1, w_ul3, w_lsz, w_lget, w_ladd, w_lrem, sl_ladd, sl_lrem, sl_grw, n_eq, n_lt, n_le, n_add, n_ad1, n_lt4, n_neg, n_lt0, n_ge0, w_M, w_M1, w_M2, w_T, w_T1, w_C, w_C1, w_Z, w_and, w_and1, w_or, w_or1, w_not, w_not1, w_tn, w_tn1, w_E, w_E1, w_E2, w_nl, w_nl1, w_nl2, w_C2_0, w_Z1_0, w_C2_1, w_Z1_1, w_C2_2, w_Z1_2, w_C2_3, w_Z1_3, w_C2_4, w_Z1_4, w_C2_5, w_Z1_5, w_seq, w_seq1, w_seq2, w_seq3, w_if, w_if1, w_skip, w_set, w_set1, w_setR, w_setR1, w_setN, w_setN1, w_setN2, w_inc, w_inc1, w_put, w_put1, w_put2, w_put3, w_wf0, w_wf1, w_po, w_po1, w_po2, w_ast, w_ast1, w_ast2, w_ast3, w_aop, w_aop1, w_aop2, w_aop3, w_aop4, w_ret, w_ret0, w_ret1, w_retN, w_retN1, w_retN2, w_retV, w_throw, w_aN, w_aI, w_aI1, w_aI2, w_aR, w_aR1, w_ask, w_ask1, w_V, w_V1, w_V2, w_S, w_S1, w_CI, w_CI1, w_CR, w_CR1, w_CN, w_CN1, w_CN2, w_CV, w_CV1, w_CV2, w_pop, w_pop1, w_popR, w_popR1, w_cast, w_cast1, w_run, w_run1, w_run2, ite_s1, ite_01, ite_10, ite_nz, i_10, i_01, i_20, i_02, i_21, i_12, i_30, i_03, i_40, i_04, il_00, il_10, il_20, il_01, il_02, sl_r, sl_I, sl_L, List.getElem?_cons_zero, List.getElem?_cons_succ, List.set_cons_zero, List.set_cons_succ, List.map_cons, List.map_nil, List.length_cons, List.length_nil, List.cons_append, List.nil_append, List.append_nil, List.replicate_succ, List.replicate_zero, Nat.reduceSub, Nat.reduceAdd, Nat.reduceEqDiff, if_true, if_false, true_and, and_true, reduceCtorEq, ite_true, ite_false, Bool.false_eq_true, Nat.zero_add, Nat.add_zero, Nat.sub_self, Nat.reduceLT, decide_eq_true_eq, Bool.not_eq_true, not_true_eq_false, not_false_eq_true, decide_true, decide_false, decide_not, Bool.decide_eq_true, and_self, or_self, or_true, true_or, or_false, false_or, false_and, and_false, ne_eq, Bool.not_not, Bool.not_eq_eq_eq_not, Nat.reduceEqDiff, Nat.reduceLeDiff, Bool.not_true, Bool.not_false, eq_self, ladd_I, ladd_L1, ladd_Ln, ladd_n, ladd_J, lrem_I, lrem_L1, lrem_Ln, lrem_N, grw_I, grw_L, grw_n, grw_J, sdr_u, tk_u, sdr_a, tk_a, sdr_r, tk_r, rg_get, List.length_range, fil_2, fil_I, sdr_f, tk_f, sl_fil, aO_2, pr_n, aO_I, aO_L, sl_aO, pr_I, pr_L, sl_pr, gN_n, d1_n, dl_n, gN_I, gN_L, sl_gN, d1_I, d1_L, d1_L1, sl_d1, dl_I, dl_L, dl_L1, sl_dl, sdr_dl, tk_dl, show t < (σ.2.1 (7 + i)).length by omega]) (fun t ht => by
      have e : t + 1 - 1 = t := by omega
      simp only [Nat.add_one_ne_zero, if_false, e]
      exact body t ht _) (by simp (disch := first | omega | (simp only [w_ui2, w_ul3, ladd_n, lrem_N, grw_n, ladd_Ln, lrem_Ln, grw_L, List.length_range, fil_2, aO_2, pr_n, gN_n, d1_n, dl_n]; omega)) only [w_I, w_L, w_L1, w_LR, w_LR1, w_LN, w_LN1, w_LN2, w_null, w_N, w_N1, w_B, w_B1, w_B2, w_GI, w_GI1, w_GR, w_GR1, w_A, w_A1, w_A2, w_A3, w_rd3, w_wr3, w_rd7, w_wr7, w_rd8, w_wr8, w_rd9, w_wr9, w_rd10, w_wr10, w_rm0, w_wm0, w_rm1, w_wm1, w_rm2, w_wm2, w_rm3, w_wm3, w_rm4, w_wm4, w_rm5, w_wm5, w_rm6, w_wm6, w_rm7, w_wm7, w_rm8, w_wm8, w_rm9, w_wm9, w_rm10, w_wm10, w_rm11, w_wm11, w_rm12, w_wm12, w_rm13, w_wm13, w_rm14, w_wm14, w_rm15, w_wm15, w_rm16, w_wm16, w_v0, w_v1, w_v11, w_v14, w_v2, w_v3, w_v4, w_v6, w_v7, w_v8, w_v9, w_v10, inB_t, cl_nI, w_ui1, w_ui2, w_ul1, w_ul3, w_lsz, w_lget, w_ladd, w_lrem, sl_ladd, sl_lrem, sl_grw, n_eq, n_lt, n_le, n_add, n_ad1, n_lt4, n_neg, n_lt0, n_ge0, w_M, w_M1, w_M2, w_T, w_T1, w_C, w_C1, w_Z, w_and, w_and1, w_or, w_or1, w_not, w_not1, w_tn, w_tn1, w_E, w_E1, w_E2, w_nl, w_nl1, w_nl2, w_C2_0, w_Z1_0, w_C2_1, w_Z1_1, w_C2_2, w_Z1_2, w_C2_3, w_Z1_3, w_C2_4, w_Z1_4, w_C2_5, w_Z1_5, w_seq, w_seq1, w_seq2, w_seq3, w_if, w_if1, w_skip, w_set, w_set1, w_setR, w_setR1, w_setN, w_setN1, w_setN2, w_inc, w_inc1, w_put, w_put1, w_put2, w_put3, w_wf0, w_wf1, w_po, w_po1, w_po2, w_ast, w_ast1, w_ast2, w_ast3, w_aop, w_aop1, w_aop2, w_aop3, w_aop4, w_ret, w_ret0, w_ret1, w_retN, w_retN1, w_retN2, w_retV, w_throw, w_aN, w_aI, w_aI1, w_aI2, w_aR, w_aR1, w_ask, w_ask1, w_V, w_V1, w_V2, w_S, w_S1, w_CI, w_CI1, w_CR, w_CR1, w_CN, w_CN1, w_CN2, w_CV, w_CV1, w_CV2, w_pop, w_pop1, w_popR, w_popR1, w_cast, w_cast1, w_run, w_run1, w_run2, ite_s1, ite_01, ite_10, ite_nz, i_10, i_01, i_20, i_02, i_21, i_12, i_30, i_03, i_40, i_04, il_00, il_10, il_20, il_01, il_02, sl_r, sl_I, sl_L, List.getElem?_cons_zero, List.getElem?_cons_succ, List.set_cons_zero, List.set_cons_succ, List.map_cons, List.map_nil, List.length_cons, List.length_nil, List.cons_append, List.nil_append, List.append_nil, List.replicate_succ, List.replicate_zero, Nat.reduceSub, Nat.reduceAdd, Nat.reduceEqDiff, if_true, if_false, true_and, and_true, reduceCtorEq, ite_true, ite_false, Bool.false_eq_true, Nat.zero_add, Nat.add_zero, Nat.sub_self, Nat.reduceLT, decide_eq_true_eq, Bool.not_eq_true, not_true_eq_false, not_false_eq_true, decide_true, decide_false, decide_not, Bool.decide_eq_true, and_self, or_self, or_true, true_or, or_false, false_or, false_and, and_false, ne_eq, Bool.not_not, Bool.not_eq_eq_eq_not, Nat.reduceEqDiff, Nat.reduceLeDiff, Bool.not_true, Bool.not_false, eq_self, ladd_I, ladd_L1, ladd_Ln, ladd_n, ladd_J, lrem_I, lrem_L1, lrem_Ln, lrem_N, grw_I, grw_L, grw_n, grw_J, sdr_u, tk_u, sdr_a, tk_a, sdr_r, tk_r, rg_get, List.length_range, fil_2, fil_I, sdr_f, tk_f, sl_fil, aO_2, pr_n, aO_I, aO_L, sl_aO, pr_I, pr_L, sl_pr, gN_n, d1_n, dl_n, gN_I, gN_L, sl_gN, d1_I, d1_L, d1_L1, sl_d1, dl_I, dl_L, dl_L1, sl_dl, sdr_dl, tk_dl, h]) (by
      unfold S_dH
      simp (disch := first | omega | (simp only [w_ui2, w_ul3, ladd_n, lrem_N, grw_n, ladd_Ln, lrem_Ln, grw_L, List.length_range, fil_2, aO_2, pr_n, gN_n, d1_n, dl_n]; omega)) only [w_I, w_L, w_L1, w_LR, w_LR1, w_LN, w_LN1, w_LN2, w_null, w_N, w_N1, w_B, w_B1, w_B2, w_GI, w_GI1, w_GR, w_GR1, w_A, w_A1, w_A2, w_A3, w_rd3, w_wr3, w_rd7, w_wr7, w_rd8, w_wr8, w_rd9, w_wr9, w_rd10, w_wr10, w_rm0, w_wm0, w_rm1, w_wm1, w_rm2, w_wm2, w_rm3, w_wm3, w_rm4, w_wm4, w_rm5, w_wm5, w_rm6, w_wm6, w_rm7, w_wm7, w_rm8, w_wm8, w_rm9, w_wm9, w_rm10, w_wm10, w_rm11, w_wm11, w_rm12, w_wm12, w_rm13, w_wm13, w_rm14, w_wm14, w_rm15, w_wm15, w_rm16, w_wm16, w_v0, w_v1, w_v11, w_v14, w_v2, w_v3, w_v4, w_v6, w_v7, w_v8, w_v9, w_v10, inB_t, cl_nI, w_ui1, w_ui2, w_ul1, w_ul3, w_lsz, w_lget, w_ladd, w_lrem, sl_ladd, sl_lrem, sl_grw, n_eq, n_lt, n_le, n_add, n_ad1, n_lt4, n_neg, n_lt0, n_ge0, w_M, w_M1, w_M2, w_T, w_T1, w_C, w_C1, w_Z, w_and, w_and1, w_or, w_or1, w_not, w_not1, w_tn, w_tn1, w_E, w_E1, w_E2, w_nl, w_nl1, w_nl2, w_C2_0, w_Z1_0, w_C2_1, w_Z1_1, w_C2_2, w_Z1_2, w_C2_3, w_Z1_3, w_C2_4, w_Z1_4, w_C2_5, w_Z1_5, w_seq, w_seq1, w_seq2, w_seq3, w_if, w_if1, w_skip, w_set, w_set1, w_setR, w_setR1, w_setN, w_setN1, w_setN2, w_inc, w_inc1, w_put, w_put1, w_put2, w_put3, w_wf0, w_wf1, w_po, w_po1, w_po2, w_ast, w_ast1, w_ast2, w_ast3, w_aop, w_aop1, w_aop2, w_aop3, w_aop4, w_ret, w_ret0, w_ret1, w_retN, w_retN1, w_retN2, w_retV, w_throw, w_aN, w_aI, w_aI1, w_aI2, w_aR, w_aR1, w_ask, w_ask1, w_V, w_V1, w_V2, w_S, w_S1, w_CI, w_CI1, w_CR, w_CR1, w_CN, w_CN1, w_CN2, w_CV, w_CV1, w_CV2, w_pop, w_pop1, w_popR, w_popR1, w_cast, w_cast1, w_run, w_run1, w_run2, ite_s1, ite_01, ite_10, ite_nz, i_10, i_01, i_20, i_02, i_21, i_12, i_30, i_03, i_40, i_04, il_00, il_10, il_20, il_01, il_02, sl_r, sl_I, sl_L, List.getElem?_cons_zero, List.getElem?_cons_succ, List.set_cons_zero, List.set_cons_succ, List.map_cons, List.map_nil, List.length_cons, List.length_nil, List.cons_append, List.nil_append, List.append_nil, List.replicate_succ, List.replicate_zero, Nat.reduceSub, Nat.reduceAdd, Nat.reduceEqDiff, if_true, if_false, true_and, and_true, reduceCtorEq, ite_true, ite_false, Bool.false_eq_true, Nat.zero_add, Nat.add_zero, Nat.sub_self, Nat.reduceLT, decide_eq_true_eq, Bool.not_eq_true, not_true_eq_false, not_false_eq_true, decide_true, decide_false, decide_not, Bool.decide_eq_true, and_self, or_self, or_true, true_or, or_false, false_or, false_and, and_false, ne_eq, Bool.not_not, Bool.not_eq_eq_eq_not, Nat.reduceEqDiff, Nat.reduceLeDiff, Bool.not_true, Bool.not_false, eq_self, ladd_I, ladd_L1, ladd_Ln, ladd_n, ladd_J, lrem_I, lrem_L1, lrem_Ln, lrem_N, grw_I, grw_L, grw_n, grw_J, sdr_u, tk_u, sdr_a, tk_a, sdr_r, tk_r, rg_get, List.length_range, fil_2, fil_I, sdr_f, tk_f, sl_fil, aO_2, pr_n, aO_I, aO_L, sl_aO, pr_I, pr_L, sl_pr, gN_n, d1_n, dl_n, gN_I, gN_L, sl_gN, d1_I, d1_L, d1_L1, sl_d1, dl_I, dl_L, dl_L1, sl_dl, sdr_dl, tk_dl, e1])
    simp only [nI_0, if_true] at hl
    have e0 : itr i 0 σ = σ := rfl
    rw [e0] at hl
    simp (disch := first | omega | (simp only [w_ui2, w_ul3, ladd_n, lrem_N, grw_n, ladd_Ln, lrem_Ln, grw_L, List.length_range, fil_2, aO_2, pr_n, gN_n, d1_n, dl_n]; omega)) only [w_I, w_L, w_L1, w_LR, w_LR1, w_LN, w_LN1, w_LN2, w_null, w_N, w_N1, w_B, w_B1, w_B2, w_GI, w_GI1, w_GR, w_GR1, w_A, w_A1, w_A2, w_A3, w_rd3, w_wr3, w_rd7, w_wr7, w_rd8, w_wr8, w_rd9, w_wr9, w_rd10, w_wr10, w_rm0, w_wm0, w_rm1, w_wm1, w_rm2, w_wm2, w_rm3, w_wm3, w_rm4, w_wm4, w_rm5, w_wm5, w_rm6, w_wm6, w_rm7, w_wm7, w_rm8, w_wm8, w_rm9, w_wm9, w_rm10, w_wm10, w_rm11, w_wm11, w_rm12, w_wm12, w_rm13, w_wm13, w_rm14, w_wm14, w_rm15, w_wm15, w_rm16, w_wm16, w_v0, w_v1, w_v11, w_v14, w_v2, w_v3, w_v4, w_v6, w_v7, w_v8, w_v9, w_v10, inB_t, cl_nI, w_ui1, w_ui2, w_ul1, w_ul3, w_lsz, w_lget, w_ladd, w_lrem, sl_ladd, sl_lrem, sl_grw, n_eq, n_lt, n_le, n_add, n_ad1, n_lt4, n_neg, n_lt0, n_ge0, w_M, w_M1, w_M2, w_T, w_T1, w_C, w_C1, w_Z, w_and, w_and1, w_or, w_or1, w_not, w_not1, w_tn, w_tn1, w_E, w_E1, w_E2, w_nl, w_nl1, w_nl2, w_C2_0, w_Z1_0, w_C2_1, w_Z1_1, w_C2_2, w_Z1_2, w_C2_3, w_Z1_3, w_C2_4, w_Z1_4, w_C2_5, w_Z1_5, w_seq, w_seq1, w_seq2, w_seq3, w_if, w_if1, w_skip, w_set, w_set1, w_setR, w_setR1, w_setN, w_setN1, w_setN2, w_inc, w_inc1, w_put, w_put1, w_put2, w_put3, w_wf0, w_wf1, w_po, w_po1, w_po2, w_ast, w_ast1, w_ast2, w_ast3, w_aop, w_aop1, w_aop2, w_aop3, w_aop4, w_ret, w_ret0, w_ret1, w_retN, w_retN1, w_retN2, w_retV, w_throw, w_aN, w_aI, w_aI1, w_aI2, w_aR, w_aR1, w_ask, w_ask1, w_V, w_V1, w_V2, w_S, w_S1, w_CI, w_CI1, w_CR, w_CR1, w_CN, w_CN1, w_CN2, w_CV, w_CV1, w_CV2, w_pop, w_pop1, w_popR, w_popR1, w_cast, w_cast1, w_run, w_run1, w_run2, ite_s1, ite_01, ite_10, ite_nz, i_10, i_01, i_20, i_02, i_21, i_12, i_30, i_03, i_40, i_04, il_00, il_10, il_20, il_01, il_02, sl_r, sl_I, sl_L, List.getElem?_cons_zero, List.getElem?_cons_succ, List.set_cons_zero, List.set_cons_succ, List.map_cons, List.map_nil, List.length_cons, List.length_nil, List.cons_append, List.nil_append, List.append_nil, List.replicate_succ, List.replicate_zero, Nat.reduceSub, Nat.reduceAdd, Nat.reduceEqDiff, if_true, if_false, true_and, and_true, reduceCtorEq, ite_true, ite_false, Bool.false_eq_true, Nat.zero_add, Nat.add_zero, Nat.sub_self, Nat.reduceLT, decide_eq_true_eq, Bool.not_eq_true, not_true_eq_false, not_false_eq_true, decide_true, decide_false, decide_not, Bool.decide_eq_true, and_self, or_self, or_true, true_or, or_false, false_or, false_and, and_false, ne_eq, Bool.not_not, Bool.not_eq_eq_eq_not, Nat.reduceEqDiff, Nat.reduceLeDiff, Bool.not_true, Bool.not_false, eq_self, ladd_I, ladd_L1, ladd_Ln, ladd_n, ladd_J, lrem_I, lrem_L1, lrem_Ln, lrem_N, grw_I, grw_L, grw_n, grw_J, sdr_u, tk_u, sdr_a, tk_a, sdr_r, tk_r, rg_get, List.length_range, fil_2, fil_I, sdr_f, tk_f, sl_fil, aO_2, pr_n, aO_I, aO_L, sl_aO, pr_I, pr_L, sl_pr, gN_n, d1_n, dl_n, gN_I, gN_L, sl_gN, d1_I, d1_L, d1_L1, sl_d1, dl_I, dl_L, dl_L1, sl_dl, sdr_dl, tk_dl, f_X2_deliverHeld, b_X2_deliverHeld, hl]
  · have hl := wh_run (N := 1000) (c := (cCmp (bop 0) (xL 3) (xL 2))) (b := (sSeq (sSeq (sSet 4 (xCI (xV 2 f_X0_firstReceivable (xLR 1) aNil))) (sSeq (sIf (cCmp (bop 4) (xL 4) (xI (-1))) (sRet false (xL 3)) sSkip) (sCV (xV 0 f_X2_deliver (xLR 0) (aR (xCast 6 (xCR (xV 4 f_lremove (xGR 2 (fun i => (4, 7 + i)) (xLR 1)) (aI (xL 4) aNil)))) (aR (xLR 1) aNil)))))) (sInc 3 1))) (fun t => ([some (ar (0, 0)), some (ar (2, i)), some (ai (nI (σ.2.1 (7 + i)).length)), some (ai (nI t)), if t = 0 then none else some (ai (nI (frc (itr i (t - 1) σ) i)))], itr i t σ)) (hT σ i) (by omega) (fun t ht => by simp (disch := first | omega | (simp only [w_ui2, w_ul3, ladd_n, lrem_N, grw_n, ladd_Ln, lrem_Ln, grw_L, List.length_range, fil_2, aO_2, pr_n, gN_n, d1_n, dl_n]; omega)) only [w_I, w_L, w_L1, w_LR, w_LR1, w_LN, w_LN1, w_LN2, w_null, w_N, w_N1, w_B, w_B1, w_B2, w_GI, w_GI1, w_GR, w_GR1, w_A, w_A1, w_A2, w_A3, w_rd3, w_wr3, w_rd7, w_wr7, w_rd8, w_wr8, w_rd9, w_wr9, w_rd10, w_wr10, w_rm0, w_wm0, w_rm1, w_wm1, w_rm2, w_wm2, w_rm3, w_wm3, w_rm4, w_wm4, w_rm5, w_wm5, w_rm6, w_wm6, w_rm7, w_wm7, w_rm8, w_wm8, w_rm9, w_wm9, w_rm10, w_wm10, w_rm11, w_wm11, w_rm12, w_wm12, w_rm13, w_wm13, w_rm14, w_wm14, w_rm15, w_wm15, w_rm16, w_wm16, w_v0, w_v1, w_v11, w_v14, w_v2, w_v3, w_v4, w_v6, w_v7, w_v8, w_v9, w_v10, inB_t, cl_nI, w_ui1, w_ui2, w_ul1, w_ul3, w_lsz, w_lget, w_ladd, w_lrem, sl_ladd, sl_lrem, sl_grw, n_eq, n_lt, n_le, n_add, n_ad1, n_lt4, n_neg, n_lt0, n_ge0, w_M, w_M1, w_M2, w_T, w_T1, w_C, w_C1, w_Z, w_and, w_and1, w_or, w_or1, w_not, w_not1, w_tn, w_tn1, w_E, w_E1, w_E2, w_nl, w_nl1, w_nl2, w_C2_0, w_Z1_0, w_C2_1, w_Z1_1, w_C2_2, w_Z1_2, w_C2_3, w_Z1_3, w_C2_4, w_Z1_4, w_C2_5, w_Z1_5, w_seq, w_seq1, w_seq2, w_seq3, w_if, w_if1, w_skip, w_set, w_set1, w_setR, w_setR1, w_setN, w_setN1, w_setN2, w_inc, w_inc1, w_put, w_put1, w_put2, w_put3, w_wf0, w_wf1, w_po, w_po1, w_po2, w_ast, w_ast1, w_ast2, w_ast3, w_aop, w_aop1, w_aop2, w_aop3, w_aop4, w_ret, w_ret0, w_ret1, w_retN, w_retN1, w_retN2, w_retV, w_throw, w_aN, w_aI, w_aI1, w_aI2, w_aR, w_aR1, w_ask, w_ask1, w_V, w_V1, w_V2, w_S, w_S1, w_CI, w_CI1, w_CR, w_CR1, w_CN, w_CN1, w_CN2, w_CV, w_CV1, w_CV2, w_pop, w_pop1, w_popR, w_popR1, w_cast, w_cast1, w_run, w_run1, w_run2, ite_s1, ite_01, ite_10, ite_nz, i_10, i_01, i_20, i_02, i_21, i_12, i_30, i_03, i_40, i_04, il_00, il_10, il_20, il_01, il_02, sl_r, sl_I, sl_L, List.getElem?_cons_zero, List.getElem?_cons_succ, List.set_cons_zero, List.set_cons_succ, List.map_cons, List.map_nil, List.length_cons, List.length_nil, List.cons_append, List.nil_append, List.append_nil, List.replicate_succ, List.replicate_zero, Nat.reduceSub, Nat.reduceAdd, Nat.reduceEqDiff, if_true, if_false, true_and, and_true, reduceCtorEq, ite_true, ite_false, Bool.false_eq_true, Nat.zero_add, Nat.add_zero, Nat.sub_self, Nat.reduceLT, decide_eq_true_eq, Bool.not_eq_true, not_true_eq_false, not_false_eq_true, decide_true, decide_false, decide_not, Bool.decide_eq_true, and_self, or_self, or_true, true_or, or_false, false_or, false_and, and_false, ne_eq, Bool.not_not, Bool.not_eq_eq_eq_not, Nat.reduceEqDiff, Nat.reduceLeDiff, Bool.not_true, Bool.not_false, eq_self, ladd_I, ladd_L1, ladd_Ln, ladd_n, ladd_J, lrem_I, lrem_L1, lrem_Ln, lrem_N, grw_I, grw_L, grw_n, grw_J, sdr_u, tk_u, sdr_a, tk_a, sdr_r, tk_r, rg_get, List.length_range, fil_2, fil_I, sdr_f, tk_f, sl_fil, aO_2, pr_n, aO_I, aO_L, sl_aO, pr_I, pr_L, sl_pr, gN_n, d1_n, dl_n, gN_I, gN_L, sl_gN, d1_I, d1_L, d1_L1, sl_d1, dl_I, dl_L, dl_L1, sl_dl, sdr_dl, tk_dl, show t < (σ.2.1 (7 + i)).length by omega]) (fun t ht => by
      have e : t + 1 - 1 = t := by omega
      simp only [Nat.add_one_ne_zero, if_false, e]
      exact body t ht _) (by simp (disch := first | omega | (simp only [w_ui2, w_ul3, ladd_n, lrem_N, grw_n, ladd_Ln, lrem_Ln, grw_L, List.length_range, fil_2, aO_2, pr_n, gN_n, d1_n, dl_n]; omega)) only [w_I, w_L, w_L1, w_LR, w_LR1, w_LN, w_LN1, w_LN2, w_null, w_N, w_N1, w_B, w_B1, w_B2, w_GI, w_GI1, w_GR, w_GR1, w_A, w_A1, w_A2, w_A3, w_rd3, w_wr3, w_rd7, w_wr7, w_rd8, w_wr8, w_rd9, w_wr9, w_rd10, w_wr10, w_rm0, w_wm0, w_rm1, w_wm1, w_rm2, w_wm2, w_rm3, w_wm3, w_rm4, w_wm4, w_rm5, w_wm5, w_rm6, w_wm6, w_rm7, w_wm7, w_rm8, w_wm8, w_rm9, w_wm9, w_rm10, w_wm10, w_rm11, w_wm11, w_rm12, w_wm12, w_rm13, w_wm13, w_rm14, w_wm14, w_rm15, w_wm15, w_rm16, w_wm16, w_v0, w_v1, w_v11, w_v14, w_v2, w_v3, w_v4, w_v6, w_v7, w_v8, w_v9, w_v10, inB_t, cl_nI, w_ui1, w_ui2, w_ul1, w_ul3, w_lsz, w_lget, w_ladd, w_lrem, sl_ladd, sl_lrem, sl_grw, n_eq, n_lt, n_le, n_add, n_ad1, n_lt4, n_neg, n_lt0, n_ge0, w_M, w_M1, w_M2, w_T, w_T1, w_C, w_C1, w_Z, w_and, w_and1, w_or, w_or1, w_not, w_not1, w_tn, w_tn1, w_E, w_E1, w_E2, w_nl, w_nl1, w_nl2, w_C2_0, w_Z1_0, w_C2_1, w_Z1_1, w_C2_2, w_Z1_2, w_C2_3, w_Z1_3, w_C2_4, w_Z1_4, w_C2_5, w_Z1_5, w_seq, w_seq1, w_seq2, w_seq3, w_if, w_if1, w_skip, w_set, w_set1, w_setR, w_setR1, w_setN, w_setN1, w_setN2, w_inc, w_inc1, w_put, w_put1, w_put2, w_put3, w_wf0, w_wf1, w_po, w_po1, w_po2, w_ast, w_ast1, w_ast2, w_ast3, w_aop, w_aop1, w_aop2, w_aop3, w_aop4, w_ret, w_ret0, w_ret1, w_retN, w_retN1, w_retN2, w_retV, w_throw, w_aN, w_aI, w_aI1, w_aI2, w_aR, w_aR1, w_ask, w_ask1, w_V, w_V1, w_V2, w_S, w_S1, w_CI, w_CI1, w_CR, w_CR1, w_CN, w_CN1, w_CN2, w_CV, w_CV1, w_CV2, w_pop, w_pop1, w_popR, w_popR1, w_cast, w_cast1, w_run, w_run1, w_run2, ite_s1, ite_01, ite_10, ite_nz, i_10, i_01, i_20, i_02, i_21, i_12, i_30, i_03, i_40, i_04, il_00, il_10, il_20, il_01, il_02, sl_r, sl_I, sl_L, List.getElem?_cons_zero, List.getElem?_cons_succ, List.set_cons_zero, List.set_cons_succ, List.map_cons, List.map_nil, List.length_cons, List.length_nil, List.cons_append, List.nil_append, List.append_nil, List.replicate_succ, List.replicate_zero, Nat.reduceSub, Nat.reduceAdd, Nat.reduceEqDiff, if_true, if_false, true_and, and_true, reduceCtorEq, ite_true, ite_false, Bool.false_eq_true, Nat.zero_add, Nat.add_zero, Nat.sub_self, Nat.reduceLT, decide_eq_true_eq, Bool.not_eq_true, not_true_eq_false, not_false_eq_true, decide_true, decide_false, decide_not, Bool.decide_eq_true, and_self, or_self, or_true, true_or, or_false, false_or, false_and, and_false, ne_eq, Bool.not_not, Bool.not_eq_eq_eq_not, Nat.reduceEqDiff, Nat.reduceLeDiff, Bool.not_true, Bool.not_false, eq_self, ladd_I, ladd_L1, ladd_Ln, ladd_n, ladd_J, lrem_I, lrem_L1, lrem_Ln, lrem_N, grw_I, grw_L, grw_n, grw_J, sdr_u, tk_u, sdr_a, tk_a, sdr_r, tk_r, rg_get, List.length_range, fil_2, fil_I, sdr_f, tk_f, sl_fil, aO_2, pr_n, aO_I, aO_L, sl_aO, pr_I, pr_L, sl_pr, gN_n, d1_n, dl_n, gN_I, gN_L, sl_gN, d1_I, d1_L, d1_L1, sl_d1, dl_I, dl_L, dl_L1, sl_dl, sdr_dl, tk_dl, h])
    simp only [nI_0, if_true] at hl
    have e0 : itr i 0 σ = σ := rfl
    rw [e0] at hl
    have e5 : hT σ i = (σ.2.1 (7 + i)).length := by omega
    unfold S_dH
    simp (disch := first | omega | (simp only [w_ui2, w_ul3, ladd_n, lrem_N, grw_n, ladd_Ln, lrem_Ln, grw_L, List.length_range, fil_2, aO_2, pr_n, gN_n, d1_n, dl_n]; omega)) only [w_I, w_L, w_L1, w_LR, w_LR1, w_LN, w_LN1, w_LN2, w_null, w_N, w_N1, w_B, w_B1, w_B2, w_GI, w_GI1, w_GR, w_GR1, w_A, w_A1, w_A2, w_A3, w_rd3, w_wr3, w_rd7, w_wr7, w_rd8, w_wr8, w_rd9, w_wr9, w_rd10, w_wr10, w_rm0, w_wm0, w_rm1, w_wm1, w_rm2, w_wm2, w_rm3, w_wm3, w_rm4, w_wm4, w_rm5, w_wm5, w_rm6, w_wm6, w_rm7, w_wm7, w_rm8, w_wm8, w_rm9, w_wm9, w_rm10, w_wm10, w_rm11, w_wm11, w_rm12, w_wm12, w_rm13, w_wm13, w_rm14, w_wm14, w_rm15, w_wm15, w_rm16, w_wm16, w_v0, w_v1, w_v11, w_v14, w_v2, w_v3, w_v4, w_v6, w_v7, w_v8, w_v9, w_v10, inB_t, cl_nI, w_ui1, w_ui2, w_ul1, w_ul3, w_lsz, w_lget, w_ladd, w_lrem, sl_ladd, sl_lrem, sl_grw, n_eq, n_lt, n_le, n_add, n_ad1, n_lt4, n_neg, n_lt0, n_ge0, w_M, w_M1, w_M2, w_T, w_T1, w_C, w_C1, w_Z, w_and, w_and1, w_or, w_or1, w_not, w_not1, w_tn, w_tn1, w_E, w_E1, w_E2, w_nl, w_nl1, w_nl2, w_C2_0, w_Z1_0, w_C2_1, w_Z1_1, w_C2_2, w_Z1_2, w_C2_3, w_Z1_3, w_C2_4, w_Z1_4, w_C2_5, w_Z1_5, w_seq, w_seq1, w_seq2, w_seq3, w_if, w_if1, w_skip, w_set, w_set1, w_setR, w_setR1, w_setN, w_setN1, w_setN2, w_inc, w_inc1, w_put, w_put1, w_put2, w_put3, w_wf0, w_wf1, w_po, w_po1, w_po2, w_ast, w_ast1, w_ast2, w_ast3, w_aop, w_aop1, w_aop2, w_aop3, w_aop4, w_ret, w_ret0, w_ret1, w_retN, w_retN1, w_retN2, w_retV, w_throw, w_aN, w_aI, w_aI1, w_aI2, w_aR, w_aR1, w_ask, w_ask1, w_V, w_V1, w_V2, w_S, w_S1, w_CI, w_CI1, w_CR, w_CR1, w_CN, w_CN1, w_CN2, w_CV, w_CV1, w_CV2, w_pop, w_pop1, w_popR, w_popR1, w_cast, w_cast1, w_run, w_run1, w_run2, ite_s1, ite_01, ite_10, ite_nz, i_10, i_01, i_20, i_02, i_21, i_12, i_30, i_03, i_40, i_04, il_00, il_10, il_20, il_01, il_02, sl_r, sl_I, sl_L, List.getElem?_cons_zero, List.getElem?_cons_succ, List.set_cons_zero, List.set_cons_succ, List.map_cons, List.map_nil, List.length_cons, List.length_nil, List.cons_append, List.nil_append, List.append_nil, List.replicate_succ, List.replicate_zero, Nat.reduceSub, Nat.reduceAdd, Nat.reduceEqDiff, if_true, if_false, true_and, and_true, reduceCtorEq, ite_true, ite_false, Bool.false_eq_true, Nat.zero_add, Nat.add_zero, Nat.sub_self, Nat.reduceLT, decide_eq_true_eq, Bool.not_eq_true, not_true_eq_false, not_false_eq_true, decide_true, decide_false, decide_not, Bool.decide_eq_true, and_self, or_self, or_true, true_or, or_false, false_or, false_and, and_false, ne_eq, Bool.not_not, Bool.not_eq_eq_eq_not, Nat.reduceEqDiff, Nat.reduceLeDiff, Bool.not_true, Bool.not_false, eq_self, ladd_I, ladd_L1, ladd_Ln, ladd_n, ladd_J, lrem_I, lrem_L1, lrem_Ln, lrem_N, grw_I, grw_L, grw_n, grw_J, sdr_u, tk_u, sdr_a, tk_a, sdr_r, tk_r, rg_get, List.length_range, fil_2, fil_I, sdr_f, tk_f, sl_fil, aO_2, pr_n, aO_I, aO_L, sl_aO, pr_I, pr_L, sl_pr, gN_n, d1_n, dl_n, gN_I, gN_L, sl_gN, d1_I, d1_L, d1_L1, sl_d1, dl_I, dl_L, dl_L1, sl_dl, sdr_dl, tk_dl, f_X2_deliverHeld, b_X2_deliverHeld, hl]
    rw [e5]
end C5
