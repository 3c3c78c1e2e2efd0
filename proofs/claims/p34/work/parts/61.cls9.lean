/-! pure: the class's methods: all arrives -/
/-- copies on their way or lost are neither received nor held -/
def CQ (σ : Sg) (i : Nat) : Prop := ∀ a, a < σ.2.2.1 0 → (σ.1 27 a i = 0 ∨ σ.1 27 a i = 3) → a ∉ σ.2.1 (3 + i) ∧ a ∉ σ.2.1 (7 + i)
def DJ (σ : Sg) (i : Nat) : Prop := ∀ m ∈ σ.2.1 (7 + i), m ∉ σ.2.1 (3 + i)
def IL (σ : Sg) : Prop := WF σ ∧ NU σ ∧ (∀ i, i < 4 → DJ σ i) ∧ ∀ i, i < 4 → ¬ σ.1 13 i 0 = 0 → CQ σ i
section C9
variable {σ : Sg} {m i k o j n k2 o2 j2 t : Nat} {x y : Int32} {l : List Nat}
theorem dl_c : (S_dl σ m i).1 27 o2 j2 = if o2 = m ∧ j2 = i then 2 else σ.1 27 o2 j2 := by
  have h : (S_d1 σ m i).1 27 o2 j2 = if o2 = m ∧ j2 = i then 2 else σ.1 27 o2 j2 := by
    unfold S_d1
    rw [upI_n (by decide), ladd_I (by decide), upI_n (by decide), w_ui1]
    simp
  unfold S_dl
  split
  · rw [upI_n (by decide), gN_I (by decide) (by decide), h]
  · exact h
theorem stp_I (h : k2 ≠ 27) (h1 : k2 ≠ 29) (h2 : k2 ≠ 30) (h3 : k2 ≠ 16) (h4 : k2 ≠ 23) (h5 : k2 ≠ 11) : (stp σ i).1 k2 o2 j2 = σ.1 k2 o2 j2 := by
  unfold stp
  rw [dl_I h h1 h2 h3 h4 h5, lrem_I h2]
theorem stp_c : (stp σ i).1 27 o2 j2 = if o2 = hM σ i ∧ j2 = i then 2 else σ.1 27 o2 j2 := by
  unfold stp
  rw [dl_c, lrem_I (by decide)]
theorem stp_L (h : k2 ≠ 3 + i) (h1 : k2 ≠ 1) (h2 : k2 ≠ 7 + i) : (stp σ i).2.1 k2 = σ.2.1 k2 := by
  unfold stp
  rw [dl_L h h1, lrem_Ln h2]
theorem stp_n : (stp σ i).2.2.1 0 = σ.2.2.1 0 := by unfold stp; rw [dl_n]; rfl
theorem itr_I (h : k2 ≠ 27) (h1 : k2 ≠ 29) (h2 : k2 ≠ 30) (h3 : k2 ≠ 16) (h4 : k2 ≠ 23) (h5 : k2 ≠ 11) : ∀ t, (itr i t σ).1 k2 o2 j2 = σ.1 k2 o2 j2 := by
  intro t
  induction t with
  | zero => rfl
  | succ t ih => exact (stp_I h h1 h2 h3 h4 h5).trans ih
theorem itr_c (h : j2 ≠ i) : ∀ t, (itr i t σ).1 27 o2 j2 = σ.1 27 o2 j2 := by
  intro t
  induction t with
  | zero => rfl
  | succ t ih => exact (show (stp (itr i t σ) i).1 27 o2 j2 = (itr i t σ).1 27 o2 j2 by rw [stp_c, if_neg (fun q => h q.2)]).trans ih
theorem itr_L (h : k2 ≠ 3 + i) (h1 : k2 ≠ 1) (h2 : k2 ≠ 7 + i) : ∀ t, (itr i t σ).2.1 k2 = σ.2.1 k2 := by
  intro t
  induction t with
  | zero => rfl
  | succ t ih => exact (stp_L h h1 h2).trans ih
theorem itr_n : ∀ t, (itr i t σ).2.2.1 0 = σ.2.2.1 0 := by
  intro t
  induction t with
  | zero => rfl
  | succ t ih => exact stp_n.trans ih
theorem tI_I (h : k2 ≠ 27) (h1 : k2 ≠ 29) (h2 : k2 ≠ 30) (h3 : k2 ≠ 16) (h4 : k2 ≠ 23) (h5 : k2 ≠ 11) : (S_tI σ m i).1 k2 o2 j2 = σ.1 k2 o2 j2 := by
  unfold S_tI
  split
  · exact (itr_I h h1 h2 h3 h4 h5 _).trans (dl_I h h1 h2 h3 h4 h5)
  · rw [ladd_I h2, upI_n h]
theorem tI_c (h : j2 ≠ i) : (S_tI σ m i).1 27 o2 j2 = σ.1 27 o2 j2 := by
  unfold S_tI
  split
  · exact (itr_c h _).trans (by rw [dl_c, if_neg (fun q => h q.2)])
  · rw [ladd_I (by decide), w_ui1, if_neg (fun q => h q.2.2)]
theorem tI_L (h : k2 ≠ 3 + i) (h1 : k2 ≠ 1) (h2 : k2 ≠ 7 + i) : (S_tI σ m i).2.1 k2 = σ.2.1 k2 := by
  unfold S_tI
  split
  · exact (itr_L h h1 h2 _).trans (dl_L h h1)
  · exact ladd_Ln h2
theorem tI_n : (S_tI σ m i).2.2.1 0 = σ.2.2.1 0 := by
  unfold S_tI
  split
  · exact (itr_n _).trans dl_n
  · exact ladd_n
theorem CQ.stp (C : CQ σ i) (P : PH σ i) (hi : i < 4) (hr : rdy σ i = true) : CQ (stp σ i) i := by
  obtain ⟨q1, q2, q3, q4, q5, q6, q7⟩ := stp_ok P hi hr
  intro a ha hc
  rw [q7] at ha
  rw [stp_c] at hc
  rw [q3, q2]
  by_cases e : a = hM σ i
  · rw [if_pos ⟨e, rfl⟩] at hc
    rcases hc with q | q <;> exact absurd q (by decide)
  · rw [if_neg (fun q => e q.1)] at hc
    obtain ⟨c1, c2⟩ := C a ha hc
    refine ⟨fun q => ?_, fun q => c2 (List.mem_of_mem_eraseIdx q)⟩
    rcases List.mem_append.mp q with q | q
    · exact c1 q
    · simp at q
      exact e q
theorem CQ.itr (C : CQ σ i) (P : PH σ i) (hi : i < 4) : ∀ t, (∀ s, s < t → rdy (itr i s σ) i = true) → CQ (itr i t σ) i := by
  intro t
  induction t with
  | zero => intro _; exact C
  | succ t ih =>
    intro h
    exact (ih (fun s hs => h s (by omega))).stp (itr_ok P hi t (fun s hs => h s (by omega))).1 hi (h t (by omega))
theorem CQ.dl (C : CQ σ i) (hi : i < 4) : CQ (S_dl σ m i) i := by
  intro a ha hc
  rw [dl_n] at ha
  rw [dl_c] at hc
  rw [dl_L1, dl_L (by omega) (by omega)]
  by_cases e : a = m
  · rw [if_pos ⟨e, rfl⟩] at hc
    rcases hc with q | q <;> exact absurd q (by decide)
  · rw [if_neg (fun q => e q.1)] at hc
    obtain ⟨c1, c2⟩ := C a ha hc
    refine ⟨fun q => ?_, c2⟩
    rcases List.mem_append.mp q with q | q
    · exact c1 q
    · simp at q
      exact e q
theorem CQ.tI (C : CQ σ i) (P : PH σ i) (hi : i < 4) (hm : m < σ.2.2.1 0) (hr : m ∉ σ.2.1 (3 + i)) (hh : m ∉ σ.2.1 (7 + i)) : CQ (S_tI σ m i) i := by
  unfold S_tI
  split
  · exact C.dl hi |>.itr (P.dl hi hm hr hh) hi _ (fun s hs => hT_rdy hs)
  · intro a ha hc
    rw [ladd_n] at ha
    rw [ladd_I (by decide), w_ui1] at hc
    rw [ladd_Ln (by omega), ladd_L1]
    by_cases e : a = m
    · rw [if_pos ⟨rfl, e, rfl⟩] at hc
      rcases hc with q | q <;> exact absurd q (by decide)
    · rw [if_neg (fun q => e q.2.1)] at hc
      obtain ⟨c1, c2⟩ := C a ha hc
      refine ⟨c1, fun q => ?_⟩
      rcases List.mem_append.mp q with q | q
      · exact c2 q
      · simp at q
        exact e q
theorem PH.tI (P : PH σ i) (hi : i < 4) (hm : m < σ.2.2.1 0) (hr : m ∉ σ.2.1 (3 + i)) (hh : m ∉ σ.2.1 (7 + i)) : PH (S_tI σ m i) i := by
  unfold S_tI
  split
  · exact (dH_ok (P.dl hi hm hr hh) hi).1
  · obtain ⟨W, N, D⟩ := P
    refine ⟨(W.u (by decide)).add (by omega) (by omega) hm hh, N.of ladd_n (fun a => by rw [ladd_I (by decide), upI_n (by decide)]) (ladd_Ln (by omega)), ?_⟩
    rw [ladd_L1, ladd_Ln (by omega)]
    intro a ha
    rcases List.mem_append.mp ha with q | q
    · exact D a q
    · simp at q
      subst q
      exact hr
theorem IL.tI (I : IL σ) (hi : i < 4) (ha : ¬ σ.1 13 i 0 = 0) (hm : m < σ.2.2.1 0) (hr : m ∉ σ.2.1 (3 + i)) (hh : m ∉ σ.2.1 (7 + i)) : IL (S_tI σ m i) := by
  obtain ⟨W, N, D, C⟩ := I
  have P : PH σ i := ⟨W, N, D i hi⟩
  have P1 := P.tI hi hm hr hh
  refine ⟨P1.1, P1.2.1, fun b hb => ?_, fun b hb hal => ?_⟩
  · by_cases e : b = i
    · subst e; exact P1.2.2
    · unfold DJ
      rw [tI_L (by omega) (by omega) (by omega), tI_L (by omega) (by omega) (by omega)]
      exact D b hb
  · rw [tI_I (by decide) (by decide) (by decide) (by decide) (by decide) (by decide)] at hal
    by_cases e : b = i
    · subst e; exact (C b hb hal).tI P hi hm hr hh
    · intro a ha hc
      rw [tI_n] at ha
      rw [tI_c e] at hc
      rw [tI_L (by omega) (by omega) (by omega), tI_L (by omega) (by omega) (by omega)]
      exact C b hb hal a ha hc
def laP (τ : Sg) (m i : Nat) : Bool := !decide (τ.1 13 i 0 = 0) && (decide (τ.1 27 m i = 0) || decide (τ.1 27 m i = 3))
def lI (i : Nat) (σ : Sg) : Nat → Sg
  | 0 => σ
  | m + 1 => if laP (lI i σ m) m i = true then S_tI (lI i σ m) m i else lI i σ m
def lO (σ : Sg) : Nat → Sg
  | 0 => σ
  | i + 1 => lI i (lO σ i) (σ.2.2.1 0)
theorem lI_s : lI i σ (m + 1) = if laP (lI i σ m) m i = true then S_tI (lI i σ m) m i else lI i σ m := rfl
theorem lO_s : lO σ (i + 1) = lI i (lO σ i) (σ.2.2.1 0) := rfl
theorem laP_t (h : laP σ m i = true) : ¬ σ.1 13 i 0 = 0 ∧ (σ.1 27 m i = 0 ∨ σ.1 27 m i = 3) := by
  simpa [laP] using h
theorem lI_ok (I : IL σ) (hi : i < 4) : ∀ m, m ≤ σ.2.2.1 0 → IL (lI i σ m) ∧ (lI i σ m).2.2.1 0 = σ.2.2.1 0 := by
  intro m
  induction m with
  | zero => intro _; exact ⟨I, rfl⟩
  | succ m ih =>
    intro hm
    obtain ⟨h1, h2⟩ := ih (by omega)
    rw [lI_s]
    split
    · rename_i h
      obtain ⟨a1, a2⟩ := laP_t h
      obtain ⟨b1, b2⟩ := h1.2.2.2 i hi a1 m (by rw [h2]; omega) a2
      exact ⟨h1.tI hi a1 (by rw [h2]; omega) b1 b2, tI_n.trans h2⟩
    · exact ⟨h1, h2⟩
theorem lO_ok (I : IL σ) : ∀ i, i ≤ 4 → IL (lO σ i) ∧ (lO σ i).2.2.1 0 = σ.2.2.1 0 := by
  intro i
  induction i with
  | zero => intro _; exact ⟨I, rfl⟩
  | succ i ih =>
    intro hi
    obtain ⟨h1, h2⟩ := ih (by omega)
    rw [lO_s]
    obtain ⟨h3, h4⟩ := lI_ok h1 (i := i) (by omega) (σ.2.2.1 0) (by omega)
    exact ⟨h3, h4.trans h2⟩
theorem sl_lI : ∀ m, sleB σ (lI i σ m) = true := by
  intro m
  induction m with
  | zero => exact sleB_refl σ
  | succ m ih =>
    rw [lI_s]
    split
    · exact sl_trans ih sl_tI
    · exact ih
theorem sl_lO : ∀ i, sleB σ (lO σ i) = true := by
  intro i
  induction i with
  | zero => exact sleB_refl σ
  | succ i ih =>
    rw [lO_s]
    exact sl_trans ih (sl_lI _)
theorem wh_inv {c : Ex Bool} {b : Sx} {N : Nat} (Inv : Nat → LcT × Sg → Prop) (n : Nat) (hN : n < N) (hc : ∀ j, j < n → ∀ s, Inv j s → c s.1 s.2 = some (true, s.2)) (hb : ∀ j, j < n → ∀ s, Inv j s → ∃ s', b s.1 s.2 = some (.inl s') ∧ Inv (j + 1) s') (hz : ∀ s, Inv n s → c s.1 s.2 = some (false, s.2)) : ∀ s, Inv 0 s → ∃ s', sWh c b N s.1 s.2 = some (.inl s') ∧ Inv n s' := by
  have go : ∀ d M j, j + d = n → ∀ s, Inv j s → ∃ s', sWh c b (M + 1 + d) s.1 s.2 = some (.inl s') ∧ Inv n s' := by
    intro d
    induction d with
    | zero =>
      intro M j h s hs
      rw [Nat.add_zero] at h
      subst h
      refine ⟨s, ?_, hs⟩
      rw [Nat.add_zero, wh_succ, hz s hs]
      rfl
    | succ d ih =>
      intro M j h s hs
      obtain ⟨s1, h1, h2⟩ := hb j (by omega) s hs
      obtain ⟨s2, h3, h4⟩ := ih M (j + 1) (by omega) s1 h2
      refine ⟨s2, ?_, h4⟩
      rw [← Nat.add_assoc, wh_succ, hc j (by omega) s hs]
      simp only [Option.bind_some, if_true]
      rw [h1]
      exact h3
  intro s hs
  obtain ⟨M, rfl⟩ : ∃ M, N = M + 1 + n := ⟨N - n - 1, by omega⟩
  exact go n M 0 (by omega) s hs
theorem ev_lI (I : IL σ) (hi : i < 4) {z : Option AV} : ∃ z2 : Option AV, (sWh (cCmp (bop 0) (xL 2) (xCI (xV 4 f_lsize (xGR 0 (fun _ => (4, 0)) (xLR 0)) aNil))) (sSeq (sSeq (sSet 3 (xAld false (xGR 6 (fun i => (8, i)) (xCast 6 (xCR (xV 4 f_lget (xGR 0 (fun _ => (4, 0)) (xLR 0)) (aI (xL 2) aNil))))) (xL 1))) (sIf (cAnd (cZ (fun x => bop 5 x 0) (xGI 2 13 (xMem (xGR 0 (fun _ => (1, 0)) (xLR 0)) (xL 1)))) (cOr (cZ (fun x => bop 4 x 0) (xL 3)) (cCmp (bop 4) (xL 3) (xI 3)))) (sPop (xCI (xV 0 f_X2_takeIn (xLR 0) (aR (xCast 6 (xCR (xV 4 f_lget (xGR 0 (fun _ => (4, 0)) (xLR 0)) (aI (xL 2) aNil)))) (aR (xMem (xGR 0 (fun _ => (1, 0)) (xLR 0)) (xL 1)) aNil))))) sSkip)) (sInc 2 1)) 1000) [some (ar (0, 0)), some (ai (nI i)), some (ai 0), z] σ = some (.inl ([some (ar (0, 0)), some (ai (nI i)), some (ai (nI (σ.2.2.1 0))), z2], lI i σ (σ.2.2.1 0))) := by
  have hn := I.1.n
  refine ⟨if σ.2.2.1 0 = 0 then z else some (ai ((lI i σ (σ.2.2.1 0 - 1)).1 27 (σ.2.2.1 0 - 1) i)), ?_⟩
  have hl := wh_run (N := 1000) (c := (cCmp (bop 0) (xL 2) (xCI (xV 4 f_lsize (xGR 0 (fun _ => (4, 0)) (xLR 0)) aNil)))) (b := (sSeq (sSeq (sSet 3 (xAld false (xGR 6 (fun i => (8, i)) (xCast 6 (xCR (xV 4 f_lget (xGR 0 (fun _ => (4, 0)) (xLR 0)) (aI (xL 2) aNil))))) (xL 1))) (sIf (cAnd (cZ (fun x => bop 5 x 0) (xGI 2 13 (xMem (xGR 0 (fun _ => (1, 0)) (xLR 0)) (xL 1)))) (cOr (cZ (fun x => bop 4 x 0) (xL 3)) (cCmp (bop 4) (xL 3) (xI 3)))) (sPop (xCI (xV 0 f_X2_takeIn (xLR 0) (aR (xCast 6 (xCR (xV 4 f_lget (xGR 0 (fun _ => (4, 0)) (xLR 0)) (aI (xL 2) aNil)))) (aR (xMem (xGR 0 (fun _ => (1, 0)) (xLR 0)) (xL 1)) aNil))))) sSkip)) (sInc 2 1))) (fun m => ([some (ar (0, 0)), some (ai (nI i)), some (ai (nI m)), if m = 0 then z else some (ai ((lI i σ (m - 1)).1 27 (m - 1) i))], lI i σ m)) (σ.2.2.1 0) (by omega) (fun m hm => by
    obtain ⟨I1, n1⟩ := lI_ok I hi m (by omega)
    simp (disch := first | omega | (simp only [w_ui2, w_ul3, w_uj3, ladd_n, lrem_N, grw_n, ladd_Ln, lrem_Ln, grw_L, List.length_range, fil_2, aO_2, pr_n, gN_n, d1_n, dl_n, fil_2, tO_2, tO_Ln]; omega)) only [w_I, w_L, w_L1, w_LR, w_LR1, w_LN, w_LN1, w_LN2, w_null, w_N, w_N1, w_B, w_B1, w_B2, w_GI, w_GI1, w_GR, w_GR1, w_A, w_A1, w_A2, w_A3, w_rd3, w_wr3, w_rd7, w_wr7, w_rd8, w_wr8, w_rd9, w_wr9, w_rd10, w_wr10, w_rm0, w_wm0, w_rm1, w_wm1, w_rm2, w_wm2, w_rm3, w_wm3, w_rm4, w_wm4, w_v0, w_v1, w_v2, w_v3, w_v4, w_v6, w_v7, w_v8, w_v9, w_v10, inB_t, cl_nI, w_ui1, w_ui2, w_ul1, w_ul3, w_lsz, w_lget, w_ladd, w_lrem, sl_ladd, sl_lrem, sl_grw, n_eq, n_lt, n_le, n_add, n_ad1, n_lt4, n_neg, n_lt0, n_ge0, w_M, w_M1, w_M2, w_T, w_T1, w_C, w_C1, w_Z, w_and, w_and1, w_or, w_or1, w_not, w_not1, w_tn, w_tn1, w_E, w_E1, w_E2, w_nl, w_nl1, w_nl2, w_C2_0, w_Z1_0, w_C2_1, w_Z1_1, w_C2_2, w_Z1_2, w_C2_3, w_Z1_3, w_C2_4, w_Z1_4, w_C2_5, w_Z1_5, w_seq, w_seq1, w_seq2, w_seq3, w_if, w_if1, w_skip, w_set, w_set1, w_setR, w_setR1, w_setN, w_setN1, w_setN2, w_inc, w_inc1, w_put, w_put1, w_put2, w_put3, w_wf0, w_wf1, w_po, w_po1, w_po2, w_ast, w_ast1, w_ast2, w_ast3, w_aop, w_aop1, w_aop2, w_aop3, w_aop4, w_ret, w_ret0, w_ret1, w_retN, w_retN1, w_retN2, w_retV, w_throw, w_aN, w_aI, w_aI1, w_aI2, w_aR, w_aR1, w_ask, w_ask1, w_V, w_V1, w_V2, w_S, w_S1, w_CI, w_CI1, w_CR, w_CR1, w_CN, w_CN1, w_CN2, w_CV, w_CV1, w_CV2, w_pop, w_pop1, w_popR, w_popR1, w_cast, w_cast1, w_run, lc_0, lc_I, lc_R, lc_N, lc_J, w_run1, w_run2, ite_s1, ite_01, ite_10, ite_nz, i_10, i_01, i_20, i_02, i_21, i_12, i_30, i_03, i_40, i_04, il_00, il_10, il_20, il_01, il_02, sl_r, sl_I, sl_L, w_J, w_LJ, w_LJ1, w_BJ, w_BJ1, w_BJ2, w_Sh, w_Sh1, w_Sh2, w_BC, w_BC1, w_BC2, w_IL, w_IL1, w_LI, w_LI1, w_Rm, w_Rm1, w_Rm2, w_AJ, w_AJ1, w_AJ2, w_AJ3, w_rj0, w_wj0, w_rj1, w_wj1, w_rj2, w_wj2, w_rj3, w_wj3, w_rj4, w_wj4, w_uj1, w_uj2, w_uj3, w_uj4, sl_J, w_setJ, w_setJ1, w_aJs, w_aJs1, w_aJs2, w_aJs3, w_jop, w_jop1, w_jop2, w_jop3, w_jop4, w_retJ, w_retJ1, w_aJ, w_aJ1, w_CJ, w_CJ1, List.getElem?_cons_zero, List.getElem?_cons_succ, List.set_cons_zero, List.set_cons_succ, List.map_cons, List.map_nil, List.length_cons, List.length_nil, List.cons_append, List.nil_append, List.append_nil, List.replicate_succ, List.replicate_zero, Nat.reduceSub, Nat.reduceAdd, Nat.reduceEqDiff, if_true, if_false, true_and, and_true, reduceCtorEq, ite_true, ite_false, Bool.false_eq_true, Nat.zero_add, Nat.add_zero, Nat.sub_self, Nat.reduceLT, decide_eq_true_eq, Bool.not_eq_true, not_true_eq_false, not_false_eq_true, decide_true, decide_false, decide_not, Bool.decide_eq_true, and_self, or_self, or_true, true_or, or_false, false_or, false_and, and_false, ne_eq, Bool.not_not, Bool.not_eq_eq_eq_not, Nat.reduceEqDiff, Nat.reduceLeDiff, Bool.not_true, Bool.not_false, eq_self, ladd_I, ladd_L1, ladd_Ln, ladd_n, ladd_J, lrem_I, lrem_L1, lrem_Ln, lrem_N, grw_I, grw_L, grw_n, grw_J, sdr_u, tk_u, sdr_a, tk_a, sdr_r, tk_r, rg_get, List.length_range, fil_2, fil_I, sdr_f, tk_f, sl_fil, aO_2, pr_n, aO_I, aO_L, sl_aO, pr_I, pr_L, sl_pr, gN_n, d1_n, dl_n, gN_I, gN_L, sl_gN, d1_I, d1_L, d1_L1, sl_d1, dl_I, dl_L, dl_L1, sl_dl, sdr_dl, tk_dl, sl_dH, fil_2, sl_gT, sl_tI, tO_2, tO_Ln, tO_I, sl_tO, I1.1.sent, n1, hm]) (fun m hm => by
    obtain ⟨I1, n1⟩ := lI_ok I hi m (by omega)
    have hm1 : m < (lI i σ m).2.2.1 0 := by rw [n1]; exact hm
    have e : m + 1 - 1 = m := by omega
    rw [lI_s]
    by_cases h : laP (lI i σ m) m i = true
    · obtain ⟨a1, a2⟩ := laP_t h
      obtain ⟨b1, b2⟩ := I1.2.2.2 i hi a1 m hm1 a2
      have e1 := ev_tI ⟨I1.1, I1.2.1, I1.2.2.1 i hi⟩ hi hm1 b1 b2
      rw [if_pos h]
      rcases a2 with a2 | a2
      · simp (disch := first | omega | (simp only [w_ui2, w_ul3, w_uj3, ladd_n, lrem_N, grw_n, ladd_Ln, lrem_Ln, grw_L, List.length_range, fil_2, aO_2, pr_n, gN_n, d1_n, dl_n, fil_2, tO_2, tO_Ln]; omega)) only [w_I, w_L, w_L1, w_LR, w_LR1, w_LN, w_LN1, w_LN2, w_null, w_N, w_N1, w_B, w_B1, w_B2, w_GI, w_GI1, w_GR, w_GR1, w_A, w_A1, w_A2, w_A3, w_rd3, w_wr3, w_rd7, w_wr7, w_rd8, w_wr8, w_rd9, w_wr9, w_rd10, w_wr10, w_rm0, w_wm0, w_rm1, w_wm1, w_rm2, w_wm2, w_rm3, w_wm3, w_rm4, w_wm4, w_v0, w_v1, w_v2, w_v3, w_v4, w_v6, w_v7, w_v8, w_v9, w_v10, inB_t, cl_nI, w_ui1, w_ui2, w_ul1, w_ul3, w_lsz, w_lget, w_ladd, w_lrem, sl_ladd, sl_lrem, sl_grw, n_eq, n_lt, n_le, n_add, n_ad1, n_lt4, n_neg, n_lt0, n_ge0, w_M, w_M1, w_M2, w_T, w_T1, w_C, w_C1, w_Z, w_and, w_and1, w_or, w_or1, w_not, w_not1, w_tn, w_tn1, w_E, w_E1, w_E2, w_nl, w_nl1, w_nl2, w_C2_0, w_Z1_0, w_C2_1, w_Z1_1, w_C2_2, w_Z1_2, w_C2_3, w_Z1_3, w_C2_4, w_Z1_4, w_C2_5, w_Z1_5, w_seq, w_seq1, w_seq2, w_seq3, w_if, w_if1, w_skip, w_set, w_set1, w_setR, w_setR1, w_setN, w_setN1, w_setN2, w_inc, w_inc1, w_put, w_put1, w_put2, w_put3, w_wf0, w_wf1, w_po, w_po1, w_po2, w_ast, w_ast1, w_ast2, w_ast3, w_aop, w_aop1, w_aop2, w_aop3, w_aop4, w_ret, w_ret0, w_ret1, w_retN, w_retN1, w_retN2, w_retV, w_throw, w_aN, w_aI, w_aI1, w_aI2, w_aR, w_aR1, w_ask, w_ask1, w_V, w_V1, w_V2, w_S, w_S1, w_CI, w_CI1, w_CR, w_CR1, w_CN, w_CN1, w_CN2, w_CV, w_CV1, w_CV2, w_pop, w_pop1, w_popR, w_popR1, w_cast, w_cast1, w_run, lc_0, lc_I, lc_R, lc_N, lc_J, w_run1, w_run2, ite_s1, ite_01, ite_10, ite_nz, i_10, i_01, i_20, i_02, i_21, i_12, i_30, i_03, i_40, i_04, il_00, il_10, il_20, il_01, il_02, sl_r, sl_I, sl_L, w_J, w_LJ, w_LJ1, w_BJ, w_BJ1, w_BJ2, w_Sh, w_Sh1, w_Sh2, w_BC, w_BC1, w_BC2, w_IL, w_IL1, w_LI, w_LI1, w_Rm, w_Rm1, w_Rm2, w_AJ, w_AJ1, w_AJ2, w_AJ3, w_rj0, w_wj0, w_rj1, w_wj1, w_rj2, w_wj2, w_rj3, w_wj3, w_rj4, w_wj4, w_uj1, w_uj2, w_uj3, w_uj4, sl_J, w_setJ, w_setJ1, w_aJs, w_aJs1, w_aJs2, w_aJs3, w_jop, w_jop1, w_jop2, w_jop3, w_jop4, w_retJ, w_retJ1, w_aJ, w_aJ1, w_CJ, w_CJ1, List.getElem?_cons_zero, List.getElem?_cons_succ, List.set_cons_zero, List.set_cons_succ, List.map_cons, List.map_nil, List.length_cons, List.length_nil, List.cons_append, List.nil_append, List.append_nil, List.replicate_succ, List.replicate_zero, Nat.reduceSub, Nat.reduceAdd, Nat.reduceEqDiff, if_true, if_false, true_and, and_true, reduceCtorEq, ite_true, ite_false, Bool.false_eq_true, Nat.zero_add, Nat.add_zero, Nat.sub_self, Nat.reduceLT, decide_eq_true_eq, Bool.not_eq_true, not_true_eq_false, not_false_eq_true, decide_true, decide_false, decide_not, Bool.decide_eq_true, and_self, or_self, or_true, true_or, or_false, false_or, false_and, and_false, ne_eq, Bool.not_not, Bool.not_eq_eq_eq_not, Nat.reduceEqDiff, Nat.reduceLeDiff, Bool.not_true, Bool.not_false, eq_self, ladd_I, ladd_L1, ladd_Ln, ladd_n, ladd_J, lrem_I, lrem_L1, lrem_Ln, lrem_N, grw_I, grw_L, grw_n, grw_J, sdr_u, tk_u, sdr_a, tk_a, sdr_r, tk_r, rg_get, List.length_range, fil_2, fil_I, sdr_f, tk_f, sl_fil, aO_2, pr_n, aO_I, aO_L, sl_aO, pr_I, pr_L, sl_pr, gN_n, d1_n, dl_n, gN_I, gN_L, sl_gN, d1_I, d1_L, d1_L1, sl_d1, dl_I, dl_L, dl_L1, sl_dl, sdr_dl, tk_dl, sl_dH, fil_2, sl_gT, sl_tI, tO_2, tO_Ln, tO_I, sl_tO, I1.1.sget, a1, a2, e1, Nat.add_one_ne_zero, e]
      · simp (disch := first | omega | (simp only [w_ui2, w_ul3, w_uj3, ladd_n, lrem_N, grw_n, ladd_Ln, lrem_Ln, grw_L, List.length_range, fil_2, aO_2, pr_n, gN_n, d1_n, dl_n, fil_2, tO_2, tO_Ln]; omega)) only [w_I, w_L, w_L1, w_LR, w_LR1, w_LN, w_LN1, w_LN2, w_null, w_N, w_N1, w_B, w_B1, w_B2, w_GI, w_GI1, w_GR, w_GR1, w_A, w_A1, w_A2, w_A3, w_rd3, w_wr3, w_rd7, w_wr7, w_rd8, w_wr8, w_rd9, w_wr9, w_rd10, w_wr10, w_rm0, w_wm0, w_rm1, w_wm1, w_rm2, w_wm2, w_rm3, w_wm3, w_rm4, w_wm4, w_v0, w_v1, w_v2, w_v3, w_v4, w_v6, w_v7, w_v8, w_v9, w_v10, inB_t, cl_nI, w_ui1, w_ui2, w_ul1, w_ul3, w_lsz, w_lget, w_ladd, w_lrem, sl_ladd, sl_lrem, sl_grw, n_eq, n_lt, n_le, n_add, n_ad1, n_lt4, n_neg, n_lt0, n_ge0, w_M, w_M1, w_M2, w_T, w_T1, w_C, w_C1, w_Z, w_and, w_and1, w_or, w_or1, w_not, w_not1, w_tn, w_tn1, w_E, w_E1, w_E2, w_nl, w_nl1, w_nl2, w_C2_0, w_Z1_0, w_C2_1, w_Z1_1, w_C2_2, w_Z1_2, w_C2_3, w_Z1_3, w_C2_4, w_Z1_4, w_C2_5, w_Z1_5, w_seq, w_seq1, w_seq2, w_seq3, w_if, w_if1, w_skip, w_set, w_set1, w_setR, w_setR1, w_setN, w_setN1, w_setN2, w_inc, w_inc1, w_put, w_put1, w_put2, w_put3, w_wf0, w_wf1, w_po, w_po1, w_po2, w_ast, w_ast1, w_ast2, w_ast3, w_aop, w_aop1, w_aop2, w_aop3, w_aop4, w_ret, w_ret0, w_ret1, w_retN, w_retN1, w_retN2, w_retV, w_throw, w_aN, w_aI, w_aI1, w_aI2, w_aR, w_aR1, w_ask, w_ask1, w_V, w_V1, w_V2, w_S, w_S1, w_CI, w_CI1, w_CR, w_CR1, w_CN, w_CN1, w_CN2, w_CV, w_CV1, w_CV2, w_pop, w_pop1, w_popR, w_popR1, w_cast, w_cast1, w_run, lc_0, lc_I, lc_R, lc_N, lc_J, w_run1, w_run2, ite_s1, ite_01, ite_10, ite_nz, i_10, i_01, i_20, i_02, i_21, i_12, i_30, i_03, i_40, i_04, il_00, il_10, il_20, il_01, il_02, sl_r, sl_I, sl_L, w_J, w_LJ, w_LJ1, w_BJ, w_BJ1, w_BJ2, w_Sh, w_Sh1, w_Sh2, w_BC, w_BC1, w_BC2, w_IL, w_IL1, w_LI, w_LI1, w_Rm, w_Rm1, w_Rm2, w_AJ, w_AJ1, w_AJ2, w_AJ3, w_rj0, w_wj0, w_rj1, w_wj1, w_rj2, w_wj2, w_rj3, w_wj3, w_rj4, w_wj4, w_uj1, w_uj2, w_uj3, w_uj4, sl_J, w_setJ, w_setJ1, w_aJs, w_aJs1, w_aJs2, w_aJs3, w_jop, w_jop1, w_jop2, w_jop3, w_jop4, w_retJ, w_retJ1, w_aJ, w_aJ1, w_CJ, w_CJ1, List.getElem?_cons_zero, List.getElem?_cons_succ, List.set_cons_zero, List.set_cons_succ, List.map_cons, List.map_nil, List.length_cons, List.length_nil, List.cons_append, List.nil_append, List.append_nil, List.replicate_succ, List.replicate_zero, Nat.reduceSub, Nat.reduceAdd, Nat.reduceEqDiff, if_true, if_false, true_and, and_true, reduceCtorEq, ite_true, ite_false, Bool.false_eq_true, Nat.zero_add, Nat.add_zero, Nat.sub_self, Nat.reduceLT, decide_eq_true_eq, Bool.not_eq_true, not_true_eq_false, not_false_eq_true, decide_true, decide_false, decide_not, Bool.decide_eq_true, and_self, or_self, or_true, true_or, or_false, false_or, false_and, and_false, ne_eq, Bool.not_not, Bool.not_eq_eq_eq_not, Nat.reduceEqDiff, Nat.reduceLeDiff, Bool.not_true, Bool.not_false, eq_self, ladd_I, ladd_L1, ladd_Ln, ladd_n, ladd_J, lrem_I, lrem_L1, lrem_Ln, lrem_N, grw_I, grw_L, grw_n, grw_J, sdr_u, tk_u, sdr_a, tk_a, sdr_r, tk_r, rg_get, List.length_range, fil_2, fil_I, sdr_f, tk_f, sl_fil, aO_2, pr_n, aO_I, aO_L, sl_aO, pr_I, pr_L, sl_pr, gN_n, d1_n, dl_n, gN_I, gN_L, sl_gN, d1_I, d1_L, d1_L1, sl_d1, dl_I, dl_L, dl_L1, sl_dl, sdr_dl, tk_dl, sl_dH, fil_2, sl_gT, sl_tI, tO_2, tO_Ln, tO_I, sl_tO, I1.1.sget, a1, a2, e1, Nat.add_one_ne_zero, e]
    · rw [if_neg h]
      by_cases a1 : (lI i σ m).1 13 i 0 = 0
      · simp (disch := first | omega | (simp only [w_ui2, w_ul3, w_uj3, ladd_n, lrem_N, grw_n, ladd_Ln, lrem_Ln, grw_L, List.length_range, fil_2, aO_2, pr_n, gN_n, d1_n, dl_n, fil_2, tO_2, tO_Ln]; omega)) only [w_I, w_L, w_L1, w_LR, w_LR1, w_LN, w_LN1, w_LN2, w_null, w_N, w_N1, w_B, w_B1, w_B2, w_GI, w_GI1, w_GR, w_GR1, w_A, w_A1, w_A2, w_A3, w_rd3, w_wr3, w_rd7, w_wr7, w_rd8, w_wr8, w_rd9, w_wr9, w_rd10, w_wr10, w_rm0, w_wm0, w_rm1, w_wm1, w_rm2, w_wm2, w_rm3, w_wm3, w_rm4, w_wm4, w_v0, w_v1, w_v2, w_v3, w_v4, w_v6, w_v7, w_v8, w_v9, w_v10, inB_t, cl_nI, w_ui1, w_ui2, w_ul1, w_ul3, w_lsz, w_lget, w_ladd, w_lrem, sl_ladd, sl_lrem, sl_grw, n_eq, n_lt, n_le, n_add, n_ad1, n_lt4, n_neg, n_lt0, n_ge0, w_M, w_M1, w_M2, w_T, w_T1, w_C, w_C1, w_Z, w_and, w_and1, w_or, w_or1, w_not, w_not1, w_tn, w_tn1, w_E, w_E1, w_E2, w_nl, w_nl1, w_nl2, w_C2_0, w_Z1_0, w_C2_1, w_Z1_1, w_C2_2, w_Z1_2, w_C2_3, w_Z1_3, w_C2_4, w_Z1_4, w_C2_5, w_Z1_5, w_seq, w_seq1, w_seq2, w_seq3, w_if, w_if1, w_skip, w_set, w_set1, w_setR, w_setR1, w_setN, w_setN1, w_setN2, w_inc, w_inc1, w_put, w_put1, w_put2, w_put3, w_wf0, w_wf1, w_po, w_po1, w_po2, w_ast, w_ast1, w_ast2, w_ast3, w_aop, w_aop1, w_aop2, w_aop3, w_aop4, w_ret, w_ret0, w_ret1, w_retN, w_retN1, w_retN2, w_retV, w_throw, w_aN, w_aI, w_aI1, w_aI2, w_aR, w_aR1, w_ask, w_ask1, w_V, w_V1, w_V2, w_S, w_S1, w_CI, w_CI1, w_CR, w_CR1, w_CN, w_CN1, w_CN2, w_CV, w_CV1, w_CV2, w_pop, w_pop1, w_popR, w_popR1, w_cast, w_cast1, w_run, lc_0, lc_I, lc_R, lc_N, lc_J, w_run1, w_run2, ite_s1, ite_01, ite_10, ite_nz, i_10, i_01, i_20, i_02, i_21, i_12, i_30, i_03, i_40, i_04, il_00, il_10, il_20, il_01, il_02, sl_r, sl_I, sl_L, w_J, w_LJ, w_LJ1, w_BJ, w_BJ1, w_BJ2, w_Sh, w_Sh1, w_Sh2, w_BC, w_BC1, w_BC2, w_IL, w_IL1, w_LI, w_LI1, w_Rm, w_Rm1, w_Rm2, w_AJ, w_AJ1, w_AJ2, w_AJ3, w_rj0, w_wj0, w_rj1, w_wj1, w_rj2, w_wj2, w_rj3, w_wj3, w_rj4, w_wj4, w_uj1, w_uj2, w_uj3, w_uj4, sl_J, w_setJ, w_setJ1, w_aJs, w_aJs1, w_aJs2, w_aJs3, w_jop, w_jop1, w_jop2, w_jop3, w_jop4, w_retJ, w_retJ1, w_aJ, w_aJ1, w_CJ, w_CJ1, List.getElem?_cons_zero, List.getElem?_cons_succ, List.set_cons_zero, List.set_cons_succ, List.map_cons, List.map_nil, List.length_cons, List.length_nil, List.cons_append, List.nil_append, List.append_nil, List.replicate_succ, List.replicate_zero, Nat.reduceSub, Nat.reduceAdd, Nat.reduceEqDiff, if_true, if_false, true_and, and_true, reduceCtorEq, ite_true, ite_false, Bool.false_eq_true, Nat.zero_add, Nat.add_zero, Nat.sub_self, Nat.reduceLT, decide_eq_true_eq, Bool.not_eq_true, not_true_eq_false, not_false_eq_true, decide_true, decide_false, decide_not, Bool.decide_eq_true, and_self, or_self, or_true, true_or, or_false, false_or, false_and, and_false, ne_eq, Bool.not_not, Bool.not_eq_eq_eq_not, Nat.reduceEqDiff, Nat.reduceLeDiff, Bool.not_true, Bool.not_false, eq_self, ladd_I, ladd_L1, ladd_Ln, ladd_n, ladd_J, lrem_I, lrem_L1, lrem_Ln, lrem_N, grw_I, grw_L, grw_n, grw_J, sdr_u, tk_u, sdr_a, tk_a, sdr_r, tk_r, rg_get, List.length_range, fil_2, fil_I, sdr_f, tk_f, sl_fil, aO_2, pr_n, aO_I, aO_L, sl_aO, pr_I, pr_L, sl_pr, gN_n, d1_n, dl_n, gN_I, gN_L, sl_gN, d1_I, d1_L, d1_L1, sl_d1, dl_I, dl_L, dl_L1, sl_dl, sdr_dl, tk_dl, sl_dH, fil_2, sl_gT, sl_tI, tO_2, tO_Ln, tO_I, sl_tO, I1.1.sget, a1, Nat.add_one_ne_zero, e]
      · have a2 : ¬ (lI i σ m).1 27 m i = 0 := fun q => h (by simp [laP, a1, q])
        have a3 : ¬ (lI i σ m).1 27 m i = 3 := fun q => h (by simp [laP, a1, q])
        simp (disch := first | omega | (simp only [w_ui2, w_ul3, w_uj3, ladd_n, lrem_N, grw_n, ladd_Ln, lrem_Ln, grw_L, List.length_range, fil_2, aO_2, pr_n, gN_n, d1_n, dl_n, fil_2, tO_2, tO_Ln]; omega)) only [w_I, w_L, w_L1, w_LR, w_LR1, w_LN, w_LN1, w_LN2, w_null, w_N, w_N1, w_B, w_B1, w_B2, w_GI, w_GI1, w_GR, w_GR1, w_A, w_A1, w_A2, w_A3, w_rd3, w_wr3, w_rd7, w_wr7, w_rd8, w_wr8, w_rd9, w_wr9, w_rd10, w_wr10, w_rm0, w_wm0, w_rm1, w_wm1, w_rm2, w_wm2, w_rm3, w_wm3, w_rm4, w_wm4, w_v0, w_v1, w_v2, w_v3, w_v4, w_v6, w_v7, w_v8, w_v9, w_v10, inB_t, cl_nI, w_ui1, w_ui2, w_ul1, w_ul3, w_lsz, w_lget, w_ladd, w_lrem, sl_ladd, sl_lrem, sl_grw, n_eq, n_lt, n_le, n_add, n_ad1, n_lt4, n_neg, n_lt0, n_ge0, w_M, w_M1, w_M2, w_T, w_T1, w_C, w_C1, w_Z, w_and, w_and1, w_or, w_or1, w_not, w_not1, w_tn, w_tn1, w_E, w_E1, w_E2, w_nl, w_nl1, w_nl2, w_C2_0, w_Z1_0, w_C2_1, w_Z1_1, w_C2_2, w_Z1_2, w_C2_3, w_Z1_3, w_C2_4, w_Z1_4, w_C2_5, w_Z1_5, w_seq, w_seq1, w_seq2, w_seq3, w_if, w_if1, w_skip, w_set, w_set1, w_setR, w_setR1, w_setN, w_setN1, w_setN2, w_inc, w_inc1, w_put, w_put1, w_put2, w_put3, w_wf0, w_wf1, w_po, w_po1, w_po2, w_ast, w_ast1, w_ast2, w_ast3, w_aop, w_aop1, w_aop2, w_aop3, w_aop4, w_ret, w_ret0, w_ret1, w_retN, w_retN1, w_retN2, w_retV, w_throw, w_aN, w_aI, w_aI1, w_aI2, w_aR, w_aR1, w_ask, w_ask1, w_V, w_V1, w_V2, w_S, w_S1, w_CI, w_CI1, w_CR, w_CR1, w_CN, w_CN1, w_CN2, w_CV, w_CV1, w_CV2, w_pop, w_pop1, w_popR, w_popR1, w_cast, w_cast1, w_run, lc_0, lc_I, lc_R, lc_N, lc_J, w_run1, w_run2, ite_s1, ite_01, ite_10, ite_nz, i_10, i_01, i_20, i_02, i_21, i_12, i_30, i_03, i_40, i_04, il_00, il_10, il_20, il_01, il_02, sl_r, sl_I, sl_L, w_J, w_LJ, w_LJ1, w_BJ, w_BJ1, w_BJ2, w_Sh, w_Sh1, w_Sh2, w_BC, w_BC1, w_BC2, w_IL, w_IL1, w_LI, w_LI1, w_Rm, w_Rm1, w_Rm2, w_AJ, w_AJ1, w_AJ2, w_AJ3, w_rj0, w_wj0, w_rj1, w_wj1, w_rj2, w_wj2, w_rj3, w_wj3, w_rj4, w_wj4, w_uj1, w_uj2, w_uj3, w_uj4, sl_J, w_setJ, w_setJ1, w_aJs, w_aJs1, w_aJs2, w_aJs3, w_jop, w_jop1, w_jop2, w_jop3, w_jop4, w_retJ, w_retJ1, w_aJ, w_aJ1, w_CJ, w_CJ1, List.getElem?_cons_zero, List.getElem?_cons_succ, List.set_cons_zero, List.set_cons_succ, List.map_cons, List.map_nil, List.length_cons, List.length_nil, List.cons_append, List.nil_append, List.append_nil, List.replicate_succ, List.replicate_zero, Nat.reduceSub, Nat.reduceAdd, Nat.reduceEqDiff, if_true, if_false, true_and, and_true, reduceCtorEq, ite_true, ite_false, Bool.false_eq_true, Nat.zero_add, Nat.add_zero, Nat.sub_self, Nat.reduceLT, decide_eq_true_eq, Bool.not_eq_true, not_true_eq_false, not_false_eq_true, decide_true, decide_false, decide_not, Bool.decide_eq_true, and_self, or_self, or_true, true_or, or_false, false_or, false_and, and_false, ne_eq, Bool.not_not, Bool.not_eq_eq_eq_not, Nat.reduceEqDiff, Nat.reduceLeDiff, Bool.not_true, Bool.not_false, eq_self, ladd_I, ladd_L1, ladd_Ln, ladd_n, ladd_J, lrem_I, lrem_L1, lrem_Ln, lrem_N, grw_I, grw_L, grw_n, grw_J, sdr_u, tk_u, sdr_a, tk_a, sdr_r, tk_r, rg_get, List.length_range, fil_2, fil_I, sdr_f, tk_f, sl_fil, aO_2, pr_n, aO_I, aO_L, sl_aO, pr_I, pr_L, sl_pr, gN_n, d1_n, dl_n, gN_I, gN_L, sl_gN, d1_I, d1_L, d1_L1, sl_d1, dl_I, dl_L, dl_L1, sl_dl, sdr_dl, tk_dl, sl_dH, fil_2, sl_gT, sl_tI, tO_2, tO_Ln, tO_I, sl_tO, I1.1.sget, a1, a2, a3, Nat.add_one_ne_zero, e]) (by
    obtain ⟨I1, n1⟩ := lI_ok I hi (σ.2.2.1 0) (Nat.le_refl _)
    simp (disch := first | omega | (simp only [w_ui2, w_ul3, w_uj3, ladd_n, lrem_N, grw_n, ladd_Ln, lrem_Ln, grw_L, List.length_range, fil_2, aO_2, pr_n, gN_n, d1_n, dl_n, fil_2, tO_2, tO_Ln]; omega)) only [w_I, w_L, w_L1, w_LR, w_LR1, w_LN, w_LN1, w_LN2, w_null, w_N, w_N1, w_B, w_B1, w_B2, w_GI, w_GI1, w_GR, w_GR1, w_A, w_A1, w_A2, w_A3, w_rd3, w_wr3, w_rd7, w_wr7, w_rd8, w_wr8, w_rd9, w_wr9, w_rd10, w_wr10, w_rm0, w_wm0, w_rm1, w_wm1, w_rm2, w_wm2, w_rm3, w_wm3, w_rm4, w_wm4, w_v0, w_v1, w_v2, w_v3, w_v4, w_v6, w_v7, w_v8, w_v9, w_v10, inB_t, cl_nI, w_ui1, w_ui2, w_ul1, w_ul3, w_lsz, w_lget, w_ladd, w_lrem, sl_ladd, sl_lrem, sl_grw, n_eq, n_lt, n_le, n_add, n_ad1, n_lt4, n_neg, n_lt0, n_ge0, w_M, w_M1, w_M2, w_T, w_T1, w_C, w_C1, w_Z, w_and, w_and1, w_or, w_or1, w_not, w_not1, w_tn, w_tn1, w_E, w_E1, w_E2, w_nl, w_nl1, w_nl2, w_C2_0, w_Z1_0, w_C2_1, w_Z1_1, w_C2_2, w_Z1_2, w_C2_3, w_Z1_3, w_C2_4, w_Z1_4, w_C2_5, w_Z1_5, w_seq, w_seq1, w_seq2, w_seq3, w_if, w_if1, w_skip, w_set, w_set1, w_setR, w_setR1, w_setN, w_setN1, w_setN2, w_inc, w_inc1, w_put, w_put1, w_put2, w_put3, w_wf0, w_wf1, w_po, w_po1, w_po2, w_ast, w_ast1, w_ast2, w_ast3, w_aop, w_aop1, w_aop2, w_aop3, w_aop4, w_ret, w_ret0, w_ret1, w_retN, w_retN1, w_retN2, w_retV, w_throw, w_aN, w_aI, w_aI1, w_aI2, w_aR, w_aR1, w_ask, w_ask1, w_V, w_V1, w_V2, w_S, w_S1, w_CI, w_CI1, w_CR, w_CR1, w_CN, w_CN1, w_CN2, w_CV, w_CV1, w_CV2, w_pop, w_pop1, w_popR, w_popR1, w_cast, w_cast1, w_run, lc_0, lc_I, lc_R, lc_N, lc_J, w_run1, w_run2, ite_s1, ite_01, ite_10, ite_nz, i_10, i_01, i_20, i_02, i_21, i_12, i_30, i_03, i_40, i_04, il_00, il_10, il_20, il_01, il_02, sl_r, sl_I, sl_L, w_J, w_LJ, w_LJ1, w_BJ, w_BJ1, w_BJ2, w_Sh, w_Sh1, w_Sh2, w_BC, w_BC1, w_BC2, w_IL, w_IL1, w_LI, w_LI1, w_Rm, w_Rm1, w_Rm2, w_AJ, w_AJ1, w_AJ2, w_AJ3, w_rj0, w_wj0, w_rj1, w_wj1, w_rj2, w_wj2, w_rj3, w_wj3, w_rj4, w_wj4, w_uj1, w_uj2, w_uj3, w_uj4, sl_J, w_setJ, w_setJ1, w_aJs, w_aJs1, w_aJs2, w_aJs3, w_jop, w_jop1, w_jop2, w_jop3, w_jop4, w_retJ, w_retJ1, w_aJ, w_aJ1, w_CJ, w_CJ1, List.getElem?_cons_zero, List.getElem?_cons_succ, List.set_cons_zero, List.set_cons_succ, List.map_cons, List.map_nil, List.length_cons, List.length_nil, List.cons_append, List.nil_append, List.append_nil, List.replicate_succ, List.replicate_zero, Nat.reduceSub, Nat.reduceAdd, Nat.reduceEqDiff, if_true, if_false, true_and, and_true, reduceCtorEq, ite_true, ite_false, Bool.false_eq_true, Nat.zero_add, Nat.add_zero, Nat.sub_self, Nat.reduceLT, decide_eq_true_eq, Bool.not_eq_true, not_true_eq_false, not_false_eq_true, decide_true, decide_false, decide_not, Bool.decide_eq_true, and_self, or_self, or_true, true_or, or_false, false_or, false_and, and_false, ne_eq, Bool.not_not, Bool.not_eq_eq_eq_not, Nat.reduceEqDiff, Nat.reduceLeDiff, Bool.not_true, Bool.not_false, eq_self, ladd_I, ladd_L1, ladd_Ln, ladd_n, ladd_J, lrem_I, lrem_L1, lrem_Ln, lrem_N, grw_I, grw_L, grw_n, grw_J, sdr_u, tk_u, sdr_a, tk_a, sdr_r, tk_r, rg_get, List.length_range, fil_2, fil_I, sdr_f, tk_f, sl_fil, aO_2, pr_n, aO_I, aO_L, sl_aO, pr_I, pr_L, sl_pr, gN_n, d1_n, dl_n, gN_I, gN_L, sl_gN, d1_I, d1_L, d1_L1, sl_d1, dl_I, dl_L, dl_L1, sl_dl, sdr_dl, tk_dl, sl_dH, fil_2, sl_gT, sl_tI, tO_2, tO_Ln, tO_I, sl_tO, I1.1.sent, n1, Nat.lt_irrefl])
  have e0 : lI i σ 0 = σ := rfl
  simp only [nI_0, if_true, e0] at hl
  exact hl
theorem ev_lO (I : IL σ) : f_X2_letAllArrive [ar (0, 0)] σ = some (.inl none, lO σ 4) := by
  obtain ⟨s, h1, y1, y2, h2⟩ := wh_inv (N := 1000) (c := (cCmp (bop 0) (xL 1) (xI 4))) (b := (sSeq (sSeq (sSet 2 (xI 0)) (sWh (cCmp (bop 0) (xL 2) (xCI (xV 4 f_lsize (xGR 0 (fun _ => (4, 0)) (xLR 0)) aNil))) (sSeq (sSeq (sSet 3 (xAld false (xGR 6 (fun i => (8, i)) (xCast 6 (xCR (xV 4 f_lget (xGR 0 (fun _ => (4, 0)) (xLR 0)) (aI (xL 2) aNil))))) (xL 1))) (sIf (cAnd (cZ (fun x => bop 5 x 0) (xGI 2 13 (xMem (xGR 0 (fun _ => (1, 0)) (xLR 0)) (xL 1)))) (cOr (cZ (fun x => bop 4 x 0) (xL 3)) (cCmp (bop 4) (xL 3) (xI 3)))) (sPop (xCI (xV 0 f_X2_takeIn (xLR 0) (aR (xCast 6 (xCR (xV 4 f_lget (xGR 0 (fun _ => (4, 0)) (xLR 0)) (aI (xL 2) aNil)))) (aR (xMem (xGR 0 (fun _ => (1, 0)) (xLR 0)) (xL 1)) aNil))))) sSkip)) (sInc 2 1)) 1000)) (sInc 1 1))) (fun i s => ∃ y1 y2 : Option AV, s = ([some (ar (0, 0)), some (ai (nI i)), y1, y2], lO σ i)) 4 (by decide) (fun i hi s hs => by
    obtain ⟨y1, y2, rfl⟩ := hs
    simp (disch := first | omega | (simp only [w_ui2, w_ul3, w_uj3, ladd_n, lrem_N, grw_n, ladd_Ln, lrem_Ln, grw_L, List.length_range, fil_2, aO_2, pr_n, gN_n, d1_n, dl_n, fil_2, tO_2, tO_Ln]; omega)) only [w_I, w_L, w_L1, w_LR, w_LR1, w_LN, w_LN1, w_LN2, w_null, w_N, w_N1, w_B, w_B1, w_B2, w_GI, w_GI1, w_GR, w_GR1, w_A, w_A1, w_A2, w_A3, w_rd3, w_wr3, w_rd7, w_wr7, w_rd8, w_wr8, w_rd9, w_wr9, w_rd10, w_wr10, w_rm0, w_wm0, w_rm1, w_wm1, w_rm2, w_wm2, w_rm3, w_wm3, w_rm4, w_wm4, w_v0, w_v1, w_v2, w_v3, w_v4, w_v6, w_v7, w_v8, w_v9, w_v10, inB_t, cl_nI, w_ui1, w_ui2, w_ul1, w_ul3, w_lsz, w_lget, w_ladd, w_lrem, sl_ladd, sl_lrem, sl_grw, n_eq, n_lt, n_le, n_add, n_ad1, n_lt4, n_neg, n_lt0, n_ge0, w_M, w_M1, w_M2, w_T, w_T1, w_C, w_C1, w_Z, w_and, w_and1, w_or, w_or1, w_not, w_not1, w_tn, w_tn1, w_E, w_E1, w_E2, w_nl, w_nl1, w_nl2, w_C2_0, w_Z1_0, w_C2_1, w_Z1_1, w_C2_2, w_Z1_2, w_C2_3, w_Z1_3, w_C2_4, w_Z1_4, w_C2_5, w_Z1_5, w_seq, w_seq1, w_seq2, w_seq3, w_if, w_if1, w_skip, w_set, w_set1, w_setR, w_setR1, w_setN, w_setN1, w_setN2, w_inc, w_inc1, w_put, w_put1, w_put2, w_put3, w_wf0, w_wf1, w_po, w_po1, w_po2, w_ast, w_ast1, w_ast2, w_ast3, w_aop, w_aop1, w_aop2, w_aop3, w_aop4, w_ret, w_ret0, w_ret1, w_retN, w_retN1, w_retN2, w_retV, w_throw, w_aN, w_aI, w_aI1, w_aI2, w_aR, w_aR1, w_ask, w_ask1, w_V, w_V1, w_V2, w_S, w_S1, w_CI, w_CI1, w_CR, w_CR1, w_CN, w_CN1, w_CN2, w_CV, w_CV1, w_CV2, w_pop, w_pop1, w_popR, w_popR1, w_cast, w_cast1, w_run, lc_0, lc_I, lc_R, lc_N, lc_J, w_run1, w_run2, ite_s1, ite_01, ite_10, ite_nz, i_10, i_01, i_20, i_02, i_21, i_12, i_30, i_03, i_40, i_04, il_00, il_10, il_20, il_01, il_02, sl_r, sl_I, sl_L, w_J, w_LJ, w_LJ1, w_BJ, w_BJ1, w_BJ2, w_Sh, w_Sh1, w_Sh2, w_BC, w_BC1, w_BC2, w_IL, w_IL1, w_LI, w_LI1, w_Rm, w_Rm1, w_Rm2, w_AJ, w_AJ1, w_AJ2, w_AJ3, w_rj0, w_wj0, w_rj1, w_wj1, w_rj2, w_wj2, w_rj3, w_wj3, w_rj4, w_wj4, w_uj1, w_uj2, w_uj3, w_uj4, sl_J, w_setJ, w_setJ1, w_aJs, w_aJs1, w_aJs2, w_aJs3, w_jop, w_jop1, w_jop2, w_jop3, w_jop4, w_retJ, w_retJ1, w_aJ, w_aJ1, w_CJ, w_CJ1, List.getElem?_cons_zero, List.getElem?_cons_succ, List.set_cons_zero, List.set_cons_succ, List.map_cons, List.map_nil, List.length_cons, List.length_nil, List.cons_append, List.nil_append, List.append_nil, List.replicate_succ, List.replicate_zero, Nat.reduceSub, Nat.reduceAdd, Nat.reduceEqDiff, if_true, if_false, true_and, and_true, reduceCtorEq, ite_true, ite_false, Bool.false_eq_true, Nat.zero_add, Nat.add_zero, Nat.sub_self, Nat.reduceLT, decide_eq_true_eq, Bool.not_eq_true, not_true_eq_false, not_false_eq_true, decide_true, decide_false, decide_not, Bool.decide_eq_true, and_self, or_self, or_true, true_or, or_false, false_or, false_and, and_false, ne_eq, Bool.not_not, Bool.not_eq_eq_eq_not, Nat.reduceEqDiff, Nat.reduceLeDiff, Bool.not_true, Bool.not_false, eq_self, ladd_I, ladd_L1, ladd_Ln, ladd_n, ladd_J, lrem_I, lrem_L1, lrem_Ln, lrem_N, grw_I, grw_L, grw_n, grw_J, sdr_u, tk_u, sdr_a, tk_a, sdr_r, tk_r, rg_get, List.length_range, fil_2, fil_I, sdr_f, tk_f, sl_fil, aO_2, pr_n, aO_I, aO_L, sl_aO, pr_I, pr_L, sl_pr, gN_n, d1_n, dl_n, gN_I, gN_L, sl_gN, d1_I, d1_L, d1_L1, sl_d1, dl_I, dl_L, dl_L1, sl_dl, sdr_dl, tk_dl, sl_dH, fil_2, sl_gT, sl_tI, tO_2, tO_Ln, tO_I, sl_tO, hi]) (fun i hi s hs => by
    obtain ⟨y1, y2, rfl⟩ := hs
    obtain ⟨I1, n1⟩ := lO_ok I i (by omega)
    obtain ⟨z3, hl⟩ := ev_lI I1 hi (z := y2)
    rw [n1] at hl
    refine ⟨([some (ar (0, 0)), some (ai (nI (i + 1))), some (ai (nI (σ.2.2.1 0))), z3], lO σ (i + 1)), ?_, _, _, rfl⟩
    rw [lO_s]
    simp (disch := first | omega | (simp only [w_ui2, w_ul3, w_uj3, ladd_n, lrem_N, grw_n, ladd_Ln, lrem_Ln, grw_L, List.length_range, fil_2, aO_2, pr_n, gN_n, d1_n, dl_n, fil_2, tO_2, tO_Ln]; omega)) only [w_I, w_L, w_L1, w_LR, w_LR1, w_LN, w_LN1, w_LN2, w_null, w_N, w_N1, w_B, w_B1, w_B2, w_GI, w_GI1, w_GR, w_GR1, w_A, w_A1, w_A2, w_A3, w_rd3, w_wr3, w_rd7, w_wr7, w_rd8, w_wr8, w_rd9, w_wr9, w_rd10, w_wr10, w_rm0, w_wm0, w_rm1, w_wm1, w_rm2, w_wm2, w_rm3, w_wm3, w_rm4, w_wm4, w_v0, w_v1, w_v2, w_v3, w_v4, w_v6, w_v7, w_v8, w_v9, w_v10, inB_t, cl_nI, w_ui1, w_ui2, w_ul1, w_ul3, w_lsz, w_lget, w_ladd, w_lrem, sl_ladd, sl_lrem, sl_grw, n_eq, n_lt, n_le, n_add, n_ad1, n_lt4, n_neg, n_lt0, n_ge0, w_M, w_M1, w_M2, w_T, w_T1, w_C, w_C1, w_Z, w_and, w_and1, w_or, w_or1, w_not, w_not1, w_tn, w_tn1, w_E, w_E1, w_E2, w_nl, w_nl1, w_nl2, w_C2_0, w_Z1_0, w_C2_1, w_Z1_1, w_C2_2, w_Z1_2, w_C2_3, w_Z1_3, w_C2_4, w_Z1_4, w_C2_5, w_Z1_5, w_seq, w_seq1, w_seq2, w_seq3, w_if, w_if1, w_skip, w_set, w_set1, w_setR, w_setR1, w_setN, w_setN1, w_setN2, w_inc, w_inc1, w_put, w_put1, w_put2, w_put3, w_wf0, w_wf1, w_po, w_po1, w_po2, w_ast, w_ast1, w_ast2, w_ast3, w_aop, w_aop1, w_aop2, w_aop3, w_aop4, w_ret, w_ret0, w_ret1, w_retN, w_retN1, w_retN2, w_retV, w_throw, w_aN, w_aI, w_aI1, w_aI2, w_aR, w_aR1, w_ask, w_ask1, w_V, w_V1, w_V2, w_S, w_S1, w_CI, w_CI1, w_CR, w_CR1, w_CN, w_CN1, w_CN2, w_CV, w_CV1, w_CV2, w_pop, w_pop1, w_popR, w_popR1, w_cast, w_cast1, w_run, lc_0, lc_I, lc_R, lc_N, lc_J, w_run1, w_run2, ite_s1, ite_01, ite_10, ite_nz, i_10, i_01, i_20, i_02, i_21, i_12, i_30, i_03, i_40, i_04, il_00, il_10, il_20, il_01, il_02, sl_r, sl_I, sl_L, w_J, w_LJ, w_LJ1, w_BJ, w_BJ1, w_BJ2, w_Sh, w_Sh1, w_Sh2, w_BC, w_BC1, w_BC2, w_IL, w_IL1, w_LI, w_LI1, w_Rm, w_Rm1, w_Rm2, w_AJ, w_AJ1, w_AJ2, w_AJ3, w_rj0, w_wj0, w_rj1, w_wj1, w_rj2, w_wj2, w_rj3, w_wj3, w_rj4, w_wj4, w_uj1, w_uj2, w_uj3, w_uj4, sl_J, w_setJ, w_setJ1, w_aJs, w_aJs1, w_aJs2, w_aJs3, w_jop, w_jop1, w_jop2, w_jop3, w_jop4, w_retJ, w_retJ1, w_aJ, w_aJ1, w_CJ, w_CJ1, List.getElem?_cons_zero, List.getElem?_cons_succ, List.set_cons_zero, List.set_cons_succ, List.map_cons, List.map_nil, List.length_cons, List.length_nil, List.cons_append, List.nil_append, List.append_nil, List.replicate_succ, List.replicate_zero, Nat.reduceSub, Nat.reduceAdd, Nat.reduceEqDiff, if_true, if_false, true_and, and_true, reduceCtorEq, ite_true, ite_false, Bool.false_eq_true, Nat.zero_add, Nat.add_zero, Nat.sub_self, Nat.reduceLT, decide_eq_true_eq, Bool.not_eq_true, not_true_eq_false, not_false_eq_true, decide_true, decide_false, decide_not, Bool.decide_eq_true, and_self, or_self, or_true, true_or, or_false, false_or, false_and, and_false, ne_eq, Bool.not_not, Bool.not_eq_eq_eq_not, Nat.reduceEqDiff, Nat.reduceLeDiff, Bool.not_true, Bool.not_false, eq_self, ladd_I, ladd_L1, ladd_Ln, ladd_n, ladd_J, lrem_I, lrem_L1, lrem_Ln, lrem_N, grw_I, grw_L, grw_n, grw_J, sdr_u, tk_u, sdr_a, tk_a, sdr_r, tk_r, rg_get, List.length_range, fil_2, fil_I, sdr_f, tk_f, sl_fil, aO_2, pr_n, aO_I, aO_L, sl_aO, pr_I, pr_L, sl_pr, gN_n, d1_n, dl_n, gN_I, gN_L, sl_gN, d1_I, d1_L, d1_L1, sl_d1, dl_I, dl_L, dl_L1, sl_dl, sdr_dl, tk_dl, sl_dH, fil_2, sl_gT, sl_tI, tO_2, tO_Ln, tO_I, sl_tO, hl]) (fun s hs => by
    obtain ⟨y1, y2, rfl⟩ := hs
    simp (disch := first | omega | (simp only [w_ui2, w_ul3, w_uj3, ladd_n, lrem_N, grw_n, ladd_Ln, lrem_Ln, grw_L, List.length_range, fil_2, aO_2, pr_n, gN_n, d1_n, dl_n, fil_2, tO_2, tO_Ln]; omega)) only [w_I, w_L, w_L1, w_LR, w_LR1, w_LN, w_LN1, w_LN2, w_null, w_N, w_N1, w_B, w_B1, w_B2, w_GI, w_GI1, w_GR, w_GR1, w_A, w_A1, w_A2, w_A3, w_rd3, w_wr3, w_rd7, w_wr7, w_rd8, w_wr8, w_rd9, w_wr9, w_rd10, w_wr10, w_rm0, w_wm0, w_rm1, w_wm1, w_rm2, w_wm2, w_rm3, w_wm3, w_rm4, w_wm4, w_v0, w_v1, w_v2, w_v3, w_v4, w_v6, w_v7, w_v8, w_v9, w_v10, inB_t, cl_nI, w_ui1, w_ui2, w_ul1, w_ul3, w_lsz, w_lget, w_ladd, w_lrem, sl_ladd, sl_lrem, sl_grw, n_eq, n_lt, n_le, n_add, n_ad1, n_lt4, n_neg, n_lt0, n_ge0, w_M, w_M1, w_M2, w_T, w_T1, w_C, w_C1, w_Z, w_and, w_and1, w_or, w_or1, w_not, w_not1, w_tn, w_tn1, w_E, w_E1, w_E2, w_nl, w_nl1, w_nl2, w_C2_0, w_Z1_0, w_C2_1, w_Z1_1, w_C2_2, w_Z1_2, w_C2_3, w_Z1_3, w_C2_4, w_Z1_4, w_C2_5, w_Z1_5, w_seq, w_seq1, w_seq2, w_seq3, w_if, w_if1, w_skip, w_set, w_set1, w_setR, w_setR1, w_setN, w_setN1, w_setN2, w_inc, w_inc1, w_put, w_put1, w_put2, w_put3, w_wf0, w_wf1, w_po, w_po1, w_po2, w_ast, w_ast1, w_ast2, w_ast3, w_aop, w_aop1, w_aop2, w_aop3, w_aop4, w_ret, w_ret0, w_ret1, w_retN, w_retN1, w_retN2, w_retV, w_throw, w_aN, w_aI, w_aI1, w_aI2, w_aR, w_aR1, w_ask, w_ask1, w_V, w_V1, w_V2, w_S, w_S1, w_CI, w_CI1, w_CR, w_CR1, w_CN, w_CN1, w_CN2, w_CV, w_CV1, w_CV2, w_pop, w_pop1, w_popR, w_popR1, w_cast, w_cast1, w_run, lc_0, lc_I, lc_R, lc_N, lc_J, w_run1, w_run2, ite_s1, ite_01, ite_10, ite_nz, i_10, i_01, i_20, i_02, i_21, i_12, i_30, i_03, i_40, i_04, il_00, il_10, il_20, il_01, il_02, sl_r, sl_I, sl_L, w_J, w_LJ, w_LJ1, w_BJ, w_BJ1, w_BJ2, w_Sh, w_Sh1, w_Sh2, w_BC, w_BC1, w_BC2, w_IL, w_IL1, w_LI, w_LI1, w_Rm, w_Rm1, w_Rm2, w_AJ, w_AJ1, w_AJ2, w_AJ3, w_rj0, w_wj0, w_rj1, w_wj1, w_rj2, w_wj2, w_rj3, w_wj3, w_rj4, w_wj4, w_uj1, w_uj2, w_uj3, w_uj4, sl_J, w_setJ, w_setJ1, w_aJs, w_aJs1, w_aJs2, w_aJs3, w_jop, w_jop1, w_jop2, w_jop3, w_jop4, w_retJ, w_retJ1, w_aJ, w_aJ1, w_CJ, w_CJ1, List.getElem?_cons_zero, List.getElem?_cons_succ, List.set_cons_zero, List.set_cons_succ, List.map_cons, List.map_nil, List.length_cons, List.length_nil, List.cons_append, List.nil_append, List.append_nil, List.replicate_succ, List.replicate_zero, Nat.reduceSub, Nat.reduceAdd, Nat.reduceEqDiff, if_true, if_false, true_and, and_true, reduceCtorEq, ite_true, ite_false, Bool.false_eq_true, Nat.zero_add, Nat.add_zero, Nat.sub_self, Nat.reduceLT, decide_eq_true_eq, Bool.not_eq_true, not_true_eq_false, not_false_eq_true, decide_true, decide_false, decide_not, Bool.decide_eq_true, and_self, or_self, or_true, true_or, or_false, false_or, false_and, and_false, ne_eq, Bool.not_not, Bool.not_eq_eq_eq_not, Nat.reduceEqDiff, Nat.reduceLeDiff, Bool.not_true, Bool.not_false, eq_self, ladd_I, ladd_L1, ladd_Ln, ladd_n, ladd_J, lrem_I, lrem_L1, lrem_Ln, lrem_N, grw_I, grw_L, grw_n, grw_J, sdr_u, tk_u, sdr_a, tk_a, sdr_r, tk_r, rg_get, List.length_range, fil_2, fil_I, sdr_f, tk_f, sl_fil, aO_2, pr_n, aO_I, aO_L, sl_aO, pr_I, pr_L, sl_pr, gN_n, d1_n, dl_n, gN_I, gN_L, sl_gN, d1_I, d1_L, d1_L1, sl_d1, dl_I, dl_L, dl_L1, sl_dl, sdr_dl, tk_dl, sl_dH, fil_2, sl_gT, sl_tI, tO_2, tO_Ln, tO_I, sl_tO]) ([some (ar (0, 0)), some (ai 0), none, none], σ) ⟨none, none, by rw [nI_0]; rfl⟩
  subst h2
  simp (disch := first | omega | (simp only [w_ui2, w_ul3, w_uj3, ladd_n, lrem_N, grw_n, ladd_Ln, lrem_Ln, grw_L, List.length_range, fil_2, aO_2, pr_n, gN_n, d1_n, dl_n, fil_2, tO_2, tO_Ln]; omega)) only [w_I, w_L, w_L1, w_LR, w_LR1, w_LN, w_LN1, w_LN2, w_null, w_N, w_N1, w_B, w_B1, w_B2, w_GI, w_GI1, w_GR, w_GR1, w_A, w_A1, w_A2, w_A3, w_rd3, w_wr3, w_rd7, w_wr7, w_rd8, w_wr8, w_rd9, w_wr9, w_rd10, w_wr10, w_rm0, w_wm0, w_rm1, w_wm1, w_rm2, w_wm2, w_rm3, w_wm3, w_rm4, w_wm4, w_v0, w_v1, w_v2, w_v3, w_v4, w_v6, w_v7, w_v8, w_v9, w_v10, inB_t, cl_nI, w_ui1, w_ui2, w_ul1, w_ul3, w_lsz, w_lget, w_ladd, w_lrem, sl_ladd, sl_lrem, sl_grw, n_eq, n_lt, n_le, n_add, n_ad1, n_lt4, n_neg, n_lt0, n_ge0, w_M, w_M1, w_M2, w_T, w_T1, w_C, w_C1, w_Z, w_and, w_and1, w_or, w_or1, w_not, w_not1, w_tn, w_tn1, w_E, w_E1, w_E2, w_nl, w_nl1, w_nl2, w_C2_0, w_Z1_0, w_C2_1, w_Z1_1, w_C2_2, w_Z1_2, w_C2_3, w_Z1_3, w_C2_4, w_Z1_4, w_C2_5, w_Z1_5, w_seq, w_seq1, w_seq2, w_seq3, w_if, w_if1, w_skip, w_set, w_set1, w_setR, w_setR1, w_setN, w_setN1, w_setN2, w_inc, w_inc1, w_put, w_put1, w_put2, w_put3, w_wf0, w_wf1, w_po, w_po1, w_po2, w_ast, w_ast1, w_ast2, w_ast3, w_aop, w_aop1, w_aop2, w_aop3, w_aop4, w_ret, w_ret0, w_ret1, w_retN, w_retN1, w_retN2, w_retV, w_throw, w_aN, w_aI, w_aI1, w_aI2, w_aR, w_aR1, w_ask, w_ask1, w_V, w_V1, w_V2, w_S, w_S1, w_CI, w_CI1, w_CR, w_CR1, w_CN, w_CN1, w_CN2, w_CV, w_CV1, w_CV2, w_pop, w_pop1, w_popR, w_popR1, w_cast, w_cast1, w_run, lc_0, lc_I, lc_R, lc_N, lc_J, w_run1, w_run2, ite_s1, ite_01, ite_10, ite_nz, i_10, i_01, i_20, i_02, i_21, i_12, i_30, i_03, i_40, i_04, il_00, il_10, il_20, il_01, il_02, sl_r, sl_I, sl_L, w_J, w_LJ, w_LJ1, w_BJ, w_BJ1, w_BJ2, w_Sh, w_Sh1, w_Sh2, w_BC, w_BC1, w_BC2, w_IL, w_IL1, w_LI, w_LI1, w_Rm, w_Rm1, w_Rm2, w_AJ, w_AJ1, w_AJ2, w_AJ3, w_rj0, w_wj0, w_rj1, w_wj1, w_rj2, w_wj2, w_rj3, w_wj3, w_rj4, w_wj4, w_uj1, w_uj2, w_uj3, w_uj4, sl_J, w_setJ, w_setJ1, w_aJs, w_aJs1, w_aJs2, w_aJs3, w_jop, w_jop1, w_jop2, w_jop3, w_jop4, w_retJ, w_retJ1, w_aJ, w_aJ1, w_CJ, w_CJ1, List.getElem?_cons_zero, List.getElem?_cons_succ, List.set_cons_zero, List.set_cons_succ, List.map_cons, List.map_nil, List.length_cons, List.length_nil, List.cons_append, List.nil_append, List.append_nil, List.replicate_succ, List.replicate_zero, Nat.reduceSub, Nat.reduceAdd, Nat.reduceEqDiff, if_true, if_false, true_and, and_true, reduceCtorEq, ite_true, ite_false, Bool.false_eq_true, Nat.zero_add, Nat.add_zero, Nat.sub_self, Nat.reduceLT, decide_eq_true_eq, Bool.not_eq_true, not_true_eq_false, not_false_eq_true, decide_true, decide_false, decide_not, Bool.decide_eq_true, and_self, or_self, or_true, true_or, or_false, false_or, false_and, and_false, ne_eq, Bool.not_not, Bool.not_eq_eq_eq_not, Nat.reduceEqDiff, Nat.reduceLeDiff, Bool.not_true, Bool.not_false, eq_self, ladd_I, ladd_L1, ladd_Ln, ladd_n, ladd_J, lrem_I, lrem_L1, lrem_Ln, lrem_N, grw_I, grw_L, grw_n, grw_J, sdr_u, tk_u, sdr_a, tk_a, sdr_r, tk_r, rg_get, List.length_range, fil_2, fil_I, sdr_f, tk_f, sl_fil, aO_2, pr_n, aO_I, aO_L, sl_aO, pr_I, pr_L, sl_pr, gN_n, d1_n, dl_n, gN_I, gN_L, sl_gN, d1_I, d1_L, d1_L1, sl_d1, dl_I, dl_L, dl_L1, sl_dl, sdr_dl, tk_dl, sl_dH, fil_2, sl_gT, sl_tI, tO_2, tO_Ln, tO_I, sl_tO, f_X2_letAllArrive, b_X2_letAllArrive, h1]
end C9
