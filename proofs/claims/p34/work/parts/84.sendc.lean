/-! pure: what holds between calls: a new message -/
def C0 (σ : Sg) : Prop := WF σ ∧ NB σ ∧ PL σ ∧ HA σ ∧ N2 σ ∧ D1 σ
section SC
variable {f e : Prop} {σ τ υ : Sg} {m i j k n a b o k2 o2 j2 t B q p s m0 i0 g z d : Nat} {x y : Int32} {l : List Nat}
theorem C0.dl (h : C0 σ) (hm : m < σ.2.2.1 0) (hi : i < 4) (hr : m ∉ σ.2.1 (3 + i)) (hd : σ.1 25 m 0 = 0) : C0 (S_dl σ m i) := by
  obtain ⟨W, N, L, A, T, D⟩ := h
  have W1 := W.d1 hm hi hr
  have N1 : NB (S_d1 σ m i) := N.d1 hi
  have L1 := L.d1 hi hr
  have hm1 : m < (S_d1 σ m i).2.2.1 0 := by rw [d1_n]; exact hm
  have W2 : WF (S_dl σ m i) := W.dl hm hi hr (fun _ => N.nu W m hm)
  have t4 := W.tk4
  have al : ∀ b, (S_dl σ m i).1 13 b 0 = σ.1 13 b 0 := fun b => dl_I (by decide) (by decide) (by decide) (by decide) (by decide) (by decide)
  by_cases e : i = tk σ
  · have e2 : S_dl σ m i = upI (S_gN (S_d1 σ m i) m) 11 i 0 (nI ((S_gN (S_d1 σ m i) m).2.1 1).length) := by rw [dl_eq, if_pos e]
    have N2' : NB (S_gN (S_d1 σ m i) m) := N1.gN W1 hm1
    have hmem : ∀ a, a ∈ (S_dl σ m i).2.1 1 ↔ a = m ∨ a ∈ σ.2.1 1 := fun a => by
      rw [e2, w_ui2, gN_mem N1 W1 hm1, d1_L (by omega)]
    refine ⟨W2, ?_, ?_, ?_, ?_, ?_⟩
    · rw [e2]
      intro a ha
      rw [upI_n (by decide), w_ui2]
      exact N2' a ha
    · rw [e2]
      intro a b ha hb
      rw [upI_n (by decide), w_ui2, gN_I (by decide) (by decide), gN_L (by omega)]
      rw [w_ui2, gN_n] at ha
      exact L1 a b ha hb
    · intro hq a ha hra
      rw [tk_dl] at hq hra
      rw [al] at hq
      rw [dl_n] at ha
      subst e
      rw [dl_L1] at hra
      have hne : a ≠ m := fun q => hra (by rw [q]; simp)
      rw [dl_23 hne]
      exact A hq a ha (fun q => hra (List.mem_append_left _ q))
    · intro hq a ha
      rw [tk_dl] at hq ha
      rw [al] at hq
      subst e
      rw [dl_L1] at ha
      rw [hmem]
      rcases List.mem_append.mp ha with q | q
      · exact Or.inr (T hq a q)
      · simp only [List.mem_singleton] at q
        exact Or.inl q
    · intro a ha
      rw [hmem] at ha
      rw [dl_I (by decide) (by decide) (by decide) (by decide) (by decide) (by decide)]
      rcases ha with q | q
      · rw [q]; exact hd
      · exact D a q
  · have e2 : S_dl σ m i = S_d1 σ m i := by rw [dl_eq, if_neg e]
    have eR : (S_d1 σ m i).2.1 (3 + tk σ) = σ.2.1 (3 + tk σ) := d1_L (by omega)
    have e1 : (S_d1 σ m i).2.1 1 = σ.2.1 1 := d1_L (by omega)
    have i23 : ∀ a, (S_d1 σ m i).1 23 a 0 = σ.1 23 a 0 := fun a => d1_I (by decide) (by decide) (by decide) (by decide)
    have i13 : ∀ a, (S_d1 σ m i).1 13 a 0 = σ.1 13 a 0 := fun a => d1_I (by decide) (by decide) (by decide) (by decide)
    have i25 : ∀ a, (S_d1 σ m i).1 25 a 0 = σ.1 25 a 0 := fun a => d1_I (by decide) (by decide) (by decide) (by decide)
    rw [e2]
    refine ⟨W1, N1, L1, ?_, ?_, ?_⟩
    · intro hq a ha hra
      rw [tk_d1] at hq hra
      rw [i13] at hq
      rw [eR] at hra
      rw [d1_n] at ha
      rw [i23]
      exact A hq a ha hra
    · intro hq a ha
      rw [tk_d1] at hq ha
      rw [i13] at hq
      rw [eR] at ha
      rw [e1]
      exact T hq a ha
    · intro a ha
      rw [e1] at ha
      rw [i25]
      exact D a ha
theorem fNeg4 (hj : j < 4) : fNeg j = -1 := by
  have h4 : j = 0 ∨ j = 1 ∨ j = 2 ∨ j = 3 := by omega
  rcases h4 with h | h | h | h <;> subst h <;> rfl
theorem sd2_I (hh : ¬ (o2 = σ.2.2.1 0 ∧ 20 ≤ k2 ∧ k2 < 30)) (h3 : k2 ≠ 30) : (sd2 σ i).1 k2 o2 j2 = σ.1 k2 o2 j2 := by
  have e : (sd2 σ i).1 k2 o2 j2 = (sd1 σ i).1 k2 o2 j2 := by
    unfold sd2 S_pW
    by_cases c : k2 = 27 ∧ o2 = σ.2.2.1 0
    · exact absurd ⟨c.2, by omega, by omega⟩ hh
    · exact if_neg (fun q => c ⟨q.1, q.2.1⟩)
  rw [e]
  exact sd1_I hh h3
theorem sd2_new (h3 : k2 < 30) (h27 : k2 ≠ 27) : (sd2 σ i).1 k2 (σ.2.2.1 0) j2 = (newMsg σ (nI (σ.2.2.1 0)) (nI i) (nI (σ.2.1 (3 + i)).length)).1 k2 (σ.2.2.1 0) j2 := by
  unfold sd2 S_pW
  rw [fil_I h27]
  exact sd1_new h3
theorem sd2_27 (hj : j < 4) : (sd2 σ i).1 27 (σ.2.2.1 0) j = if σ.1 14 j 0 = 0 then 3 else 0 := by
  have e14 : (sd1 σ i).1 14 j 0 = σ.1 14 j 0 := sd1_I (by omega) (by decide)
  unfold sd2 S_pW
  rw [← e14]
  exact if_pos ⟨rfl, rfl, hj⟩
theorem sd2_C0 (h : C1 σ) (hi : i < 4) (hn : σ.2.2.1 0 < 48) : C0 (sd2 σ i) := by
  obtain ⟨W, N, L, C, A, T, E⟩ := h
  have et : tk (sd2 σ i) = tk σ := by unfold tk; rw [sd2_I (by omega) (by decide)]
  have t4 := W.tk4
  have old : ∀ k a j, k < 30 → a ≠ σ.2.2.1 0 → (sd2 σ i).1 k a j = σ.1 k a j := fun k a j hk ha => sd2_I (fun q => ha q.1) (by omega)
  refine ⟨W.sd2 hi hn, fun a ha => ?_, fun a b ha hb => ?_, fun z a ha hra => ?_, fun z a ha => ?_, fun a ha => ?_⟩
  · rw [sd2_n] at ha
    rw [sd2_L (by decide)]
    by_cases c : a = σ.2.2.1 0
    · rw [c, sd2_new (by decide) (by decide), nm_v23, num_no (new_notin W (by decide))]
    · rw [old 23 a 0 (by decide) c]; exact N a (by omega)
  · rw [sd2_n] at ha
    rw [sd2_L (by omega)]
    by_cases c : a = σ.2.2.1 0
    · rw [c, sd2_new (by decide) (by decide), nm_v29, fNeg4 hb, num_no (new_notin W (by omega))]
    · rw [old 29 a b (by decide) c]; exact L a b (by omega) hb
  · rw [et, sd2_I (by omega) (by decide)] at z
    rw [sd2_n] at ha
    rw [et, sd2_L (by omega)] at hra
    by_cases c : a = σ.2.2.1 0
    · rw [c, sd2_new (by decide) (by decide), nm_v23]
    · rw [old 23 a 0 (by decide) c]; exact A z a (by omega) hra
  · rw [et, sd2_I (by omega) (by decide)] at z
    rw [et, sd2_L (by omega)] at ha
    rw [sd2_L (by decide)]
    exact T z a ha
  · rw [sd2_L (by decide)] at ha
    have := W.el (k := 1) (by decide) ha
    rw [old 25 a 0 (by decide) (by omega)]
    exact E a ha
theorem sd4_I (h26 : k2 ≠ 26) : (sd4 σ i).1 k2 o2 j2 = (sd3 σ i).1 k2 o2 j2 := cp_I h26
theorem sd4_old (hk : k2 < 30) (h16 : k2 ≠ 16) (h23 : k2 ≠ 23) (h11 : k2 ≠ 11) (ha : a ≠ σ.2.2.1 0 ∨ k2 < 20) : (sd4 σ i).1 k2 a j = σ.1 k2 a j := by
  have e1 : (sd4 σ i).1 k2 a j = (sd3 σ i).1 k2 a j := by
    by_cases c : k2 = 26
    · subst c
      exact cp_n (by omega)
    · exact sd4_I c
  have e2 : (sd3 σ i).1 k2 a j = (sd2 σ i).1 k2 a j := by
    unfold sd3
    by_cases c : k2 = 27
    · subst c
      rw [dl_c, if_neg (fun q => by omega)]
    · by_cases c2 : k2 = 29
      · subst c2
        have e3 : (S_dl (sd2 σ i) (σ.2.2.1 0) i).1 29 a j = (S_d1 (sd2 σ i) (σ.2.2.1 0) i).1 29 a j := by
          rw [dl_eq]
          split
          · rw [upI_n (by decide), gN_I (by decide) (by decide)]
          · rfl
        rw [e3, d1_C29, if_neg (fun q => by omega)]
      · exact dl_I c c2 (by omega) h16 h23 h11
  rw [e1, e2]
  exact sd2_I (by omega) (by omega)
theorem sd4_Lo (h0 : k2 ≠ 0) (h1 : k2 ≠ 1) (h3 : k2 ≠ 3 + i) : (sd4 σ i).2.1 k2 = σ.2.1 k2 := by
  show (sd3 σ i).2.1 k2 = _
  unfold sd3
  rw [dl_L h3 h1, sd2_L h0]
theorem sd4_LR : (sd4 σ i).2.1 (3 + i) = σ.2.1 (3 + i) ++ [σ.2.2.1 0] := by
  show (sd3 σ i).2.1 (3 + i) = _
  unfold sd3
  rw [dl_L1, sd2_L (by omega)]
theorem sd4_sdr (hi : i < 4) : sdr (sd4 σ i) a = if a = σ.2.2.1 0 then i else sdr σ a := by
  by_cases c : a = σ.2.2.1 0
  · rw [if_pos c]
    have e : (sd4 σ i).1 21 (σ.2.2.1 0) 0 = nI i := by
      rw [sd4_I (by decide)]
      unfold sd3
      rw [dl_I (by decide) (by decide) (by decide) (by decide) (by decide) (by decide), sd2_new (by decide) (by decide), nm_v21]
    unfold sdr
    rw [c, e, cl_nI (a := i) (by omega)]
  · rw [if_neg c]
    unfold sdr
    rw [sd4_old (by decide) (by decide) (by decide) (by decide) (Or.inl c)]
theorem sd4_16 (hi : i < 4) : (sd4 σ i).1 16 b k = if b = i ∧ k = i then σ.1 16 i i + 1 else σ.1 16 b k := by
  have es : sdr (sd2 σ i) (σ.2.2.1 0) = i := by
    have e : (sd2 σ i).1 21 (σ.2.2.1 0) 0 = nI i := by rw [sd2_new (by decide) (by decide), nm_v21]
    unfold sdr
    rw [e, cl_nI (a := i) (by omega)]
  have e3 : (sd3 σ i).1 16 b k = (S_d1 (sd2 σ i) (σ.2.2.1 0) i).1 16 b k := by
    unfold sd3
    rw [dl_eq]
    split
    · rw [upI_n (by decide), gN_I (by decide) (by decide)]
    · rfl
  rw [sd4_I (by decide), e3, d1_C16, es, sd2_I (by omega) (by decide), sd2_I (by omega) (by decide)]
/-- who has sent what -/
theorem CA.own (C : CA σ) (W : WF σ) (ha : a < σ.2.2.1 0) : a ∈ σ.2.1 (3 + sdr σ a) := by
  obtain ⟨h1, h2, h3, h4, h5⟩ := C.2.2.1 a ha
  have q := getD_mem h2
  rw [h3] at q
  exact q
theorem CA.ownC (C : CA σ) (W : WF σ) (hi : i < 4) : cnt σ (List.range (σ.2.2.1 0)) i = cnt σ (σ.2.1 (3 + i)) i := by
  unfold cnt
  refine List.Perm.length_eq ((List.perm_ext_iff_of_nodup (List.Pairwise.filter _ List.nodup_range) (List.Pairwise.filter _ (W.nd (k := 3 + i) (by omega)))).mpr (fun a => ?_))
  rw [List.mem_filter, List.mem_filter, List.mem_range, decide_eq_true_eq]
  constructor
  · rintro ⟨q1, q2⟩
    have := C.own W q1
    rw [q2] at this
    exact ⟨this, q2⟩
  · rintro ⟨q1, q2⟩
    exact ⟨W.el (by omega) q1, q2⟩
theorem CA.leOwn (C : CA σ) (W : WF σ) (hb : b < 4) (hi : i < 4) : cnt σ (σ.2.1 (3 + b)) i ≤ cnt σ (σ.2.1 (3 + i)) i := by
  rw [← C.ownC W hi]
  unfold cnt
  refine List.Nodup.length_le_of_subset (List.Pairwise.filter _ (W.nd (k := 3 + b) (by omega))) (fun a ha => ?_)
  rw [List.mem_filter] at ha ⊢
  exact ⟨List.mem_range.mpr (W.el (by omega) ha.1), ha.2⟩
theorem sd4_CA (C : CA σ) (W : WF σ) (hi : i < 4) : CA (sd4 σ i) := by
  have es : ∀ a, sdr (sd4 σ i) a = if a = σ.2.2.1 0 then i else sdr σ a := fun a => sd4_sdr hi
  have eso : ∀ a, a < σ.2.2.1 0 → sdr (sd4 σ i) a = sdr σ a := fun a ha => by rw [es, if_neg (by omega)]
  have esn : sdr (sd4 σ i) (σ.2.2.1 0) = i := by rw [es, if_pos rfl]
  have ec : ∀ l k, (∀ x ∈ l, x < σ.2.2.1 0) → cnt (sd4 σ i) l k = cnt σ l k := fun l k hl => by
    unfold cnt
    congr 1
    refine List.filter_congr (fun a ha => ?_)
    rw [eso a (hl a ha)]
  have en : (sd4 σ i).2.2.1 0 = σ.2.2.1 0 + 1 := sd4_n
  have hel : ∀ b, b < 4 → ∀ x ∈ σ.2.1 (3 + b), x < σ.2.2.1 0 := fun b hb x hx => W.el (by omega) hx
  have eR : ∀ b, b ≠ i → b < 4 → (sd4 σ i).2.1 (3 + b) = σ.2.1 (3 + b) := fun b h hb => sd4_Lo (by omega) (by omega) (by omega)
  have eRi : (sd4 σ i).2.1 (3 + i) = σ.2.1 (3 + i) ++ [σ.2.2.1 0] := sd4_LR
  have ecR : ∀ b k, b < 4 → cnt (sd4 σ i) ((sd4 σ i).2.1 (3 + b)) k = cnt σ (σ.2.1 (3 + b)) k + if b = i ∧ k = i then 1 else 0 := fun b k hb => by
    by_cases c : b = i
    · subst c
      rw [eRi, cnt_app, ec _ _ (hel b hb), esn]
      by_cases d : k = b
      · rw [if_pos d.symm, if_pos ⟨rfl, d⟩]
      · rw [if_neg (fun q => d q.symm), if_neg (fun q => d q.2)]
    · rw [eR b c hb, ec _ _ (hel b hb), if_neg (fun q => c q.1)]
      rfl
  have etk : ∀ b, b < 4 → ∀ p, p ≤ (σ.2.1 (3 + b)).length → ((sd4 σ i).2.1 (3 + b)).take p = (σ.2.1 (3 + b)).take p := fun b hb p hp => by
    by_cases c : b = i
    · subst c; rw [eRi, List.take_append_of_le_length hp]
    · rw [eR b c hb]
  have egt : ∀ b, b < 4 → ∀ p, p < (σ.2.1 (3 + b)).length → ((sd4 σ i).2.1 (3 + b)).getD p 0 = (σ.2.1 (3 + b)).getD p 0 := fun b hb p hp => by
    by_cases c : b = i
    · subst c; rw [eRi, getD_app, if_pos hp]
    · rw [eR b c hb]
  have esq : ∀ a, a < σ.2.2.1 0 → sq (sd4 σ i) a = sq σ a := fun a ha => by
    unfold sq
    rw [eso a ha, ec _ _ (fun x hx => by have := List.mem_range.mp hx; omega)]
  have e22 : ∀ a, a < σ.2.2.1 0 → (sd4 σ i).1 22 a 0 = σ.1 22 a 0 := fun a ha => sd4_old (by decide) (by decide) (by decide) (by decide) (Or.inl (by omega))
  have ehs : ∀ a, a < σ.2.2.1 0 → hst (sd4 σ i) a = hst σ a := fun a ha => by unfold hst; rw [e22 a ha]
  have e22n : (sd4 σ i).1 22 (σ.2.2.1 0) 0 = nI (σ.2.1 (3 + i)).length := by
    rw [sd4_I (by decide)]
    unfold sd3
    rw [dl_I (by decide) (by decide) (by decide) (by decide) (by decide) (by decide), sd2_new (by decide) (by decide), nm_v22]
  have hlen := W.len (k := 3 + i) (by omega)
  have ehn : hst (sd4 σ i) (σ.2.2.1 0) = (σ.2.1 (3 + i)).length := by unfold hst; rw [e22n, cl_nI (by omega)]
  have est : ∀ a, a < σ.2.2.1 0 → ∀ k, stN (sd4 σ i) a k = stN σ a k := fun a ha k => by
    obtain ⟨h1, h2, h3, h5, h6⟩ := C.2.2.1 a ha
    have s4 := W.sn4 ha
    unfold stN
    rw [ehs a ha, eso a ha, etk _ s4 _ (by omega), ec _ _ (fun x hx => hel _ s4 x (List.mem_of_mem_take hx))]
  have estn : ∀ k, stN (sd4 σ i) (σ.2.2.1 0) k = cnt (sd4 σ i) ((sd4 σ i).2.1 (3 + i)) k := fun k => by
    unfold stN
    rw [ehn, esn, eRi, List.take_of_length_le (by rw [List.length_append, List.length_singleton]; exact Nat.le_refl _)]
  have h16 : ∀ b k, b < 4 → k < 4 → (sd4 σ i).1 16 b k = nI (cnt (sd4 σ i) ((sd4 σ i).2.1 (3 + b)) k) := fun b k hb hk => by
    rw [sd4_16 hi, ecR b k hb]
    by_cases c : b = i ∧ k = i
    · rw [if_pos c, if_pos c, C.1 i i hi hi, n_ad1, c.1, c.2]
    · rw [if_neg c, if_neg c]
      exact C.1 b k hb hk
  refine ⟨h16, fun b p hb hp => ?_, fun a ha => ?_, fun b a k hb ha hk => ?_⟩
  · by_cases d : p < (σ.2.1 (3 + b)).length
    · have hx := W.get (k := 3 + b) (by omega) d
      rw [egt b hb p d, etk b hb p (by omega), esq _ hx, eso _ hx, ec _ _ (fun x hx => hel _ hb x (List.mem_of_mem_take hx))]
      exact C.2.1 b p hb d
    · have c : b = i := by
        by_cases c : b = i
        · exact c
        · rw [eR b c hb] at hp; exact absurd hp d
      subst c
      rw [eRi, List.length_append, List.length_singleton] at hp
      have ep : p = (σ.2.1 (3 + b)).length := by omega
      have eg : ((sd4 σ b).2.1 (3 + b)).getD p 0 = σ.2.2.1 0 := by rw [eRi, getD_app, if_neg d, if_pos ep]
      rw [eg, esn, etk b hb p (by omega), ep, List.take_length, ec _ _ (hel b hb)]
      unfold sq
      rw [esn, List.range_succ, cnt_app, esn, if_pos rfl, ec _ _ (fun x hx => List.mem_range.mp hx), C.ownC W hi]
  · rw [en] at ha
    by_cases c : a = σ.2.2.1 0
    · subst c
      refine ⟨by rw [e22n, ehn], ?_, ?_, fun k hk => ?_, ?_⟩
      · rw [ehn, esn, eRi, List.length_append, List.length_singleton]; omega
      · rw [ehn, esn, eRi, getD_app, if_neg (Nat.lt_irrefl _), if_pos rfl]
      · rw [estn, ← h16 i k hi hk]
        have := cp_v (σ := sd3 σ i) (i := i) (m := σ.2.2.1 0) hk
        have e16 : (sd4 σ i).1 16 i k = (sd3 σ i).1 16 i k := sd4_I (by decide)
        rw [e16]
        exact this
      · rw [ehn, esn, etk i hi _ (Nat.le_refl _), List.take_length]
        exact hel i hi
    · have ha' : a < σ.2.2.1 0 := by omega
      obtain ⟨h1, h2, h3, h5, h6⟩ := C.2.2.1 a ha'
      have s4 := W.sn4 ha'
      rw [e22 a ha', ehs a ha', eso a ha']
      refine ⟨h1, ?_, by rw [egt _ s4 _ h2]; exact h3, fun k hk => ?_, by rw [etk _ s4 _ (by omega)]; exact h6⟩
      · by_cases c : sdr σ a = i
        · rw [c, eRi, List.length_append]; rw [c] at h2; omega
        · rw [eR _ c s4]; exact h2
      · rw [sd4_old (by decide) (by decide) (by decide) (by decide) (Or.inl (by omega)), est a ha']
        exact h5 k hk
  · by_cases c : a = σ.2.2.1 0
    · subst c
      by_cases d : b = i
      · subst d; rw [estn]; exact Nat.le_refl _
      · rw [eR b d hb] at ha
        exact absurd (hel b hb _ ha) (Nat.lt_irrefl _)
    · have ha2 : a ∈ σ.2.1 (3 + b) := by
        by_cases d : b = i
        · subst d
          rw [eRi] at ha
          rcases List.mem_append.mp ha with q | q
          · exact q
          · simp only [List.mem_singleton] at q; exact absurd q c
        · rw [eR b d hb] at ha; exact ha
      rw [est a (hel b hb a ha2), ecR b k hb]
      have := C.2.2.2 b a k hb ha2 hk
      omega
end SC
