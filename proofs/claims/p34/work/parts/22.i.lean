/-! a row grows: newLength, copyOf, grow -/
theorem AcH.raw {κ : Kx} {Rp : Heap → Prop} {nc ns pc : Nat} {st st' : List AV} {lc lc' : LcT} (h1 : st.map (cv (kL κ)) = st'.map (cv (kL κ))) (h2 : lc.map (Option.map (cv (kL κ))) = lc'.map (Option.map (cv (kL κ)))) (k : AcH κ Rp nc ns pc st' lc') : AcH κ Rp nc ns pc st lc := by
  obtain ⟨p, l, e, R, s, m, args, below, meth, c, Q, g, L, c0, s0, fc, fs⟩ := κ
  intro H locs ls q1 q2 q3 q4
  have h1' : st.map (cv L) = st'.map (cv L) := h1
  have h9 : lc.map (Option.map (cv L)) = lc'.map (Option.map (cv L)) := h2
  have h2' : lc.map (Option.map (cv L)) = lc'.map (Option.map (cv L)) := h2
  rw [h1']
  refine k H locs ls ⟨?_, q1.2.1, fun i v hv ho => ?_⟩ q2 q3 q4
  · have := congrArg List.length h2'
    rw [List.length_map, List.length_map] at this
    rw [q1.1, this]
  · have e : (lc.map (Option.map (cv L)))[i]? = some (some (cv L v)) := by
      rw [h2', List.getElem?_map, hv]
      rfl
    rw [List.getElem?_map] at e
    obtain ⟨w, hw, hw2⟩ := Option.map_eq_some_iff.mp e
    cases w with
    | none => cases hw2
    | some w =>
      have hw3 : cv L w = cv L v := Option.some.inj hw2
      have := q1.2.2 i w hw (by rw [hw3, isNo_map h9 (i + 1)]; exact ho)
      rw [hw3] at this
      exact this
theorem c_newLen {l : Launch} {g : Gx} (hl : l.stackTraces = false) {P : Heap → Prop} {o mg pg : Nat} (h0 : 0 < mg) (hb : o + mg + pg < 65536) : CtH (fun _ => True) l g yJ8_newLength_cabcc cJ8_newLength_cabcc 4 (some .int) 1 20 0 0 [.int (nI o), .int (nI mg), .int (nI pg)] P (fun v H => v = some (.int (nI (o + max mg pg))) ∧ P H) := by
  refine CtH.of (by decide) hl (by simp [Value.category]) (by simp) (fun κ h1 h2 _ hx hr hk _ => ?_)
  have z31 : ∀ z : Nat, z < 65536 → z < 2 ^ 31 := fun z hz => Nat.lt_trans hz (by decide)
  have hD : (if nI mg < nI pg then nI pg else nI mg) = nI (max mg pg) := by
    by_cases c : mg < pg
    · rw [if_pos (nI_lt c (z31 _ (by omega))), Nat.max_eq_right (Nat.le_of_lt c)]
    · rw [if_neg (nI_nlt (Nat.not_lt.mp c) (z31 _ (by omega))), Nat.max_eq_left (Nat.not_lt.mp c)]
  have hm1 : mg ≤ max mg pg := Nat.le_max_left _ _
  have hm2 : max mg pg ≤ mg + pg := by omega
  refine H_iload_n (i := 0) hx dJ8_newLength_cabcc_0 rfl (H_iload_n (i := 1) hx dJ8_newLength_cabcc_1 rfl (H_iload_n (i := 2) hx dJ8_newLength_cabcc_2 rfl (H_mmax hx (Nat.zero_le _) (Nat.zero_le _) rfl um_J8_194 ut_J9_max_7cf53 un_J9 uc_J9_max_7cf53 (by decide) (by simp [wt, wtA, Value.category]) dJ8_newLength_cabcc_3 ?_)))
  rw [hD]
  refine H_iadd hx dJ8_newLength_cabcc_6 (H_istore_n (i := 3) hx dJ8_newLength_cabcc_7 (by show 3 < 4; decide) ?_)
  rw [nI_add]
  refine H_iconst (v := 0) hx dJ8_newLength_cabcc_8 (by decide) (H_iload_n (i := 3) hx dJ8_newLength_cabcc_9 rfl (H_icmp_ge (tgt := 21) hx dJ8_newLength_cabcc_10 (by decide) (fun q => absurd q (nI_nle (by omega) (z31 _ (by omega)))) (fun _ => ?_)))
  refine H_iload_n (i := 3) hx dJ8_newLength_cabcc_13 rfl (H_ldcI hx uz_constant_2_67 dJ8_newLength_cabcc_14 (H_icmp_gt (tgt := 21) hx dJ8_newLength_cabcc_16 (by decide) (fun q => absurd q ?_) (fun _ => ?_)))
  · show ¬ nI 2147483639 < nI (o + max mg pg)
    exact nI_nlt (by omega) (by decide)
  · exact H_iload_n (i := 3) hx dJ8_newLength_cabcc_19 rfl (H_iret hx hr rfl dJ8_newLength_cabcc_20 hk (Nat.zero_le _) (Nat.zero_le _) (fun H h => ⟨rfl, h⟩))
section CPY
variable {l : Launch} {g : Gx} {L : Tg → Nat} {σ : Sg} {k : Nat} {mc : Int32} {a cap : Nat} {f : Nat → Option Nat} {sz : Int32}
theorem LX.els {sp : Sp} {H : Heap} (hf : FE L σ f) (h : LX g L σ k mc a cap f sz sp H) : ∀ i y, f i = some y → ∃ fs, va_at g.1 vwCl (y, .inr (2, fs)) H := fun i y hy => by
  obtain ⟨m, hm, rfl⟩ := hf i y hy
  exact h.at6 hm
theorem c_copy3 (hl : l.stackTraces = false) {n mi : Nat} (hk : k < 11) (hf : FE L σ f) (hc : cap ≠ 0) (hn : cap ≤ n) (hb : n < 65536) : CtH (fun U => va_Mi "[Ljava/lang/Object;" mi U) l g yJ7_copyOf_6403c cJ7_copyOf_6403c 4 (some (.array (.object "java/lang/Object"))) 1 40 1 n [.ref a, .int (nI n), .ref mi] (LX g L σ k mc a cap f sz none) (fun v H => ∃ b, v = some (.ref b) ∧ LX g L σ k mc a cap f sz (some (b, n, va_cpy f (fun _ => none) 0 0 cap)) H) := by
  refine CtH.of (by decide) hl (by simp [Value.category]) (by simp) (fun κ h1 h2 hmi hx hr hkk _ => ?_)
  subst h1
  have z31 : ∀ z : Nat, z < 65536 → z < 2 ^ 31 := fun z hz => Nat.lt_trans hz (by decide)
  refine H_aload_n (i := 2) (t := mi) hx dJ7_copyOf_6403c_0 rfl (H_ldcM hx hmi ul_J7_110 dJ7_copyOf_6403c_1 (H_acmp_ne (tgt := 13) hx dJ7_copyOf_6403c_3 (by decide) (fun q => absurd rfl q) (fun _ => ?_)))
  refine H_iload_n (i := 1) hx dJ7_copyOf_6403c_6 rfl (H_anew hx ul_J7_2 hb (by rw [h2]; exact Nat.le_refl _) (by rw [h2]; show 0 + n ≤ n; omega) dJ7_copyOf_6403c_7 (fun b => ?_))
  refine AcH.mono (Rq := LX (kg κ) L σ k mc a cap f sz (some (b, n, fun _ => none))) (fun H h => ?_) ?_
  · obtain ⟨H0, q1, q2, q3, q4, q5⟩ := h
    exact q1.new q2 q3 q4 q5
  refine AcH.pure (P := gA (kg κ) b) (fun hgb => ?_) (fun H h => h.atS.2.1)
  refine H_goto (tgt := 24) hx dJ7_copyOf_6403c_10 (by decide) (H_astore_n (i := 3) hx dJ7_copyOf_6403c_24 (by show 3 < 4; decide) ?_)
  refine H_aload_n (i := 0) (t := a) hx dJ7_copyOf_6403c_25 rfl (H_iconst (v := nI 0) hx dJ7_copyOf_6403c_26 (by decide) (H_aload_n (i := 3) (t := b) hx dJ7_copyOf_6403c_27 rfl (H_iconst (v := nI 0) hx dJ7_copyOf_6403c_28 (by decide) (H_aload_n (i := 0) (t := a) hx dJ7_copyOf_6403c_29 rfl (H_alen (t0 := 3) hx (fun H h => (h.at5 hc).1) rfl dJ7_copyOf_6403c_30 (H_iload_n (i := 1) hx dJ7_copyOf_6403c_31 rfl ?_))))))
  refine H_mmin hx (by rw [h2]; exact Nat.le_refl _) (by rw [h2]; show 0 + n ≤ n; omega) rfl um_J7_304 ut_J9_min_7cf53 un_J9 uc_J9_min_7cf53 (by decide) (by simp [wt, wtA, Value.category]) dJ7_copyOf_6403c_32 ?_
  rw [if_neg (nI_nlt hn (z31 _ hb))]
  refine H_copy (Rq := LX (kg κ) L σ k mc a cap f sz (some (b, n, va_cpy f (fun _ => none) 0 0 cap))) hx (fun H h => (h.at5 hc).1) (fun H h => h.atS.1) (fun H h => h.els hf) fw_msg (by decide) (by decide) (by omega) (by omega) (by omega) hgb rfl um_J7_150 (by decide) (by decide) (fun H H' h hb' hq => h.putS hk hb' hq) dJ7_copyOf_6403c_35 ?_
  exact H_aload_n (i := 3) (t := b) hx dJ7_copyOf_6403c_38 rfl (H_aret hx hr (Or.inr ⟨_, rfl⟩) dJ7_copyOf_6403c_39 hkk (by rw [h2]; exact Nat.le_refl _) (by rw [h2]; show 0 + n ≤ n; omega) (fun H h => ⟨b, rfl, h⟩))
theorem c_copy2 (hl : l.stackTraces = false) {n : Nat} (hk : k < 11) (hf : FE L σ f) (hc : cap ≠ 0) (hn : cap ≤ n) (hb : n < 65536) : CtH (fun _ => True) l g yJ7_copyOf_1904c cJ7_copyOf_1904c 2 (some (.array (.object "java/lang/Object"))) 2 63 1 n [.ref a, .int (nI n)] (LX g L σ k mc a cap f sz none) (fun v H => ∃ b, v = some (.ref b) ∧ LX g L σ k mc a cap f sz (some (b, n, va_cpy f (fun _ => none) 0 0 cap)) H) := by
  refine CtH.of (by decide) hl (by simp [Value.category]) (by simp) (fun κ h1 h2 _ hx hr hkk hl9 => ?_)
  subst h1
  subst hl9
  refine H_aload_n (i := 0) (t := a) hx dJ7_copyOf_1904c_0 rfl (H_iload_n (i := 1) hx dJ7_copyOf_1904c_1 rfl (H_aload_n (i := 0) (t := a) hx dJ7_copyOf_1904c_2 rfl (H_getC hx (fun H h => (h.at5 hc).1) rfl um_J7_86 (by decide) (by simp [wt, wtA, Value.category]) dJ7_copyOf_1904c_3 (fun mi hmi => ?_))))
  refine H_callS (as := [.ref a, .int (nI n), .ref mi]) (rest := []) hx XT_M rfl (c_copy3 hl hk hf hc hn hb) hmi (fun H h => h) uc_J7_copyOf_6403c um_J7_300 ut_J7_copyOf_6403c un_J7 ⟨by decide, by decide, rfl⟩ (by decide) (by decide) (by decide) (by rw [h2]; exact Nat.le_refl _) (by rw [h2]; show 0 + n ≤ n; omega) dJ7_copyOf_1904c_6 (fun v => ?_)
  refine AcH.ex (fun b => ?_)
  refine AcH.pure (P := v = some (.ref b)) (fun hv => ?_) (fun H h => h.1)
  subst hv
  exact H_aret hx hr (Or.inr ⟨_, rfl⟩) dJ7_copyOf_1904c_9 hkk (by rw [h2]; exact Nat.le_refl _) (by rw [h2]; show 0 + n ≤ n; omega) (fun H h => ⟨b, rfl, h.2⟩)
theorem newCap_b {c : Nat} (h : c < 2000) : newCap c < 4000 ∧ c < newCap c := by
  unfold newCap
  split <;> omega
theorem c_grow2 (hl : l.stackTraces = false) (hk : k < 11) (hf : FE L σ f) (hb : cap < 2000) : CtH (fun _ => True) l g yJx4a65c_grow_92f84 cJx4a65c_grow_92f84 4 (some (.array (.object "java/lang/Object"))) 3 84 1 (newCap cap) [.ref (L (4, k)), .int (nI (cap + 1))] (LX g L σ k mc a cap f sz none) (fun v H => ∃ b, v = some (.ref b) ∧ LX g L σ k mc b (newCap cap) (va_cpy f (fun _ => none) 0 0 cap) sz none H) := by
  refine CtH.of (by decide) hl (by simp [Value.category]) (by simp) (fun κ h1 h2 _ hx hr hkk hl9 => ?_)
  subst h1
  subst hl9
  obtain ⟨n1, n2⟩ := newCap_b hb
  refine AcH.pure (P := gA (kg κ) (L (4, k))) (fun hg4 => ?_) (fun H h => h.gA4 hk)
  by_cases hc : cap = 0
  · have hnc : newCap cap = 10 := if_pos hc
    have hcp : va_cpy f (fun _ => none) 0 0 cap = fun _ => none := by
      funext j
      exact if_neg (fun z => by omega)
    rw [hcp, hnc] at hkk
    refine AcH.pure (P := a = (kg κ).2.2.2) (fun ha => ?_) (fun H h => h.at13 hc)
    refine H_aload_n (i := 0) (t := L (4, k)) hx dJx4a65c_grow_92f84_0 rfl (L_gel hx dJx4a65c_grow_92f84_1 (H_alen0 hx ha dJx4a65c_grow_92f84_4 (H_istore_n (i := 2) hx dJx4a65c_grow_92f84_5 (by show 2 < 4; decide) (H_iload_n (i := 2) hx dJx4a65c_grow_92f84_6 rfl (H_if_gt (tgt := 20) hx dJx4a65c_grow_92f84_7 (by decide) (fun q => absurd q (by decide)) (fun _ => ?_))))))
    refine H_aload_n (i := 0) (t := L (4, k)) hx dJx4a65c_grow_92f84_10 rfl (L_gel hx dJx4a65c_grow_92f84_11 (H_gets hx uf_Jx4a65c_39 dJx4a65c_grow_92f84_14 (H_acmp_eq (tgt := 45) hx dJx4a65c_grow_92f84_17 (by decide) (fun _ => ?_) (fun q => absurd ha q))))
    refine H_aload_n (i := 0) (t := L (4, k)) hx dJx4a65c_grow_92f84_45 rfl (H_bipush (v := nI 10) hx dJx4a65c_grow_92f84_46 (by decide) (H_iload_n (i := 1) hx dJx4a65c_grow_92f84_48 rfl (H_mmax hx (Nat.zero_le _) (Nat.zero_le _) rfl um_Jx4a65c_79 ut_J9_max_7cf53 un_J9 uc_J9_max_7cf53 (by decide) (by simp [wt, wtA, Value.category]) dJx4a65c_grow_92f84_49 ?_)))
    rw [if_neg (by rw [hc]; decide)]
    refine H_anew hx ul_Jx4a65c_7 (by decide) (by rw [h2]; exact Nat.le_refl _) (by rw [h2, hnc]; exact Nat.le_refl _) dJx4a65c_grow_92f84_52 (fun b => ?_)
    refine AcH.mono (Rq := LX (kg κ) L σ k mc a cap f sz (some (b, 10, fun _ => none))) (fun H h => ?_) ?_
    · obtain ⟨H0, q1, q2, q3, q4, q5⟩ := h
      exact q1.new q2 q3 q4 q5
    exact H_dup_x1 hx rfl rfl dJx4a65c_grow_92f84_55 (L_pel hk hx (by decide) hg4 dJx4a65c_grow_92f84_56 (H_aret hx hr (Or.inr ⟨_, rfl⟩) dJx4a65c_grow_92f84_59 hkk (by rw [h2]; exact Nat.le_refl _) (by rw [h2, hnc]; exact Nat.le_refl _) (fun H h => ⟨b, rfl, h⟩)))
  · have hnc : newCap cap = cap + max 1 (cap / 2) := if_neg hc
    have z31 : ∀ z : Nat, z < 65536 → z < 2 ^ 31 := fun z hz => Nat.lt_trans hz (by decide)
    refine H_aload_n (i := 0) (t := L (4, k)) hx dJx4a65c_grow_92f84_0 rfl (L_gel hx dJx4a65c_grow_92f84_1 (H_alen (t0 := 3) hx (fun H h => (h.at5 hc).1) rfl dJx4a65c_grow_92f84_4 (H_istore_n (i := 2) hx dJx4a65c_grow_92f84_5 (by show 2 < 4; decide) (H_iload_n (i := 2) hx dJx4a65c_grow_92f84_6 rfl (H_if_gt (tgt := 20) hx dJx4a65c_grow_92f84_7 (by decide) (fun _ => ?_) (fun q => absurd (show nI 0 < nI cap from nI_lt (by omega) (z31 _ (by omega))) q))))))
    have e1 : nI (cap + 1) - nI cap = nI 1 := by
      rw [pk_sub (by omega), Nat.add_sub_cancel_left]
    have e2 : nI cap >>> (nI 1 &&& 31) = nI (cap / 2) := by
      have q := pk_shrN (n := cap) (z31 _ (by omega)) (nI 1 &&& 31) 1 (by decide)
      rw [Nat.pow_one] at q
      exact q
    refine H_iload_n (i := 2) hx dJx4a65c_grow_92f84_20 rfl (H_iload_n (i := 1) hx dJx4a65c_grow_92f84_21 rfl (H_iload_n (i := 2) hx dJx4a65c_grow_92f84_22 rfl (H_isub hx dJx4a65c_grow_92f84_23 (H_iload_n (i := 2) hx dJx4a65c_grow_92f84_24 rfl (H_iconst (v := nI 1) hx dJx4a65c_grow_92f84_25 (by decide) (H_ishr hx dJx4a65c_grow_92f84_26 ?_))))))
    have e1' : nI (cap + 1) - Int32.ofNat cap = nI 1 := e1
    have e2' : Int32.ofNat cap >>> (nI 1 &&& 31) = nI (cap / 2) := e2
    show AcH κ _ _ _ _ [ai (nI cap >>> (nI 1 &&& 31)), ai (nI (cap + 1) - nI cap), ai (nI cap)] _
    rw [e1, e2]
    refine H_callS (as := [.int (nI cap), .int (nI 1), .int (nI (cap / 2))]) (rest := []) hx XT_T rfl (c_newLen hl (by decide) (by omega)) trivial (fun H h => h) uc_J8_newLength_cabcc um_Jx4a65c_73 ut_J8_newLength_cabcc un_J8 ⟨by decide, by decide, rfl⟩ (by decide) (by decide) (by decide) (Nat.zero_le _) (Nat.zero_le _) dJx4a65c_grow_92f84_27 (fun v => ?_)
    refine AcH.pure (P := v = some (.int (nI (cap + max 1 (cap / 2))))) (fun hv => ?_) (fun H h => h.1)
    subst hv
    rw [← hnc]
    refine AcH.mono (fun H h => h.2) ?_
    refine H_istore_n (i := 3) hx dJx4a65c_grow_92f84_30 (by show 3 < 4; decide) (H_aload_n (i := 0) (t := L (4, k)) hx dJx4a65c_grow_92f84_31 rfl (H_aload_n (i := 0) (t := L (4, k)) hx dJx4a65c_grow_92f84_32 rfl (L_gel hx dJx4a65c_grow_92f84_33 (H_iload_n (i := 3) hx dJx4a65c_grow_92f84_36 rfl ?_))))
    refine H_callS (as := [.ref a, .int (nI (newCap cap))]) (rest := [aq (L (4, k))]) hx XT_T rfl (c_copy2 hl hk hf hc (by omega) (by omega)) trivial (fun H h => h) uc_J7_copyOf_1904c um_Jx4a65c_66 ut_J7_copyOf_1904c un_J7 ⟨by decide, by decide, rfl⟩ (by simp [wt, wtA, Value.category]) (by decide) (by decide) (by rw [h2]; exact Nat.le_refl _) (by rw [h2]; show 0 + 0 + newCap cap ≤ newCap cap; omega) dJx4a65c_grow_92f84_37 (fun v => ?_)
    refine AcH.ex (fun b => ?_)
    refine AcH.pure (P := v = some (.ref b)) (fun hv => ?_) (fun H h => h.1)
    subst hv
    refine AcH.mono (fun H h => h.2) ?_
    exact H_dup_x1 hx rfl rfl dJx4a65c_grow_92f84_40 (L_pel hk hx (by omega) hg4 dJx4a65c_grow_92f84_41 (H_aret hx hr (Or.inr ⟨_, rfl⟩) dJx4a65c_grow_92f84_44 hkk (by rw [h2]; exact Nat.le_refl _) (by rw [h2]; show 0 + 0 + newCap cap ≤ newCap cap; omega) (fun H h => ⟨b, rfl, h⟩)))
end CPY
