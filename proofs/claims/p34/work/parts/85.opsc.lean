/-! pure: what holds between calls: sending, losing, telling, failing -/
section OC
variable {f e : Prop} {σ τ υ : Sg} {m i j k n a b o k2 o2 j2 t B q p s m0 i0 g z d : Nat} {x y : Int32} {l : List Nat}
theorem sd4_new (hi : i < 4) (h3 : k2 < 30) (h27 : k2 ≠ 27) (h26 : k2 ≠ 26) (h29 : k2 ≠ 29) (h23 : k2 ≠ 23) (h0 : 20 ≤ k2) : (sd4 σ i).1 k2 (σ.2.2.1 0) j2 = (newMsg σ (nI (σ.2.2.1 0)) (nI i) (nI (σ.2.1 (3 + i)).length)).1 k2 (σ.2.2.1 0) j2 := by
  rw [sd4_I h26]
  unfold sd3
  rw [dl_I h27 h29 (by omega) (by omega) h23 (by omega)]
  exact sd2_new h3 h27
theorem sd4_27 (hj : j < 4) : (sd4 σ i).1 27 (σ.2.2.1 0) j = if j = i then 2 else if σ.1 14 j 0 = 0 then 3 else 0 := by
  rw [sd4_I (by decide)]
  unfold sd3
  rw [dl_c]
  by_cases c : j = i
  · rw [if_pos ⟨rfl, c⟩, if_pos c]
  · rw [if_neg (fun q => c q.2), if_neg c, sd2_27 hj]
/-- the state before the sender proposes -/
theorem CI.sn4 (h : CI True σ B False m0 i0) (hi : i < 4) (hal : ¬ σ.1 13 i 0 = 0) (hn : σ.2.2.1 0 < 48) : CI True (sd4 σ i) B False m0 i0 := by
  obtain ⟨⟨H1, K, Q, D, X⟩, V, q4, q5, q6, ⟨P, g, hg, eg, A⟩, R, S⟩ := h
  have H1' := H1
  obtain ⟨W, N, L, C, A0, T, E⟩ := H1'
  have c0 := (sd2_C0 H1 hi hn).dl (m := σ.2.2.1 0) (i := i) (by rw [sd2_n]; omega) hi (by rw [sd2_L (by omega)]; exact new_notin W (by omega)) (by rw [sd2_new (by decide) (by decide), nm_v25])
  have c0' : C0 (sd3 σ i) := c0
  have W4 := W.sd4 hi hn
  have en : (sd4 σ i).2.2.1 0 = σ.2.2.1 0 + 1 := sd4_n
  have old : ∀ k a j, k < 30 → k ≠ 16 → k ≠ 23 → k ≠ 11 → (a ≠ σ.2.2.1 0 ∨ k < 20) → (sd4 σ i).1 k a j = σ.1 k a j := fun k a j h1 h2 h3 h4 h5 => sd4_old h1 h2 h3 h4 h5
  have et : tk (sd4 σ i) = tk σ := by unfold tk; rw [old 0 0 0 (by decide) (by decide) (by decide) (by decide) (Or.inr (by decide))]
  have h13 : ∀ b, (sd4 σ i).1 13 b 0 = σ.1 13 b 0 := fun b => old 13 b 0 (by decide) (by decide) (by decide) (by decide) (Or.inr (by decide))
  have h14 : ∀ b, (sd4 σ i).1 14 b 0 = σ.1 14 b 0 := fun b => old 14 b 0 (by decide) (by decide) (by decide) (by decide) (Or.inr (by decide))
  have n25 : (sd4 σ i).1 25 (σ.2.2.1 0) 0 = 0 := by rw [sd4_new hi (by decide) (by decide) (by decide) (by decide) (by decide) (by decide), nm_v25]
  have n28 : ∀ j, j < 4 → (sd4 σ i).1 28 (σ.2.2.1 0) j = -1 := fun j hj => by rw [sd4_new hi (by decide) (by decide) (by decide) (by decide) (by decide) (by decide), nm_v28, fNeg4 hj]
  have n24 : (sd4 σ i).1 24 (σ.2.2.1 0) 0 = -1 := by rw [sd4_new hi (by decide) (by decide) (by decide) (by decide) (by decide) (by decide), nm_v24]
  have eL2 : (sd4 σ i).2.1 2 = σ.2.1 2 := sd4_Lo (by decide) (by decide) (by omega)
  have eH : ∀ b, b < 4 → (sd4 σ i).2.1 (7 + b) = σ.2.1 (7 + b) := fun b hb => sd4_Lo (by omega) (by omega) (by omega)
  have eR : ∀ b, b < 4 → b ≠ i → (sd4 σ i).2.1 (3 + b) = σ.2.1 (3 + b) := fun b hb h => sd4_Lo (by omega) (by omega) (by omega)
  have eRi : (sd4 σ i).2.1 (3 + i) = σ.2.1 (3 + i) ++ [σ.2.2.1 0] := sd4_LR
  have hRm : ∀ b a, b < 4 → a ≠ σ.2.2.1 0 → (a ∈ (sd4 σ i).2.1 (3 + b) ↔ a ∈ σ.2.1 (3 + b)) := fun b a hb ha => by
    by_cases c : b = i
    · subst c
      rw [eRi]
      simp [ha]
    · rw [eR b hb c]
  have nni : ∀ k, k < 11 → σ.2.2.1 0 ∉ σ.2.1 k := fun k hk => new_notin W hk
  have K2 : KH (sd2 σ i) := fun z => by
    have e : tk (sd2 σ i) = tk σ := by unfold tk; rw [sd2_I (by omega) (by decide)]
    rw [e, sd2_I (by omega) (by decide)] at z
    rw [e, sd2_I (by omega) (by decide), sd2_L (by decide)]
    exact K trivial z
  have Q2 : KQ (sd2 σ i) := fun b hb z => by
    rw [sd2_I (by omega) (by decide)] at z
    rw [sd2_I (by omega) (by decide), sd2_L (by decide)]
    exact Q trivial b hb z
  have K3 : KH (sd3 σ i) := K2.dl hi
  have Q3 : KQ (sd3 σ i) := Q2.dl hi
  have C4 : C1 (sd4 σ i) := by
    obtain ⟨w, n', l', a', t', d'⟩ := c0'
    have e4 : ∀ k o j, k ≠ 26 → (sd4 σ i).1 k o j = (sd3 σ i).1 k o j := fun k o j h => sd4_I h
    refine ⟨W4, fun a ha => ?_, fun a b ha hb => ?_, sd4_CA C W hi, fun z a ha hra => ?_, fun z a ha => ?_, fun a ha => ?_⟩
    · rw [e4 23 _ _ (by decide)]; exact n' a ha
    · rw [e4 29 _ _ (by decide)]; exact l' a b ha hb
    · rw [e4 23 _ _ (by decide)]; exact a' z a ha hra
    · exact t' z a ha
    · rw [e4 25 _ _ (by decide)]; exact d' a ha
  refine ⟨⟨C4, fun _ => ?_, fun _ => ?_, fun b hb a ha => ?_, fun b hb z a ha => ?_⟩, fun b hb z => ?_, fun a ha hna hd j hj hv => ?_, fun b hb z a ha _ hc => ?_, fun b hb z a ha _ hd hp => ?_, ⟨⟨fun a j ha hj => ?_, fun b hb => ?_, ?_⟩, g, hg, ?_, fun a ha => ?_, ?_⟩, fun b hb z => ?_, ?_⟩
  · intro z
    exact K3 z
  · intro b hb z
    exact Q3 b hb z
  · rw [eH b hb] at ha
    have ha2 := W.el (k := 7 + b) (by omega) ha
    exact fun q => D b hb a ha ((hRm b a hb (by omega)).mp q)
  · rw [h13] at z
    rw [en] at ha
    by_cases c : a = σ.2.2.1 0
    · subst c
      by_cases e : b = i
      · refine Or.inr (Or.inl ⟨n25, by rw [sd4_27 hb, if_pos e], ?_, by rw [eH b hb]; exact nni _ (by omega)⟩)
        rw [e, eRi]; simp
      · refine Or.inl ⟨n25, Or.inl ?_, by rw [eR b hb e]; exact nni _ (by omega), by rw [eH b hb]; exact nni _ (by omega)⟩
        rw [sd4_27 hb, if_neg e, if_neg (V b hb z)]
    · exact (X b hb z a (by omega)).of (old 25 a 0 (by decide) (by decide) (by decide) (by decide) (Or.inl c)) (old 27 a b (by decide) (by decide) (by decide) (by decide) (Or.inl c)) (hRm b a hb c) (by rw [eH b hb])
  · rw [h13] at z
    rw [h14]
    exact V b hb z
  · rw [en] at ha
    rw [eL2] at hna
    rw [h14] at hv
    by_cases c : a = σ.2.2.1 0
    · rw [c]; exact n28 j hj
    · rw [old 25 a 0 (by decide) (by decide) (by decide) (by decide) (Or.inl c)] at hd
      rw [old 28 a j (by decide) (by decide) (by decide) (by decide) (Or.inl c)]
      exact q4 a (by omega) hna hd j hj hv
  · rw [h13] at z
    rw [en] at ha
    rw [eL2]
    by_cases c : a = σ.2.2.1 0
    · rw [c]; exact nni 2 (by decide)
    · rw [old 27 a b (by decide) (by decide) (by decide) (by decide) (Or.inl c)] at hc
      exact q5 b hb z a (by omega) (fun q => q.elim) hc
  · rw [h13] at z
    rw [en] at ha
    by_cases c : a = σ.2.2.1 0
    · rw [c] at hp; exact absurd (n28 b hb) hp
    · rw [old 25 a 0 (by decide) (by decide) (by decide) (by decide) (Or.inl c)] at hd
      rw [old 28 a b (by decide) (by decide) (by decide) (by decide) (Or.inl c)] at hp
      rw [hRm b a hb c, eH b hb]
      exact q6 b hb z a (by omega) (fun q => q.elim) hd hp
  · rw [en] at ha
    by_cases c : a = σ.2.2.1 0
    · have e0 : pv (sd4 σ i) a j = 0 := by unfold pv; rw [c, n28 j hj, if_pos rfl]
      rw [e0, c, n28 j hj]
      exact ⟨rfl, Nat.zero_le _⟩
    · have e0 : pv (sd4 σ i) a j = pv σ a j := by unfold pv; rw [old 28 a j (by decide) (by decide) (by decide) (by decide) (Or.inl c)]
      rw [e0, old 28 a j (by decide) (by decide) (by decide) (by decide) (Or.inl c)]
      exact P.1 a j (by omega) hj
  · rw [old 12 b 0 (by decide) (by decide) (by decide) (by decide) (Or.inr (by decide))]
    exact P.2.1 b hb
  · rw [old 1 0 0 (by decide) (by decide) (by decide) (by decide) (Or.inr (by decide))]
    exact P.2.2
  · rw [old 1 0 0 (by decide) (by decide) (by decide) (by decide) (Or.inr (by decide))]
    exact eg
  · rw [en] at ha
    rw [eL2]
    by_cases c : a = σ.2.2.1 0
    · have e0 : ag (sd4 σ i) a = 0 := by unfold ag; rw [c, n24, if_pos rfl]
      rw [e0, c, n24]
      exact ⟨rfl, Nat.zero_le _, fun q => absurd q (nni 2 (by decide)), fun q => absurd rfl q⟩
    · have e0 : ag (sd4 σ i) a = ag σ a := by unfold ag; rw [old 24 a 0 (by decide) (by decide) (by decide) (by decide) (Or.inl c)]
      rw [e0, old 24 a 0 (by decide) (by decide) (by decide) (by decide) (Or.inl c)]
      exact A.1 a (by omega)
  · rw [eL2]
    refine A.2.imp_of_mem (fun {a b} ha hb q => ?_)
    have e0 : ∀ a, a < σ.2.2.1 0 → ag (sd4 σ i) a = ag σ a := fun a ha => by unfold ag; rw [old 24 a 0 (by decide) (by decide) (by decide) (by decide) (Or.inl (by omega))]
    rw [e0 a (W.el (by decide) ha), e0 b (W.el (by decide) hb)]
    exact q
  · rw [h13] at z
    have hr := R b hb z
    rw [rdyF] at hr ⊢
    rw [eH b hb]
    intro a ha
    have ha2 := W.el (k := 7 + b) (by omega) ha
    have hf := hr a ha
    by_cases c : canB (sd4 σ i) a b = true
    · exfalso
      have hx : ¬ canB σ a b = true := by rw [hf]; decide
      apply hx
      have C4A := sd4_CA C W hi
      rw [C4A.can W4 (by omega) hb] at c
      rw [C.can W ha2 hb]
      have es : sdr (sd4 σ i) a = sdr σ a := by rw [sd4_sdr hi, if_neg (by omega)]
      have est : ∀ k, k < 4 → stN (sd4 σ i) a k = stN σ a k := fun k hk => by
        have e1 := (C4A.2.2.1 a (by omega)).2.2.2.1 k hk
        have e2 := (C.2.2.1 a ha2).2.2.2.1 k hk
        rw [old 26 a k (by decide) (by decide) (by decide) (by decide) (Or.inl (by omega)), e2] at e1
        have b1 := C.st48 W ha2 (k := k)
        have b2 := C4A.st48 W4 (m := a) (by omega) (k := k)
        rw [n_eq (by omega) (by omega)] at e1
        exact e1.symm
      have ecn : ∀ k, k < 4 → cnt (sd4 σ i) ((sd4 σ i).2.1 (3 + b)) k = cnt σ (σ.2.1 (3 + b)) k + if b = i ∧ k = i then 1 else 0 := fun k hk => by
        have e1 := C4A.1 b k hb hk
        have e2 := C.1 b k hb hk
        have l1 := cnt_le (σ := σ) (l := σ.2.1 (3 + b)) (k := k)
        have l2 := cnt_le (σ := sd4 σ i) (l := (sd4 σ i).2.1 (3 + b)) (k := k)
        have b1 := W.len (k := 3 + b) (by omega)
        have b2 := W4.len (k := 3 + b) (by omega)
        rw [sd4_16 hi] at e1
        by_cases q : b = i ∧ k = i
        · rw [if_pos q, show σ.1 16 i i = σ.1 16 b k by rw [q.1, q.2], e2, n_ad1, n_eq (by omega) (by omega)] at e1
          rw [if_pos q]
          exact e1.symm
        · rw [if_neg q, e2, n_eq (by omega) (by omega)] at e1
          rw [if_neg q]
          exact e1.symm
      have s4 := W.sn4 ha2
      rw [es, est _ s4, ecn _ s4] at c
      have hne : ¬ (b = i ∧ sdr σ a = i) := fun q => D b hb a ha (by have := C.own W ha2; rw [q.2, ← q.1] at this; exact this)
      rw [if_neg hne] at c
      refine ⟨c.1, fun j hj hjn => ?_⟩
      have c2 := c.2 j hj hjn
      rw [est j hj, ecn j hj] at c2
      by_cases q : b = i ∧ j = i
      · have h1 := C.2.2.2 (sdr σ a) a j s4 (C.own W ha2) hj
        have h2 := C.leOwn W (b := sdr σ a) (i := j) s4 hj
        rw [q.1, ← q.2]
        omega
      · rw [if_neg q] at c2
        exact c2
    · simpa using c
  · have e : alP (sd4 σ i) = alP σ := by
      funext j
      unfold alP
      rw [h13]
    rw [e]
    exact S
/-- a message is sent -/
theorem CI.send (h : CI True σ B False m0 i0) (hB : B + 1 < 2147483648) (hi : i < 4) (hal : ¬ σ.1 13 i 0 = 0) (hn : σ.2.2.1 0 < 48) : CI True (S_sd σ i) (B + 2) False m0 i0 := by
  have W := h.1.1.1
  have h4 := h.sn4 hi hal hn
  have h5 := h4.pr (m := σ.2.2.1 0) (i := i) hB (by rw [sd4_n]; omega) hi (by rw [sd4_old (by decide) (by decide) (by decide) (by decide) (Or.inr (by decide))]; exact hal) (by rw [sd4_L2]; exact new_notin W (by decide))
  refine CI.full (m := σ.2.2.1 0) (i := i) (e := True) h5 (Or.inl ?_)
  unfold S_sd
  rw [pr_L (by omega), sd4_LR]
  simp
/-- a copy is lost, or sent again -/
theorem CI.wc (h : CI True σ B False m0 i0) (hm : m < σ.2.2.1 0) (hi : i < 4) (hc : σ.1 27 m i = 0 ∨ σ.1 27 m i = 3) (hx : x = 0 ∨ x = 3) : CI True (upI σ 27 m i x) B False m0 i0 := by
  obtain ⟨⟨H1, K, Q, D, X⟩, V, q4, q5, q6, P, R, S⟩ := h
  have hk : ∀ k, k ≠ 27 → (upI σ 27 m i x).1 k = σ.1 k := fun k h => upI_k h
  have W' : WF (upI σ 27 m i x) := H1.1.u (by decide)
  have et : tk (upI σ 27 m i x) = tk σ := tk_u (by decide)
  have e27 : ∀ a b, ((upI σ 27 m i x).1 27 a b = 0 ∨ (upI σ 27 m i x).1 27 a b = 3) ↔ (σ.1 27 a b = 0 ∨ σ.1 27 a b = 3) := fun a b => by
    by_cases c : a = m ∧ b = i
    · rw [c.1, c.2, upI_s]
      exact ⟨fun _ => hc, fun _ => hx⟩
    · rw [upI_o c]
  refine ⟨⟨H1.of W' (fun k hk2 => hk k (by omega)) (fun k _ _ => rfl) rfl, fun _ z => ?_, fun _ b hb z => ?_, D, fun b hb z a ha => ?_⟩, fun b hb z => ?_, fun a ha hna hd j hj hv => ?_, fun b hb z a ha he hcc => ?_, fun b hb z a ha he hd hp => ?_, P.of (hk 28 (by decide)) (hk 12 (by decide)) (hk 1 (by decide)) (hk 24 (by decide)) rfl rfl, fun b hb z => ?_, by rw [alP_of (hk 13 (by decide))]; exact S⟩
  · rw [et, hk 13 (by decide)] at z
    rw [et, hk 11 (by decide)]
    exact K trivial z
  · rw [hk 13 (by decide)] at z
    rw [hk 11 (by decide)]
    exact Q trivial b hb z
  · rw [hk 13 (by decide)] at z
    have hx2 := X b hb z a ha
    by_cases c : a = m ∧ b = i
    · have hcc : σ.1 27 a b = 0 ∨ σ.1 27 a b = 3 := by rw [c.1, c.2]; exact hc
      rcases hx2 with q | q | q | q
      · exact Or.inl ⟨by rw [hk 25 (by decide)]; exact q.1, (e27 a b).mpr hcc, q.2.2⟩
      · rw [q.2.1] at hcc; rcases hcc with z | z <;> exact absurd z (by decide)
      · rw [q.2.1] at hcc; rcases hcc with z | z <;> exact absurd z (by decide)
      · rw [q.2.1] at hcc; rcases hcc with z | z <;> exact absurd z (by decide)
    · exact hx2.of (by rw [hk 25 (by decide)]) (upI_o c) Iff.rfl Iff.rfl
  · rw [hk 13 (by decide)] at z; rw [hk 14 (by decide)]; exact V b hb z
  · rw [hk 25 (by decide)] at hd; rw [hk 14 (by decide)] at hv; rw [hk 28 (by decide)]; exact q4 a ha hna hd j hj hv
  · rw [hk 13 (by decide)] at z; exact q5 b hb z a ha he ((e27 a b).mp hcc)
  · rw [hk 13 (by decide)] at z; rw [hk 25 (by decide)] at hd; rw [hk 28 (by decide)] at hp; exact q6 b hb z a ha he hd hp
  · rw [hk 13 (by decide)] at z
    exact rdy_of (hk 26 (by decide)) (fun j => by rw [hk 16 (by decide)]) (hk 21 (by decide)) rfl (R b hb z)
/-- a lost copy of one that has failed: nothing that is looked at -/
theorem CI.tell (h : CI True σ B False m0 i0) (hi : i < 4) : CI True (upI σ 11 i 0 (nI (σ.2.1 1).length)) B False m0 i0 := by
  obtain ⟨⟨H1, K, Q, D, X⟩, V, q4, q5, q6, P, R, S⟩ := h
  have hk : ∀ k, k ≠ 11 → (upI σ 11 i 0 (nI (σ.2.1 1).length)).1 k = σ.1 k := fun k h => upI_k h
  have W' : WF (upI σ 11 i 0 (nI (σ.2.1 1).length)) := H1.1.u (by decide)
  have et : tk (upI σ 11 i 0 (nI (σ.2.1 1).length)) = tk σ := tk_u (by decide)
  have e11 : ∀ b, (upI σ 11 i 0 (nI (σ.2.1 1).length)).1 11 b 0 = if b = i then nI (σ.2.1 1).length else σ.1 11 b 0 := fun b => by
    rw [w_ui1]
    simp
  refine ⟨⟨H1.of W' (fun k hk2 => hk k (by omega)) (fun k _ _ => rfl) rfl, fun _ z => ?_, fun _ b hb z => ?_, D, fun b hb z a ha => ?_⟩, fun b hb z => ?_, fun a ha hna hd j hj hv => ?_, fun b hb z a ha he hcc => ?_, fun b hb z a ha he hd hp => ?_, P.of (hk 28 (by decide)) (hk 12 (by decide)) (hk 1 (by decide)) (hk 24 (by decide)) rfl rfl, fun b hb z => ?_, by rw [alP_of (hk 13 (by decide))]; exact S⟩
  · rw [et, hk 13 (by decide)] at z
    rw [et, e11]
    split
    · rfl
    · exact K trivial z
  · rw [hk 13 (by decide)] at z
    rw [e11]
    split
    · exact ⟨_, Nat.le_refl _, rfl⟩
    · exact Q trivial b hb z
  · rw [hk 13 (by decide)] at z
    exact (X b hb z a ha).of (by rw [hk 25 (by decide)]) (by rw [hk 27 (by decide)]) Iff.rfl Iff.rfl
  · rw [hk 13 (by decide)] at z; rw [hk 14 (by decide)]; exact V b hb z
  · rw [hk 25 (by decide)] at hd; rw [hk 14 (by decide)] at hv; rw [hk 28 (by decide)]; exact q4 a ha hna hd j hj hv
  · rw [hk 13 (by decide)] at z; rw [hk 27 (by decide)] at hcc; exact q5 b hb z a ha he hcc
  · rw [hk 13 (by decide)] at z; rw [hk 25 (by decide)] at hd; rw [hk 28 (by decide)] at hp; exact q6 b hb z a ha he hd hp
  · rw [hk 13 (by decide)] at z
    exact rdy_of (hk 26 (by decide)) (fun j => by rw [hk 16 (by decide)]) (hk 21 (by decide)) rfl (R b hb z)
theorem cAn_le : ∀ t, cAn σ t ≤ t := by
  intro t
  induction t with
  | zero => exact Nat.le_refl _
  | succ t ih =>
    unfold cAn
    split <;> omega
theorem cAn_two : ∀ t, i < t → ¬ σ.1 13 i 0 = 0 → (∀ j, j < t → j ≠ i → σ.1 13 j 0 = 0) → cAn σ t = 1 := by
  have z : ∀ t, t ≤ i → (∀ j, j < t → j ≠ i → σ.1 13 j 0 = 0) → cAn σ t = 0 := by
    intro t
    induction t with
    | zero => intro _ _; rfl
    | succ t ih =>
      intro ht h
      unfold cAn
      rw [if_pos (h t (by omega) (by omega))]
      exact ih (by omega) (fun j hj => h j (by omega))
  intro t
  induction t with
  | zero => intro h; exact absurd h (Nat.not_lt_zero _)
  | succ t ih =>
    intro hi hal h
    unfold cAn
    by_cases c : i = t
    · subst c
      rw [if_neg hal, z i (Nat.le_refl _) (fun j hj => h j (by omega))]
    · rw [if_pos (h t (by omega) (fun q => c q.symm))]
      exact ih (by omega) hal (fun j hj => h j (by omega))
/-- a failure -/
theorem CI.fail (h : CI True σ B False m0 i0) (hi : i < 4) (hal : ¬ σ.1 13 i 0 = 0) (hc : ¬ cAn σ 4 = 1) : CI True (upI (upI σ 15 i 0 x) 13 i 0 0) B False m0 i0 := by
  obtain ⟨⟨H1, K, Q, D, X⟩, V, q4, q5, q6, P, R, S⟩ := h
  have hk : ∀ k, k ≠ 13 → k ≠ 15 → (upI (upI σ 15 i 0 x) 13 i 0 0).1 k = σ.1 k := fun k h1 h2 => by rw [upI_k h1, upI_k h2]
  have W' : WF (upI (upI σ 15 i 0 x) 13 i 0 0) := (H1.1.u (by decide)).b01 (Or.inl rfl) (Or.inl rfl)
  have et : tk (upI (upI σ 15 i 0 x) 13 i 0 0) = tk σ := by unfold tk; rw [hk 0 (by decide) (by decide)]
  have e13 : ∀ b, (upI (upI σ 15 i 0 x) 13 i 0 0).1 13 b 0 = if b = i then 0 else σ.1 13 b 0 := fun b => by
    rw [w_ui1, upI_n (by decide)]
    simp
  have z13 : ∀ b, ¬ (upI (upI σ 15 i 0 x) 13 i 0 0).1 13 b 0 = 0 → ¬ σ.1 13 b 0 = 0 := fun b z => by
    rw [e13] at z
    by_cases c : b = i
    · rw [if_pos c] at z; exact absurd rfl z
    · rw [if_neg c] at z; exact z
  have C1' : C1 (upI (upI σ 15 i 0 x) 13 i 0 0) := by
    obtain ⟨W, N, L, C, A, T, E⟩ := H1
    refine ⟨W', fun a ha => ?_, fun a b ha hb => ?_, C.of (hk 16 (by decide) (by decide)) (hk 21 (by decide) (by decide)) (hk 22 (by decide) (by decide)) (hk 26 (by decide) (by decide)) (fun _ _ => rfl) rfl W, fun z a ha hra => ?_, fun z a ha => ?_, fun a ha => ?_⟩
    · rw [hk 23 (by decide) (by decide)]; exact N a ha
    · rw [hk 29 (by decide) (by decide)]; exact L a b ha hb
    · rw [et] at z hra
      rw [hk 23 (by decide) (by decide)]
      exact A (z13 _ z) a ha hra
    · rw [et] at z ha
      exact T (z13 _ z) a ha
    · rw [hk 25 (by decide) (by decide)]; exact E a ha
  refine ⟨⟨C1', fun _ z => ?_, fun _ b hb z => ?_, D, fun b hb z a ha => ?_⟩, fun b hb z => ?_, fun a ha hna hd j hj hv => ?_, fun b hb z a ha he hcc => ?_, fun b hb z a ha he hd hp => ?_, P.of (hk 28 (by decide) (by decide)) (hk 12 (by decide) (by decide)) (hk 1 (by decide) (by decide)) (hk 24 (by decide) (by decide)) rfl rfl, fun b hb z => ?_, ?_⟩
  · rw [et] at z ⊢
    rw [hk 11 (by decide) (by decide)]
    exact K trivial (z13 _ z)
  · rw [hk 11 (by decide) (by decide)]
    exact Q trivial b hb (z13 _ z)
  · exact (X b hb (z13 _ z) a ha).of (by rw [hk 25 (by decide) (by decide)]) (by rw [hk 27 (by decide) (by decide)]) Iff.rfl Iff.rfl
  · rw [hk 14 (by decide) (by decide)]; exact V b hb (z13 _ z)
  · rw [hk 25 (by decide) (by decide)] at hd; rw [hk 14 (by decide) (by decide)] at hv; rw [hk 28 (by decide) (by decide)]; exact q4 a ha hna hd j hj hv
  · rw [hk 27 (by decide) (by decide)] at hcc; exact q5 b hb (z13 _ z) a ha he hcc
  · rw [hk 25 (by decide) (by decide)] at hd; rw [hk 28 (by decide) (by decide)] at hp; exact q6 b hb (z13 _ z) a ha he hd hp
  · exact rdy_of (hk 26 (by decide) (by decide)) (fun j => by rw [hk 16 (by decide) (by decide)]) (hk 21 (by decide) (by decide)) rfl (R b hb (z13 _ z))
  · by_cases c : ∃ j, j < 4 ∧ j ≠ i ∧ ¬ σ.1 13 j 0 = 0
    · obtain ⟨j, j1, j2, j3⟩ := c
      refine fI_iff.mpr ⟨j, j1, ?_⟩
      unfold alP
      rw [e13, if_neg j2]
      simp [j3]
    · exact absurd (cAn_two 4 hi hal (fun j hj hne => by
        by_cases q : σ.1 13 j 0 = 0
        · exact q
        · exact absurd ⟨j, hj, hne, q⟩ c)) hc
end OC
