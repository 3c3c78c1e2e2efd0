/-! pure: what holds between calls: the copies of those alive -/
def cxP (σ : Sg) (i m : Nat) : Prop := (σ.1 25 m 0 = 0 ∧ (σ.1 27 m i = 0 ∨ σ.1 27 m i = 3) ∧ m ∉ σ.2.1 (3 + i) ∧ m ∉ σ.2.1 (7 + i)) ∨ (σ.1 25 m 0 = 0 ∧ σ.1 27 m i = 2 ∧ m ∈ σ.2.1 (3 + i) ∧ m ∉ σ.2.1 (7 + i)) ∨ (σ.1 25 m 0 = 0 ∧ σ.1 27 m i = 1 ∧ m ∉ σ.2.1 (3 + i) ∧ m ∈ σ.2.1 (7 + i)) ∨ (σ.1 25 m 0 = 1 ∧ σ.1 27 m i = 4 ∧ m ∉ σ.2.1 (3 + i) ∧ m ∉ σ.2.1 (7 + i))
def KQ (σ : Sg) : Prop := ∀ i, i < 4 → ¬ σ.1 13 i 0 = 0 → ∃ q, q ≤ (σ.2.1 1).length ∧ σ.1 11 i 0 = nI q
def CY (f : Prop) (σ : Sg) : Prop := C1 σ ∧ (f → KH σ) ∧ (f → KQ σ) ∧ (∀ i, i < 4 → DJ σ i) ∧ ∀ i, i < 4 → ¬ σ.1 13 i 0 = 0 → ∀ m, m < σ.2.2.1 0 → cxP σ i m
/-- what deliveries leave, and how lists grow -/
def Mo (σ τ : Sg) : Prop := τ.2.2.1 0 = σ.2.2.1 0 ∧ (∀ k, k ≠ 27 → k ≠ 29 → k ≠ 30 → k ≠ 16 → k ≠ 23 → k ≠ 11 → τ.1 k = σ.1 k) ∧ (τ.2.1 2 = σ.2.1 2) ∧ (∀ b, b < 4 → ∀ a ∈ σ.2.1 (3 + b), a ∈ τ.2.1 (3 + b)) ∧ ∀ b, b < 4 → ∀ a ∈ σ.2.1 (7 + b), a ∈ τ.2.1 (7 + b) ∨ a ∈ τ.2.1 (3 + b)
section AL
variable {f : Prop} {σ τ υ : Sg} {m i j k n a b o k2 o2 j2 t B q p s : Nat} {x y : Int32} {l : List Nat}
theorem cxP.of {σ' : Sg} (h : cxP σ i m) (h25 : σ'.1 25 m 0 = σ.1 25 m 0) (h27 : σ'.1 27 m i = σ.1 27 m i) (hR : m ∈ σ'.2.1 (3 + i) ↔ m ∈ σ.2.1 (3 + i)) (hH : m ∈ σ'.2.1 (7 + i) ↔ m ∈ σ.2.1 (7 + i)) : cxP σ' i m := by
  unfold cxP at h ⊢
  rw [h25, h27, hR, hH]
  exact h
theorem Mo.rf : Mo σ σ := ⟨rfl, fun _ _ _ _ _ _ _ => rfl, rfl, fun _ _ _ h => h, fun _ _ _ h => Or.inl h⟩
theorem Mo.tr (h : Mo σ τ) (h' : Mo τ υ) : Mo σ υ := by
  obtain ⟨a1, a2, a3, a4, a5⟩ := h
  obtain ⟨b1, b2, b3, b4, b5⟩ := h'
  refine ⟨b1.trans a1, fun k h1 h2 h3 h4 h5 h6 => (b2 k h1 h2 h3 h4 h5 h6).trans (a2 k h1 h2 h3 h4 h5 h6), b3.trans a3, fun b hb a ha => b4 b hb a (a4 b hb a ha), fun b hb a ha => ?_⟩
  rcases a5 b hb a ha with q | q
  · exact b5 b hb a q
  · exact Or.inr (b4 b hb a q)
theorem dl_k (h : k2 ≠ 27) (h1 : k2 ≠ 29) (h2 : k2 ≠ 30) (h3 : k2 ≠ 16) (h4 : k2 ≠ 23) (h5 : k2 ≠ 11) : (S_dl σ m i).1 k2 = σ.1 k2 := by funext o j; exact dl_I h h1 h2 h3 h4 h5
theorem gN_le : (σ.2.1 1).length ≤ ((S_gN σ m).2.1 1).length := by
  unfold S_gN
  split
  · rw [ladd_L1, w_ui2, List.length_append]; omega
  · exact Nat.le_refl _
theorem dl_len (hi : i < 4) : (σ.2.1 1).length ≤ ((S_dl σ m i).2.1 1).length := by
  have e : (S_d1 σ m i).2.1 1 = σ.2.1 1 := d1_L (by omega)
  have h := gN_le (σ := S_d1 σ m i) (m := m)
  rw [e] at h
  rw [dl_eq]
  split
  · rw [w_ui2]; exact h
  · rw [e]; exact Nat.le_refl _
theorem dl_11 : (S_dl σ m i).1 11 b 0 = if i = tk σ ∧ b = i then nI ((S_dl σ m i).2.1 1).length else σ.1 11 b 0 := by
  rw [dl_eq]
  by_cases c : i = tk σ
  · rw [if_pos c, w_ui1, w_ui2]
    by_cases d : b = i
    · rw [if_pos ⟨rfl, d, rfl⟩, if_pos ⟨c, d⟩]
    · rw [if_neg (fun q => d q.2.1), if_neg (fun q => d q.2), gN_I (by decide) (by decide), d1_I (by decide) (by decide) (by decide) (by decide)]
  · rw [if_neg c, if_neg (fun q => c q.1), d1_I (by decide) (by decide) (by decide) (by decide)]
theorem dl_Mo (hi : i < 4) : Mo σ (S_dl σ m i) := by
  refine ⟨dl_n, fun k h1 h2 h3 h4 h5 h6 => dl_k h1 h2 h3 h4 h5 h6, dl_L (by omega) (by decide), fun b hb a ha => ?_, fun b hb a ha => Or.inl (by rw [dl_L (by omega) (by omega)]; exact ha)⟩
  by_cases c : b = i
  · subst c
    rw [dl_L1]
    exact List.mem_append_left _ ha
  · rw [dl_L (by omega) (by omega)]
    exact ha
theorem KH.dl (K : KH σ) (hi : i < 4) : KH (S_dl σ m i) := by
  intro h
  rw [tk_dl] at h ⊢
  rw [dl_I (by decide) (by decide) (by decide) (by decide) (by decide) (by decide)] at h
  rw [dl_11]
  by_cases c : i = tk σ
  · rw [if_pos ⟨c, c.symm⟩]
  · rw [if_neg (fun q => c q.1), K h, dl_eq, if_neg c, d1_L (by omega)]
theorem KQ.dl (Q : KQ σ) (hi : i < 4) : KQ (S_dl σ m i) := by
  intro b hb h
  rw [dl_I (by decide) (by decide) (by decide) (by decide) (by decide) (by decide)] at h
  rw [dl_11]
  by_cases c : i = tk σ ∧ b = i
  · rw [if_pos c]; exact ⟨_, Nat.le_refl _, rfl⟩
  · rw [if_neg c]
    obtain ⟨q, h1, h2⟩ := Q b hb h
    exact ⟨q, Nat.le_trans h1 (dl_len hi), h2⟩
/-- a delivery of a message that was taken out, or has just come -/
theorem dlX (h : C1 σ) (K : f → KH σ) (Q : f → KQ σ) (D : ∀ b, b < 4 → DJ σ b) (X : ∀ b, b < 4 → ¬ σ.1 13 b 0 = 0 → ∀ a, a < σ.2.2.1 0 → ¬ (a = m ∧ b = i) → cxP σ b a) (hm : m < σ.2.2.1 0) (hi : i < 4) (hr : m ∉ σ.2.1 (3 + i)) (hh : m ∉ σ.2.1 (7 + i)) (hd : σ.1 25 m 0 = 0) (hc : canB σ m i = true) : CY f (S_dl σ m i) := by
  obtain ⟨W, N, L, C, A, T, E⟩ := h
  obtain ⟨c1, c2⟩ := (C.can W hm hi).mp hc
  rw [C.sq_st W hm] at c1
  refine ⟨C1.dl ⟨W, N, L, C, A, T, E⟩ hm hi hr hd c1 c2, fun z => (K z).dl hi, fun z => (Q z).dl hi, fun b hb => ?_, fun b hb hal a ha => ?_⟩
  · intro a ha
    rw [dl_L (by omega) (by omega)] at ha
    by_cases e : b = i
    · subst e
      rw [dl_L1]
      intro q
      rcases List.mem_append.mp q with q | q
      · exact D b hb a ha q
      · simp only [List.mem_singleton] at q
        subst q
        exact hh ha
    · rw [dl_L (by omega) (by omega)]
      exact D b hb a ha
  · rw [dl_I (by decide) (by decide) (by decide) (by decide) (by decide) (by decide)] at hal
    rw [dl_n] at ha
    have e25 : (S_dl σ m i).1 25 a 0 = σ.1 25 a 0 := dl_I (by decide) (by decide) (by decide) (by decide) (by decide) (by decide)
    by_cases e : a = m ∧ b = i
    · obtain ⟨e1, e2⟩ := e
      subst e1
      subst e2
      refine Or.inr (Or.inl ⟨by rw [e25]; exact hd, by rw [dl_c, if_pos ⟨rfl, rfl⟩], ?_, ?_⟩)
      · rw [dl_L1]; simp
      · rw [dl_L (by omega) (by omega)]; exact hh
    · refine (X b hb hal a ha e).of e25 (by rw [dl_c, if_neg e]) ?_ (by rw [dl_L (by omega) (by omega)])
      by_cases e2 : b = i
      · subst e2
        rw [dl_L1]
        simp only [List.mem_append, List.mem_singleton]
        exact ⟨fun q => q.elim id (fun z => absurd ⟨z, rfl⟩ e), Or.inl⟩
      · rw [dl_L (by omega) (by omega)]
theorem rdyF : rdy σ i = false ↔ ∀ a ∈ σ.2.1 (7 + i), canB σ a i = false := by
  unfold rdy
  rw [decide_eq_false_iff_not]
  unfold frc
  rw [fI_iff]
  unfold frP
  constructor
  · intro h a ha
    obtain ⟨j, hj, e⟩ := List.getElem_of_mem ha
    by_cases c : canB σ a i = true
    · exact absurd ⟨j, hj, by rw [List.getD_eq_getElem?_getD, List.getElem?_eq_getElem hj]; exact e ▸ c⟩ h
    · simpa using c
  · rintro h ⟨j, hj, e⟩
    rw [h _ (getD_mem hj)] at e
    cases e
theorem canB_ofr {σ' : Sg} (h1 : σ'.1 26 = σ.1 26) (h2 : ∀ j, σ'.1 16 i j = σ.1 16 i j) (h3 : σ'.1 21 = σ.1 21) : canB σ' m i = canB σ m i := by
  have e : cR σ' m i = cR σ m i := by
    funext j
    unfold cR
    rw [h1, h2, sdr_of h3]
  unfold canB
  rw [e]
theorem rdy_of {σ' : Sg} (h1 : σ'.1 26 = σ.1 26) (h2 : ∀ j, σ'.1 16 i j = σ.1 16 i j) (h3 : σ'.1 21 = σ.1 21) (hH : σ'.2.1 (7 + i) = σ.2.1 (7 + i)) (h : rdy σ i = false) : rdy σ' i = false := by
  rw [rdyF] at h ⊢
  rw [hH]
  intro a ha
  rw [canB_ofr h1 h2 h3]
  exact h a ha
theorem dl_16 (h : b ≠ i) : (S_dl σ m i).1 16 b j = σ.1 16 b j := by
  rw [dl_eq]
  split
  · rw [upI_n (by decide), gN_I (by decide) (by decide), d1_C16, if_neg (fun q => h q.1)]
  · rw [d1_C16, if_neg (fun q => h q.1)]
theorem CY.ph (h : CY f σ) (hi : i < 4) : PH σ i := ⟨h.1.1, h.1.2.1.nu h.1.1, h.2.2.2.1 i hi⟩
theorem mem_er (hn : l.Nodup) (hj : j < l.length) (h : a ≠ l.getD j 0) : a ∈ l.eraseIdx j ↔ a ∈ l := by
  rw [eraseIdx_flt l j hn hj, List.mem_filter]
  simp only [bne_iff_ne, ne_eq, and_iff_left_iff_imp]
  exact fun _ => h
theorem CY.st1 (h : CY f σ) (hi : i < 4) (hal : ¬ σ.1 13 i 0 = 0) (hr : rdy σ i = true) : CY f (stp σ i) ∧ Mo σ (stp σ i) ∧ ∀ b, b < 4 → b ≠ i → rdy σ b = false → rdy (stp σ i) b = false := by
  obtain ⟨q1, q2, q3, q4, q5, q6, q7⟩ := stp_ok (h.ph hi) hi hr
  obtain ⟨H1, K, Q, D, X⟩ := h
  have W := H1.1
  have hlt : frc σ i < (σ.2.1 (7 + i)).length := of_decide_eq_true hr
  have hcan : canB σ (hM σ i) i = true := fI_at (P := frP σ i) hlt
  have eL : ∀ b, b < 4 → (lrem σ (7 + i) (frc σ i)).2.1 (3 + b) = σ.2.1 (3 + b) := fun b hb => lrem_Ln (by omega)
  have eH : ∀ b, b < 4 → b ≠ i → (lrem σ (7 + i) (frc σ i)).2.1 (7 + b) = σ.2.1 (7 + b) := fun b hb hne => lrem_Ln (by omega)
  have e1 : (lrem σ (7 + i) (frc σ i)).2.1 1 = σ.2.1 1 := lrem_Ln (by omega)
  have et : tk (lrem σ (7 + i) (frc σ i)) = tk σ := tk_r
  have eHi : (lrem σ (7 + i) (frc σ i)).2.1 (7 + i) = (σ.2.1 (7 + i)).eraseIdx (frc σ i) := lrem_L1
  have hnd := W.nd (k := 7 + i) (by omega)
  have hd : σ.1 25 (hM σ i) 0 = 0 := by
    rcases X i hi hal _ q4 with q | q | q | q
    · exact q.1
    · exact q.1
    · exact q.1
    · exact absurd q5 q.2.2.2
  have mo1 : Mo σ (stp σ i) := by
    refine ⟨q7, fun k h1 h2 h3 h4 h5 h6 => by funext o j; exact stp_I h1 h2 h3 h4 h5 h6, stp_L (by omega) (by decide) (by omega), fun b hb a ha => ?_, fun b hb a ha => ?_⟩
    · by_cases c : b = i
      · subst c; rw [q3]; exact List.mem_append_left _ ha
      · rw [stp_L (by omega) (by omega) (by omega)]; exact ha
    · by_cases c : b = i
      · subst c
        by_cases d : a = hM σ b
        · right; rw [q3, d]; simp
        · left; rw [q2]; exact (mem_er hnd hlt d).mpr ha
      · left; rw [stp_L (by omega) (by omega) (by omega)]; exact ha
  refine ⟨?_, mo1, fun b hb hne hq => ?_⟩
  · refine dlX (σ := lrem σ (7 + i) (frc σ i)) (H1.rem hi) ?_ ?_ ?_ ?_ q4 hi (by rw [eL i hi]; exact q6) ?_ ?_ ?_
    · intro zf z
      rw [et] at z ⊢
      rw [lrem_I (by decide)] at z
      rw [lrem_I (by decide), e1]
      exact K zf z
    · intro zf b hb z
      rw [lrem_I (by decide)] at z
      rw [lrem_I (by decide), e1]
      exact Q zf b hb z
    · intro b hb a ha
      rw [eL b hb]
      by_cases c : b = i
      · subst c
        rw [eHi] at ha
        exact D b hb a (List.mem_of_mem_eraseIdx ha)
      · rw [eH b hb c] at ha
        exact D b hb a ha
    · intro b hb z a ha hne
      rw [lrem_I (by decide)] at z
      refine (X b hb z a ha).of (lrem_I (by decide)) (lrem_I (by decide)) (by rw [eL b hb]) ?_
      by_cases c : b = i
      · subst c
        rw [eHi]
        exact mem_er hnd hlt (fun q => hne ⟨q, rfl⟩)
      · rw [eH b hb c]
    · rw [eHi]; exact nd_erase hnd hlt
    · rw [lrem_I (by decide)]; exact hd
    · rw [canB_of (lrem_k (by decide)) (lrem_k (by decide)) (lrem_k (by decide))]; exact hcan
  · refine rdy_of (mo1.2.1 26 (by decide) (by decide) (by decide) (by decide) (by decide) (by decide)) (fun j => ?_) (mo1.2.1 21 (by decide) (by decide) (by decide) (by decide) (by decide) (by decide)) (stp_L (by omega) (by omega) (by omega)) hq
    unfold stp
    rw [dl_16 hne, lrem_I (by decide)]
theorem CY.it1 (h : CY f σ) (hi : i < 4) (hal : ¬ σ.1 13 i 0 = 0) : ∀ t, (∀ s, s < t → rdy (itr i s σ) i = true) → CY f (itr i t σ) ∧ Mo σ (itr i t σ) ∧ ∀ b, b < 4 → b ≠ i → rdy σ b = false → rdy (itr i t σ) b = false := by
  intro t
  induction t with
  | zero => intro _; exact ⟨h, Mo.rf, fun _ _ _ q => q⟩
  | succ t ih =>
    intro hr
    obtain ⟨h1, h2, h3⟩ := ih (fun s hs => hr s (by omega))
    have hal2 : ¬ (itr i t σ).1 13 i 0 = 0 := by rw [itr_I (by decide) (by decide) (by decide) (by decide) (by decide) (by decide)]; exact hal
    obtain ⟨g1, g2, g3⟩ := h1.st1 hi hal2 (hr t (by omega))
    exact ⟨g1, h2.tr g2, fun b hb hne q => g3 b hb hne (h3 b hb hne q)⟩
theorem CY.d1H (h : CY f σ) (hi : i < 4) (hal : ¬ σ.1 13 i 0 = 0) : CY f (S_dH σ i) ∧ Mo σ (S_dH σ i) ∧ rdy (S_dH σ i) i = false ∧ ∀ b, b < 4 → b ≠ i → rdy σ b = false → rdy (S_dH σ i) b = false := by
  obtain ⟨h1, h2, h3⟩ := h.it1 hi hal (hT σ i) (fun s hs => hT_rdy hs)
  exact ⟨h1, h2, dH_end (h.ph hi) hi, h3⟩
/-- a copy comes in -/
theorem CY.tI1 (h : CY f σ) (hi : i < 4) (hal : ¬ σ.1 13 i 0 = 0) (hm : m < σ.2.2.1 0) (hc : σ.1 27 m i = 0 ∨ σ.1 27 m i = 3) (hq : rdy σ i = false) : CY f (S_tI σ m i) ∧ Mo σ (S_tI σ m i) ∧ rdy (S_tI σ m i) i = false ∧ (∀ b, b < 4 → b ≠ i → rdy σ b = false → rdy (S_tI σ m i) b = false) ∧ (m ∈ (S_tI σ m i).2.1 (3 + i) ∨ m ∈ (S_tI σ m i).2.1 (7 + i)) := by
  have hx := h.2.2.2.2 i hi hal m hm
  have hx2 : σ.1 25 m 0 = 0 ∧ m ∉ σ.2.1 (3 + i) ∧ m ∉ σ.2.1 (7 + i) := by
    rcases hx with q | q | q | q
    · exact ⟨q.1, q.2.2.1, q.2.2.2⟩
    · rw [q.2.1] at hc; rcases hc with z | z <;> exact absurd z (by decide)
    · rw [q.2.1] at hc; rcases hc with z | z <;> exact absurd z (by decide)
    · rw [q.2.1] at hc; rcases hc with z | z <;> exact absurd z (by decide)
  obtain ⟨x1, x2, x3⟩ := hx2
  obtain ⟨H1, K, Q, D, X⟩ := h
  unfold S_tI
  by_cases c : canB σ m i = true
  · rw [if_pos c]
    have h1 := dlX H1 K Q D (fun b hb z a ha _ => X b hb z a ha) hm hi x2 x3 x1 c
    have hal2 : ¬ (S_dl σ m i).1 13 i 0 = 0 := by rw [dl_I (by decide) (by decide) (by decide) (by decide) (by decide) (by decide)]; exact hal
    obtain ⟨g1, g2, g3, g4⟩ := h1.d1H hi hal2
    refine ⟨g1, (dl_Mo hi).tr g2, g3, fun b hb hne q => g4 b hb hne ?_, Or.inl (g2.2.2.2.1 i hi m (by rw [dl_L1]; simp))⟩
    exact rdy_of (dl_k (by decide) (by decide) (by decide) (by decide) (by decide) (by decide)) (fun j => dl_16 hne) (dl_k (by decide) (by decide) (by decide) (by decide) (by decide) (by decide)) (dl_L (by omega) (by omega)) q
  · rw [if_neg c]
    have W := H1.1
    have t4 := W.tk4
    have eI : ∀ k, k ≠ 27 → k ≠ 30 → (ladd (upI σ 27 m i 1) (7 + i) m).1 k = σ.1 k := fun k h1 h2 => by rw [ladd_k h2, upI_k h1]
    have eL : ∀ k, k ≠ 7 + i → (ladd (upI σ 27 m i 1) (7 + i) m).2.1 k = σ.2.1 k := fun k h1 => ladd_Ln h1
    have eH : (ladd (upI σ 27 m i 1) (7 + i) m).2.1 (7 + i) = σ.2.1 (7 + i) ++ [m] := ladd_L1
    have en : (ladd (upI σ 27 m i 1) (7 + i) m).2.2.1 0 = σ.2.2.1 0 := ladd_n
    have et : tk (ladd (upI σ 27 m i 1) (7 + i) m) = tk σ := by unfold tk; rw [eI 0 (by decide) (by decide)]
    have mo : Mo σ (ladd (upI σ 27 m i 1) (7 + i) m) := by
      refine ⟨en, fun k h1 h2 h3 h4 h5 h6 => eI k h1 h3, eL 2 (by omega), fun b hb a ha => by rw [eL _ (by omega)]; exact ha, fun b hb a ha => Or.inl ?_⟩
      by_cases e : b = i
      · subst e; rw [eH]; exact List.mem_append_left _ ha
      · rw [eL _ (by omega)]; exact ha
    have hcan : ∀ a b, canB (ladd (upI σ 27 m i 1) (7 + i) m) a b = canB σ a b := fun a b => canB_of (eI 26 (by decide) (by decide)) (eI 16 (by decide) (by decide)) (eI 21 (by decide) (by decide))
    refine ⟨⟨?_, ?_, ?_, fun b hb a ha => ?_, fun b hb z a ha => ?_⟩, mo, ?_, fun b hb hne q => ?_, Or.inr (by rw [eH]; simp)⟩
    · obtain ⟨W, N, L, C, A, T, E⟩ := H1
      refine ⟨(W.u (by decide)).add (by omega) (by omega) hm x3, fun a ha => ?_, fun a b ha hb => ?_, C.of (eI 16 (by decide) (by decide)) (eI 21 (by decide) (by decide)) (eI 22 (by decide) (by decide)) (eI 26 (by decide) (by decide)) (fun b hb => eL _ (by omega)) en W, fun z a ha hra => ?_, fun z a ha => ?_, fun a ha => ?_⟩
      · rw [en] at ha; rw [eI 23 (by decide) (by decide), eL 1 (by omega)]; exact N a ha
      · rw [en] at ha; rw [eI 29 (by decide) (by decide), eL _ (by omega)]; exact L a b ha hb
      · rw [et, eI 13 (by decide) (by decide)] at z
        rw [en] at ha
        rw [et, eL _ (by omega)] at hra
        rw [eI 23 (by decide) (by decide)]
        exact A z a ha hra
      · rw [et, eI 13 (by decide) (by decide)] at z
        rw [et, eL _ (by omega)] at ha
        rw [eL 1 (by omega)]
        exact T z a ha
      · rw [eL 1 (by omega)] at ha
        rw [eI 25 (by decide) (by decide)]
        exact E a ha
    · intro zf z
      rw [et, eI 13 (by decide) (by decide)] at z
      rw [et, eI 11 (by decide) (by decide), eL 1 (by omega)]
      exact K zf z
    · intro zf b hb z
      rw [eI 13 (by decide) (by decide)] at z
      rw [eI 11 (by decide) (by decide), eL 1 (by omega)]
      exact Q zf b hb z
    · rw [eL _ (by omega)]
      by_cases e : b = i
      · subst e
        rw [eH] at ha
        rcases List.mem_append.mp ha with q | q
        · exact D b hb a q
        · simp only [List.mem_singleton] at q
          subst q
          exact x2
      · rw [eL _ (by omega)] at ha
        exact D b hb a ha
    · rw [eI 13 (by decide) (by decide)] at z
      rw [en] at ha
      have e27 : (ladd (upI σ 27 m i 1) (7 + i) m).1 27 a b = if a = m ∧ b = i then 1 else σ.1 27 a b := by
        rw [ladd_I (by decide), w_ui1]
        simp
      by_cases e : a = m ∧ b = i
      · obtain ⟨e1, e2⟩ := e
        subst e1
        subst e2
        refine Or.inr (Or.inr (Or.inl ⟨by rw [eI 25 (by decide) (by decide)]; exact x1, by rw [e27, if_pos ⟨rfl, rfl⟩], by rw [eL _ (by omega)]; exact x2, by rw [eH]; simp⟩))
      · refine (X b hb z a ha).of (by rw [eI 25 (by decide) (by decide)]) (by rw [e27, if_neg e]) (by rw [eL _ (by omega)]) ?_
        by_cases e2 : b = i
        · subst e2
          rw [eH]
          simp only [List.mem_append, List.mem_singleton]
          exact ⟨fun q => q.elim id (fun z => absurd ⟨z, rfl⟩ e), Or.inl⟩
        · rw [eL _ (by omega)]
    · rw [rdyF] at hq ⊢
      rw [eH]
      intro a ha
      rw [hcan]
      rcases List.mem_append.mp ha with q | q
      · exact hq a q
      · simp only [List.mem_singleton] at q
        subst q
        simpa using c
    · rw [rdyF] at q ⊢
      rw [eL _ (by omega)]
      intro a ha
      rw [hcan]
      exact q a ha
end AL
