/-! pure: the flush at the reference -/
def BL (σ : Sg) : Prop := ∀ a b, a < σ.2.2.1 0 → b < σ.2.2.1 0 → bef σ a b = true → a < b
def CW (σ : Sg) : Prop := ∀ j, j < 4 → ¬ σ.1 13 j 0 = 0 → ∀ m ∈ σ.2.1 (7 + j), σ.1 27 m j = 1
def HA (σ : Sg) : Prop := ¬ σ.1 13 (tk σ) 0 = 0 → ∀ a, a < σ.2.2.1 0 → a ∉ σ.2.1 (3 + tk σ) → σ.1 23 a 0 = -1
section FL
variable {σ τ υ : Sg} {m i j k n a b o k2 o2 j2 t B q : Nat} {x y : Int32} {l : List Nat}
theorem bef_of {σ' : Sg} (h1 : σ'.1 26 = σ.1 26) (h2 : σ'.1 21 = σ.1 21) : bef σ' a b = bef σ a b := by
  unfold bef
  rw [h1, sdr_of h2]
theorem dp_k (h : k2 ≠ 25) (h1 : k2 ≠ 27) (h2 : k2 ≠ 30) (h3 : k2 ≠ 24) (h4 : k2 ≠ 23) : (S_dp σ m).1 k2 = σ.1 k2 := by funext o j; exact dp_I h h1 h2 h3 h4
theorem BL.dp (h : BL σ) : BL (S_dp σ m) := fun a b ha hb hq => by
  rw [dp_2] at ha hb
  rw [bef_of (dp_k (by decide) (by decide) (by decide) (by decide) (by decide)) (dp_k (by decide) (by decide) (by decide) (by decide) (by decide))] at hq
  exact h a b ha hb hq
theorem csn_H (W : WF σ) (hj : j < 4) : (csn σ m 4).2.1 (7 + j) = if σ.1 13 j 0 = 0 then σ.2.1 (7 + j) else (σ.2.1 (7 + j)).filter (fun x => x != m) := by
  have h0 : ∀ t, t ≤ j → (csn σ m t).2.1 (7 + j) = σ.2.1 (7 + j) := by
    intro t
    induction t with
    | zero => intro _; rfl
    | succ t ih =>
      intro ht
      rw [csn_s, w_ui2]
      split
      · exact ih (by omega)
      · rw [tO_Ln (by omega)]; exact ih (by omega)
  have h1 : (csn σ m (j + 1)).2.1 (7 + j) = if σ.1 13 j 0 = 0 then σ.2.1 (7 + j) else (σ.2.1 (7 + j)).filter (fun x => x != m) := by
    rw [csn_s, w_ui2]
    split
    · exact h0 j (Nat.le_refl _)
    · rw [tO_L1 ((W.csn (m := m) j).nd (by omega)), h0 j (Nat.le_refl _)]
  have h2 : ∀ d, (csn σ m (j + 1 + d)).2.1 (7 + j) = (csn σ m (j + 1)).2.1 (7 + j) := by
    intro d
    induction d with
    | zero => rfl
    | succ d ih =>
      rw [← Nat.add_assoc, csn_s, w_ui2]
      split
      · exact ih
      · rw [tO_Ln (by omega)]; exact ih
  have := h2 (3 - j)
  rw [show j + 1 + (3 - j) = 4 by omega] at this
  rw [this, h1]
theorem csn_R : ∀ t, k2 < 7 → (csn σ m t).2.1 k2 = σ.2.1 k2 := by
  intro t h
  induction t with
  | zero => rfl
  | succ t ih =>
    rw [csn_s, w_ui2]
    split
    · exact ih
    · rw [tO_Ln (by omega)]; exact ih
theorem dp_H (W : WF σ) (hj : j < 4) : (S_dp σ m).2.1 (7 + j) = if σ.1 13 j 0 = 0 then σ.2.1 (7 + j) else (σ.2.1 (7 + j)).filter (fun x => x != m) := by
  rw [dp_Lo (by omega) (by omega), csn_H W hj]
theorem dp_R (hj : j < 4) : (S_dp σ m).2.1 (3 + j) = σ.2.1 (3 + j) := by
  rw [dp_Lo (by omega) (by omega), csn_R 4 (by omega)]
theorem CW.dp (h : CW σ) (W : WF σ) : CW (S_dp σ m) := fun j hj hal a ha => by
  rw [dp_I (by decide) (by decide) (by decide) (by decide) (by decide)] at hal
  rw [dp_H W hj, if_neg hal, List.mem_filter] at ha
  have hne : a ≠ m := by simpa using ha.2
  rw [dp_27, if_neg (fun q => hne q.1)]
  exact h j hj hal a ha.1
def PD (σ : Sg) : Prop := WF σ ∧ NB σ ∧ BL σ ∧ CW σ
theorem PD.dp (h : PD σ) : PD (S_dp σ m) := ⟨h.1.dp, h.2.1.dp h.1, h.2.2.1.dp, h.2.2.2.dp h.1⟩
theorem itr_23 (h : i ≠ tk σ) : ∀ t, (itr i t σ).1 23 = σ.1 23 ∧ tk (itr i t σ) = tk σ := by
  intro t
  induction t with
  | zero => exact ⟨rfl, rfl⟩
  | succ t ih =>
    have e : itr i (t + 1) σ = stp (itr i t σ) i := rfl
    have h1 : tk (lrem (itr i t σ) (7 + i) (frc (itr i t σ) i)) = tk σ := by rw [tk_r]; exact ih.2
    rw [e]
    unfold stp S_dl
    rw [if_neg (by rw [h1]; exact h)]
    constructor
    · funext o j
      rw [d1_I (by decide) (by decide) (by decide) (by decide), lrem_I (by decide), ih.1]
    · unfold tk
      rw [d1_I (by decide) (by decide) (by decide) (by decide), lrem_I (by decide)]
      exact ih.2
theorem tI_23 (h : i ≠ tk σ) : (S_tI σ m i).1 23 = σ.1 23 := by
  have hd : S_dl σ m i = S_d1 σ m i := by unfold S_dl; rw [if_neg h]
  unfold S_tI
  split
  · have ht : tk (S_dl σ m i) = tk σ := tk_dl
    rw [show S_dH (S_dl σ m i) i = itr i (hT (S_dl σ m i) i) (S_dl σ m i) from rfl, (itr_23 (by rw [ht]; exact h) _).1, hd]
    funext o j
    rw [d1_I (by decide) (by decide) (by decide) (by decide)]
  · rw [ladd_k (by decide), upI_k (by decide)]
theorem tk_tI : tk (S_tI σ m i) = tk σ := by unfold tk; rw [tI_I (by decide) (by decide) (by decide) (by decide) (by decide) (by decide)]
theorem HX.tI (h : HX σ i) : HX (S_tI σ m i) i := by
  unfold S_tI
  split
  · exact h.dl.itr _
  · intro e a ha hr
    rw [tk_a, tk_u (by decide)] at e
    rw [ladd_n] at ha
    rw [ladd_Ln (by omega)] at hr
    rw [ladd_I (by decide), upI_n (by decide)]
    exact h e a ha hr
theorem HA.hx (h : HA σ) (hal : ¬ σ.1 13 i 0 = 0) : HX σ i := fun e a ha hr => by
  subst e
  exact h hal a ha hr
theorem HA.tI (h : HA σ) (W : WF σ) (hi : i < 4) (hal : ¬ σ.1 13 i 0 = 0) : HA (S_tI σ m i) := by
  have t4 := W.tk4
  have t13 : ∀ j, (S_tI σ m i).1 13 j 0 = σ.1 13 j 0 := fun j => tI_I (by decide) (by decide) (by decide) (by decide) (by decide) (by decide)
  intro hq a ha hr
  rw [tk_tI] at hq hr
  rw [t13] at hq
  by_cases e : i = tk σ
  · subst e
    exact (h.hx hal).tI (m := m) tk_tI.symm a ha hr
  · rw [tI_n] at ha
    rw [tI_L (by omega) (by omega) (by omega)] at hr
    rw [tI_23 e]
    exact h hq a ha hr
theorem lI_dead (hal : σ.1 13 i 0 = 0) : ∀ m, lI i σ m = σ := by
  intro m
  induction m with
  | zero => rfl
  | succ m ih =>
    rw [lI_s, ih, if_neg]
    simp [laP, hal]
def oc (σ : Sg) : Nat := ((List.range (σ.2.2.1 0)).filter (opP σ)).length
theorem flt_len {l : List Nat} (hn : l.Nodup) (hm : m ∈ l) : (l.filter (fun x => x != m)).length + 1 = l.length := by
  have im := List.idxOf_lt_length_of_mem hm
  have := eraseIdx_flt l (l.idxOf m) hn im
  rw [get_idx hm] at this
  rw [← this, List.length_eraseIdx_of_lt im]
  omega
theorem aO_op (hx : x ≠ -1) : opP (S_aO σ m x) a = (opP σ a && (a != m)) := by
  have e1 : (S_aO σ m x).1 25 a 0 = σ.1 25 a 0 := aO_I (by decide) (by decide) (by decide)
  have e2 : (S_aO σ m x).1 24 a 0 = if a = m then x else σ.1 24 a 0 := by
    unfold S_aO
    rw [ladd_I (by decide), upI_n (by decide), w_ui1]
    simp
  unfold opP
  rw [e1, e2]
  by_cases c : a = m
  · rw [if_pos c, c]; simp [hx]
  · rw [if_neg c]; simp [c]
theorem aO_oc (hx : x ≠ -1) (hm : m < σ.2.2.1 0) (ho : opP σ m = true) : oc (S_aO σ m x) + 1 = oc σ := by
  unfold oc
  rw [aO_2]
  have e : (List.range (σ.2.2.1 0)).filter (opP (S_aO σ m x)) = ((List.range (σ.2.2.1 0)).filter (opP σ)).filter (fun a => a != m) := by
    rw [List.filter_filter]
    congr 1
    funext a
    rw [aO_op hx, Bool.and_comm]
  rw [e]
  exact flt_len (List.Pairwise.filter _ List.nodup_range) (List.mem_filter.mpr ⟨List.mem_range.mpr hm, ho⟩)
theorem PB.aO (h : PB σ B) {g : Nat} (hg : g ≤ B + 1) : PB (S_aO σ m (nI g)) (B + 1) := by
  have e28 : ∀ a j, (S_aO σ m (nI g)).1 28 a j = σ.1 28 a j := fun a j => aO_I (by decide) (by decide) (by decide)
  refine ⟨fun a j ha hj => ?_, fun i hi => ?_, ⟨g, hg, aO_g⟩⟩
  · rw [aO_2] at ha
    obtain ⟨q1, q2⟩ := h.1 a j ha hj
    unfold pv at q1 q2 ⊢
    rw [e28]
    exact ⟨q1, by omega⟩
  · obtain ⟨p, q1, q2⟩ := h.2.1 i hi
    exact ⟨p, by omega, by rw [aO_I (by decide) (by decide) (by decide)]; exact q2⟩
theorem PB.mono {C : Nat} (h : PB σ B) (hc : B ≤ C) : PB σ C := ⟨fun a j ha hj => ⟨(h.1 a j ha hj).1, Nat.le_trans (h.1 a j ha hj).2 hc⟩, fun i hi => by obtain ⟨p, q1, q2⟩ := h.2.1 i hi; exact ⟨p, by omega, q2⟩, by obtain ⟨p, q1, q2⟩ := h.2.2; exact ⟨p, by omega, q2⟩⟩
theorem rst_more (W : WF σ) (A : AU σ) (P : PB σ B) (hB : B < 1000000) : ∀ t, t ≤ 1000 → WF (rst σ t) ∧ AU (rst σ t) ∧ (rst σ t).2.2.1 0 = σ.2.2.1 0 ∧ PB (rst σ t) (B + t) ∧ (oc (rst σ t) + t ≤ oc σ ∨ nxt (rst σ t) (σ.2.2.1 0) = none) := by
  intro t
  induction t with
  | zero => intro _; exact ⟨W, A, rfl, P, Or.inl (Nat.le_refl _)⟩
  | succ t ih =>
    intro ht
    obtain ⟨W1, A1, n1, P1, O1⟩ := ih (by omega)
    rw [rst_s]
    cases hx : nxt (rst σ t) (σ.2.2.1 0) with
    | none => exact ⟨W1, A1, n1, P1.mono (by omega), Or.inr hx⟩
    | some m =>
      dsimp only
      obtain ⟨q1, q2⟩ := nxt_ok _ m hx
      have q3 : (rst σ t).1 24 m 0 = -1 := by
        have := q2
        simp [opP] at this
        exact this.2
      have hm : m < (rst σ t).2.2.1 0 := by rw [n1]; exact q1
      obtain ⟨g, g1, g2⟩ := P1.2.2
      rw [g2, n_ad1]
      have hne : nI (g + 1) ≠ -1 := fun q => by rw [n_neg (by omega)] at q; exact q
      refine ⟨W1.aO hm (A1 m hm q3), A1.aO hne, aO_2.trans n1, P1.aO (by omega), ?_⟩
      rcases O1 with q | q
      · have := aO_oc hne hm q2
        left; omega
      · rw [hx] at q; cases q
theorem oc_le : oc σ ≤ σ.2.2.1 0 := by
  unfold oc
  exact Nat.le_trans (List.length_filter_le _ _) (by rw [List.length_range]; exact Nat.le_refl _)
theorem rst_none (W : WF σ) (A : AU σ) (P : PB σ B) (hB : B < 1000000) : nxt (rst σ (σ.2.2.1 0)) (σ.2.2.1 0) = none := by
  have hn := W.n
  obtain ⟨W1, A1, n1, P1, O1⟩ := rst_more W A P hB (σ.2.2.1 0) (by omega)
  rcases O1 with q | q
  · have h1 := oc_le (σ := σ)
    have h0 : oc (rst σ (σ.2.2.1 0)) = 0 := by omega
    cases hx : nxt (rst σ (σ.2.2.1 0)) (σ.2.2.1 0) with
    | none => rfl
    | some m =>
      obtain ⟨q1, q2⟩ := nxt_ok _ m hx
      have hmem : m ∈ (List.range ((rst σ (σ.2.2.1 0)).2.2.1 0)).filter (opP (rst σ (σ.2.2.1 0))) := List.mem_filter.mpr ⟨List.mem_range.mpr (by rw [n1]; exact q1), q2⟩
      have := List.length_pos_of_mem hmem
      unfold oc at h0
      omega
  · exact q
end FL
