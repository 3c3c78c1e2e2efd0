/-! pure: what holds between calls: the token, the flush -/
section FC
variable {f e : Prop} {σ τ υ : Sg} {m i j k n a b o k2 o2 j2 t B q p s m0 i0 g z d : Nat} {x y : Int32} {l : List Nat}
theorem gNl_mem : ∀ (l : List Nat) (σ : Sg), WF σ → NB σ → (∀ x ∈ l, x < σ.2.2.1 0) → NB (gNl l σ) ∧ WF (gNl l σ) ∧ (σ.2.1 1).length ≤ ((gNl l σ).2.1 1).length ∧ ∀ a, a ∈ (gNl l σ).2.1 1 ↔ a ∈ l ∨ a ∈ σ.2.1 1 := by
  intro l
  induction l with
  | nil => intro σ W N _; exact ⟨N, W, Nat.le_refl _, fun a => by simp [gNl]⟩
  | cons b l ih =>
    intro σ W N h
    have hb := h b List.mem_cons_self
    obtain ⟨h1, h2, h3, h4⟩ := ih (S_gN σ b) (W.gN hb (N.nu W b hb)) (N.gN W hb) (fun x hx => by rw [gN_n]; exact h x (List.mem_cons_of_mem _ hx))
    refine ⟨h1, h2, Nat.le_trans gN_le h3, fun a => ?_⟩
    have e := h4 a
    rw [gN_mem N W hb] at e
    show a ∈ (gNl l (S_gN σ b)).2.1 1 ↔ _
    rw [e, List.mem_cons]
    constructor
    · rintro (q | q | q)
      · exact Or.inl (Or.inr q)
      · exact Or.inl (Or.inl q)
      · exact Or.inr q
    · rintro ((q | q) | q)
      · exact Or.inr (Or.inl q)
      · exact Or.inl q
      · exact Or.inr (Or.inr q)
theorem gT_tk (hi : i < 4) : tk (S_gT σ i) = i := by
  unfold S_gT S_g1
  rw [tk_u (by decide)]
  unfold tk
  rw [gNl_I (by decide) (by decide), upI_s, cl_nI (a := i) (by omega)]
theorem gT_k (h : k2 ≠ 23) (h1 : k2 ≠ 30) (h2 : k2 ≠ 0) (h3 : k2 ≠ 11) : (S_gT σ i).1 k2 = σ.1 k2 := by funext o j; exact gT_I h h1 h2 h3
theorem gT_11 : (S_gT σ i).1 11 b 0 = if b = i then nI ((S_gT σ i).2.1 1).length else σ.1 11 b 0 := by
  unfold S_gT S_g1
  rw [w_ui1, w_ui2]
  by_cases c : b = i
  · rw [if_pos ⟨rfl, c, rfl⟩, if_pos c]
  · rw [if_neg (fun q => c q.2.1), if_neg c, gNl_I (by decide) (by decide), upI_n (by decide)]
/-- the token goes to one to whom all that is numbered was delivered -/
theorem C1.gT (h : C1 σ) (hi : i < 4) (hL : ∀ a ∈ σ.2.1 1, a ∈ σ.2.1 (3 + i)) (hd : ∀ a ∈ σ.2.1 (3 + i), σ.1 25 a 0 = 0) : C1 (S_gT σ i) ∧ (σ.2.1 1).length ≤ ((S_gT σ i).2.1 1).length ∧ (S_gT σ i).2.2.1 0 = σ.2.2.1 0 := by
  obtain ⟨W, N, L, C, A, T, E⟩ := h
  obtain ⟨g1, g2, g3, g4⟩ := gNl_mem (σ.2.1 (3 + i)) (upI σ 0 0 0 (nI i)) (W.tk' hi) (fun a ha => by rw [upI_n (by decide), w_ui2]; exact N a ha) (fun x hx => W.el (k := 3 + i) (by omega) hx)
  have hn : (S_gT σ i).2.2.1 0 = σ.2.2.1 0 := (W.gT (N.nu W) hi).2.2
  have W1 : WF (S_gT σ i) := (W.gT (N.nu W) hi).1
  have hm : ∀ a, a ∈ (S_gT σ i).2.1 1 ↔ a ∈ σ.2.1 (3 + i) := fun a => (g4 a).trans ⟨fun q => q.elim id (hL a), Or.inl⟩
  have hR : ∀ b, b < 4 → (S_gT σ i).2.1 (3 + b) = σ.2.1 (3 + b) := fun b hb => gT_L (by omega)
  have N1 : NB (S_gT σ i) := fun a ha => by
    have := g1 a (by rw [hn] at ha; rw [(gNl_ok (σ.2.1 (3 + i)) (upI σ 0 0 0 (nI i)) (W.tk' hi) ((N.nu W).of rfl (fun a => upI_n (by decide)) rfl) (fun x hx => W.el (k := 3 + i) (by omega) hx)).2.2]; exact ha)
    unfold S_gT S_g1
    rw [upI_n (by decide), w_ui2]
    exact this
  refine ⟨⟨W1, N1, fun a b ha hb => ?_, C.of (gT_k (by decide) (by decide) (by decide) (by decide)) (gT_k (by decide) (by decide) (by decide) (by decide)) (gT_k (by decide) (by decide) (by decide) (by decide)) (gT_k (by decide) (by decide) (by decide) (by decide)) hR hn W, fun z a ha hra => ?_, fun z a ha => ?_, fun a ha => ?_⟩, g3, hn⟩
  · rw [hn] at ha
    rw [gT_I (by decide) (by decide) (by decide) (by decide), hR b hb]
    exact L a b ha hb
  · rw [gT_tk hi, hR i hi] at hra
    have hl := W1.len (k := 1) (by decide)
    rw [N1 a ha, num_no (fun q => hra ((hm a).mp q))]
  · rw [gT_tk hi, hR i hi] at ha
    exact (hm a).mpr ha
  · rw [gT_I (by decide) (by decide) (by decide) (by decide)]
    exact hd a ((hm a).mp ha)
theorem CI.rcv (h : CI f σ B e m0 i0) (hi : i < 4) (hal : ¬ σ.1 13 i 0 = 0) : ∀ a ∈ σ.2.1 (3 + i), σ.1 25 a 0 = 0 := fun a ha => by
  have hn := h.1.1.1.el (k := 3 + i) (by omega) ha
  rcases h.1.2.2.2.2 i hi hal a hn with q | q | q | q
  · exact q.1
  · exact q.1
  · exact q.1
  · exact absurd ha q.2.2.1
theorem CI.il (h : CI f σ B e m0 i0) : IL σ := ⟨h.1.1.1, h.1.1.2.1.nu h.1.1.1, h.1.2.2.2.1, fun i hi hal a ha hc => by
  rcases h.1.2.2.2.2 i hi hal a ha with q | q | q | q
  · exact ⟨q.2.2.1, q.2.2.2⟩
  · rw [q.2.1] at hc; rcases hc with z | z <;> exact absurd z (by decide)
  · rw [q.2.1] at hc; rcases hc with z | z <;> exact absurd z (by decide)
  · rw [q.2.1] at hc; rcases hc with z | z <;> exact absurd z (by decide)⟩
theorem CI.pd (h : CI f σ B e m0 i0) : PD σ := ⟨h.1.1.1, h.1.1.2.1, h.1.1.2.2.2.1.bl h.1.1.1, fun i hi hal a ha => by
  have hn := h.1.1.1.el (k := 7 + i) (by omega) ha
  rcases h.1.2.2.2.2 i hi hal a hn with q | q | q | q
  · exact absurd ha q.2.2.2
  · exact absurd ha q.2.2.2
  · exact q.2.1
  · exact absurd ha q.2.2.2⟩
theorem CI.passT (h : CI True σ B False m0 i0) (hi : i < 4) (hal : ¬ σ.1 13 i 0 = 0) (hL : ∀ a ∈ σ.2.1 1, a ∈ σ.2.1 (3 + i)) : CI True (S_gT σ i) B False m0 i0 := by
  obtain ⟨c1, c2, hn⟩ := h.1.1.gT hi hL (h.rcv hi hal)
  obtain ⟨⟨H1, K, Q, D, X⟩, V, q4, q5, q6, P, R, S⟩ := h
  have hk : ∀ k, k ≠ 23 → k ≠ 30 → k ≠ 0 → k ≠ 11 → (S_gT σ i).1 k = σ.1 k := fun k h1 h2 h3 h4 => gT_k h1 h2 h3 h4
  have hLs : ∀ k, k ≠ 1 → (S_gT σ i).2.1 k = σ.2.1 k := fun k h1 => gT_L h1
  have h13 := hk 13 (by decide) (by decide) (by decide) (by decide)
  have h25 := hk 25 (by decide) (by decide) (by decide) (by decide)
  have h27 := hk 27 (by decide) (by decide) (by decide) (by decide)
  have h28 := hk 28 (by decide) (by decide) (by decide) (by decide)
  have h14 := hk 14 (by decide) (by decide) (by decide) (by decide)
  refine ⟨⟨c1, fun _ z => ?_, fun _ b hb z => ?_, fun b hb a ha => ?_, fun b hb z a ha => ?_⟩, fun b hb z => ?_, fun a ha hna hd j hj hv => ?_, fun b hb z a ha he hc => ?_, fun b hb z a ha he hd hp => ?_, P.of h28 (hk 12 (by decide) (by decide) (by decide) (by decide)) (hk 1 (by decide) (by decide) (by decide) (by decide)) (hk 24 (by decide) (by decide) (by decide) (by decide)) (hLs 2 (by decide)) hn, fun b hb z => ?_, by rw [alP_of h13]; exact S⟩
  · rw [gT_tk hi, gT_11, if_pos rfl]
  · rw [h13] at z
    rw [gT_11]
    by_cases c : b = i
    · rw [if_pos c]; exact ⟨_, Nat.le_refl _, rfl⟩
    · rw [if_neg c]
      obtain ⟨q, q1, q2⟩ := Q trivial b hb z
      exact ⟨q, Nat.le_trans q1 c2, q2⟩
  · rw [hLs _ (by omega)] at ha ⊢
    exact D b hb a ha
  · rw [h13] at z
    rw [hn] at ha
    exact (X b hb z a ha).of (by rw [h25]) (by rw [h27]) (by rw [hLs _ (by omega)]) (by rw [hLs _ (by omega)])
  · rw [h13] at z; rw [h14]; exact V b hb z
  · rw [hn] at ha; rw [hLs 2 (by decide)] at hna; rw [h25] at hd; rw [h14] at hv; rw [h28]; exact q4 a ha hna hd j hj hv
  · rw [h13] at z; rw [hn] at ha; rw [h27] at hc; rw [hLs 2 (by decide)]; exact q5 b hb z a ha he hc
  · rw [h13] at z; rw [hn] at ha; rw [h25] at hd; rw [h28] at hp; rw [hLs _ (by omega), hLs _ (by omega)]; exact q6 b hb z a ha he hd hp
  · rw [h13] at z
    exact rdy_of (hk 26 (by decide) (by decide) (by decide) (by decide)) (fun j => by rw [hk 16 (by decide) (by decide) (by decide) (by decide)]) (hk 21 (by decide) (by decide) (by decide) (by decide)) (hLs _ (by omega)) (R b hb z)
theorem cv4_11 : ∀ t, (cv4 σ t).1 11 b 0 = if b < t ∧ ¬ σ.1 13 b 0 = 0 then nI (σ.2.1 1).length else σ.1 11 b 0 := by
  intro t
  induction t with
  | zero => rw [if_neg (fun q => Nat.not_lt_zero _ q.1)]; rfl
  | succ t ih =>
    rw [cv4_s]
    by_cases c : σ.1 13 t 0 = 0
    · rw [if_pos c, ih]
      by_cases e : b = t
      · subst e
        rw [if_neg (fun q => q.2 c), if_neg (fun q => q.2 c)]
      · have : (b < t + 1 ∧ ¬ σ.1 13 b 0 = 0) = (b < t ∧ ¬ σ.1 13 b 0 = 0) := by rw [eq_iff_iff]; constructor <;> (rintro ⟨q1, q2⟩; exact ⟨by omega, q2⟩)
        simp only [this]
    · rw [if_neg c, w_ui1, ih]
      by_cases e : b = t
      · subst e
        rw [if_pos ⟨rfl, rfl, rfl⟩, if_pos ⟨by omega, c⟩]
      · rw [if_neg (fun q => e q.2.1)]
        have : (b < t + 1 ∧ ¬ σ.1 13 b 0 = 0) = (b < t ∧ ¬ σ.1 13 b 0 = 0) := by rw [eq_iff_iff]; constructor <;> (rintro ⟨q1, q2⟩; exact ⟨by omega, q2⟩)
        simp only [this]
theorem cv3_I (h : k2 ≠ 23) (h1 : k2 ≠ 30) (h2 : k2 ≠ 0) (h3 : k2 ≠ 11) (h4 : k2 ≠ 14) (h5 : k2 ≠ 2) : (cv3 σ).1 k2 o2 j2 = σ.1 k2 o2 j2 := by
  unfold cv3
  split
  · rw [gT_I h h1 h2 h3, cv2_I h4 h5]
  · exact cv2_I h4 h5
theorem cv3_L (h : k2 ≠ 1) : (cv3 σ).2.1 k2 = σ.2.1 k2 := by
  unfold cv3
  split
  · rw [gT_L h, cv2_2]
  · rw [cv2_2]
theorem cV_I (h : k2 ≠ 23) (h1 : k2 ≠ 30) (h2 : k2 ≠ 0) (h3 : k2 ≠ 11) (h4 : k2 ≠ 14) (h5 : k2 ≠ 2) : (S_cV σ).1 k2 o2 j2 = σ.1 k2 o2 j2 := by
  unfold S_cV
  rw [cv4_I h3, cv3_I h h1 h2 h3 h4 h5]
theorem cV_L (h : k2 ≠ 1) : (S_cV σ).2.1 k2 = σ.2.1 k2 := by
  unfold S_cV
  rw [cv4_2, cv3_L h]
theorem cV_14 (hb : b < 4) : (S_cV σ).1 14 b 0 = σ.1 13 b 0 := by
  unfold S_cV
  rw [cv4_I (by decide)]
  unfold cv3
  split
  · rw [gT_I (by decide) (by decide) (by decide) (by decide)]
    unfold cv2
    rw [upI_n (by decide), cv1_a 4 hb]
  · unfold cv2
    rw [upI_n (by decide), cv1_a 4 hb]
theorem alP_t (h : alP σ j = true) : ¬ σ.1 13 j 0 = 0 := by
  unfold alP at h
  simpa using h
theorem cV_C1 (h : CI False σ B False m0 i0) (hall : ∀ i, i < 4 → ¬ σ.1 13 i 0 = 0 → ∀ m, m < σ.2.2.1 0 → (m ∈ σ.2.1 (3 + i) ↔ σ.1 25 m 0 = 0)) : C1 (S_cV σ) ∧ (S_cV σ).2.2.1 0 = σ.2.2.1 0 := by
  have H1 := h.1.1
  have W := H1.1
  have c2 : C1 (cv2 σ) := H1.of W.cv2 (fun k hk => by funext o j; exact cv2_I (by omega) (by omega)) (fun k _ _ => by rw [cv2_2]) (by rw [cv2_2])
  have c3 : C1 (cv3 σ) ∧ (cv3 σ).2.2.1 0 = σ.2.2.1 0 := by
    unfold cv3
    split
    · have ha := h.2.2.2.2.2.2.2
      have hal : ¬ σ.1 13 (fI (alP σ) 4) 0 = 0 := alP_t (fI_at ha)
      obtain ⟨r1, r2, r3⟩ := c2.gT (i := fI (alP σ) 4) ha (fun a q => by
        rw [cv2_2] at q ⊢
        exact (hall _ ha hal a (W.el (by decide) q)).mpr (H1.2.2.2.2.2.2 a q)) (fun a q => by
        rw [cv2_2] at q
        rw [cv2_I (by decide) (by decide)]
        exact (hall _ ha hal a (W.el (by omega) q)).mp q)
      exact ⟨r1, r3.trans (by rw [cv2_2])⟩
    · exact ⟨c2, by rw [cv2_2]⟩
  unfold S_cV
  exact ⟨c3.1.of (c3.1.1.cv4 4) (fun k hk => by funext o j; exact cv4_I (by omega) 4) (fun k _ _ => by rw [cv4_2]) (by rw [cv4_2]), by rw [cv4_2]; exact c3.2⟩
theorem PA.aO (P : PA σ B) (W : WF σ) (hB : B + 1 < 2147483648) (hm : m < σ.2.2.1 0) (hn : m ∉ σ.2.1 2) : PA (S_aO σ m (σ.1 1 0 0 + 1)) (B + 1) := by
  obtain ⟨P, g, hg, eg, A⟩ := P
  rw [eg, n_ad1]
  exact ⟨P.aO (by omega), g + 1, by omega, aO_g, A.aO W (by omega) (by omega) hm hn⟩
theorem rst_PA (W : WF σ) (P : PA σ B) (hB : B < 1000000) : ∀ t, t ≤ 1000 → PA (rst σ t) (B + t) ∧ (∀ k, k ≠ 24 → k ≠ 1 → k ≠ 30 → (rst σ t).1 k = σ.1 k) ∧ ∀ k, k ≠ 2 → (rst σ t).2.1 k = σ.2.1 k := by
  obtain ⟨P0, g0, hg0, eg0, A0⟩ := P
  have AUs := AU.ofAS A0 (by omega)
  intro t
  induction t with
  | zero => intro _; exact ⟨⟨P0, g0, hg0, eg0, A0⟩, fun _ _ _ _ => rfl, fun _ _ => rfl⟩
  | succ t ih =>
    intro ht
    obtain ⟨p1, p2, p3⟩ := ih (by omega)
    obtain ⟨W1, A1, n1, P1, O1⟩ := rst_more W AUs P0 hB t (by omega)
    rw [rst_s]
    cases hx : nxt (rst σ t) (σ.2.2.1 0) with
    | none =>
      obtain ⟨P, g, hg, eg, A⟩ := p1
      exact ⟨⟨P.mono (by omega), g, by omega, eg, A⟩, p2, p3⟩
    | some m =>
      dsimp only
      obtain ⟨q1, q2⟩ := nxt_ok _ m hx
      have q3 : (rst σ t).1 24 m 0 = -1 := by
        have := q2
        simp [opP] at this
        exact this.2
      have hm : m < (rst σ t).2.2.1 0 := by rw [n1]; exact q1
      refine ⟨p1.aO W1 (by omega) hm (A1 m hm q3), fun k h1 h2 h3 => ?_, fun k h1 => ?_⟩
      · rw [← p2 k h1 h2 h3]
        funext o j
        exact aO_I h1 h2 h3
      · rw [aO_L h1, p3 k h1]
theorem nxt_no : ∀ t, nxt σ t = none → ∀ j, j < t → opP σ j = false := by
  intro t
  induction t with
  | zero => intro _ j hj; exact absurd hj (Nat.not_lt_zero _)
  | succ t ih =>
    intro h j hj
    rw [nxt_s] at h
    cases hx : nxt σ t with
    | none =>
      rw [hx] at h
      dsimp only at h
      by_cases c : opP σ t = true
      · rw [if_pos c] at h; cases h
      · by_cases e : j = t
        · rw [e]; simpa using c
        · exact ih hx j (by omega)
    | some a =>
      rw [hx] at h
      dsimp only at h
      split at h <;> cases h
/-- a flush -/
theorem CI.fl (h : CI f σ B False m0 i0) (hB : B < 1000000) : (WF (fl3 σ) ∧ AU (fl3 σ) ∧ PB (fl3 σ) B ∧ PA (fl3 σ) B) ∧ CI True (S_fl σ) (B + 48) False m0 i0 := by
  obtain ⟨I1, I2, n2, h13, hall⟩ := fl2_ci h
  obtain ⟨c3, n3⟩ := cV_C1 I2 hall
  have c3' : C1 (fl3 σ) := c3
  have n3' : (fl3 σ).2.2.1 0 = (fl2 σ).2.2.1 0 := n3
  have W3 := c3'.1
  have I2' := I2
  obtain ⟨⟨H1, K, Q, D, X⟩, V, q4, q5, q6, P, R, S⟩ := I2'
  have k3 : ∀ k, k ≠ 23 → k ≠ 30 → k ≠ 0 → k ≠ 11 → k ≠ 14 → k ≠ 2 → (fl3 σ).1 k = (fl2 σ).1 k := fun k h1 h2 h3 h4 h5 h6 => by funext o j; exact cV_I h1 h2 h3 h4 h5 h6
  have L3 : ∀ k, k ≠ 1 → (fl3 σ).2.1 k = (fl2 σ).2.1 k := fun k h1 => cV_L h1
  have P3 : PA (fl3 σ) B := P.of (k3 28 (by decide) (by decide) (by decide) (by decide) (by decide) (by decide)) (k3 12 (by decide) (by decide) (by decide) (by decide) (by decide) (by decide)) (k3 1 (by decide) (by decide) (by decide) (by decide) (by decide) (by decide)) (k3 24 (by decide) (by decide) (by decide) (by decide) (by decide) (by decide)) (L3 2 (by decide)) n3'
  have A3 : AU (fl3 σ) := by
    obtain ⟨_, g, hg, eg, A⟩ := P3
    exact AU.ofAS A (by omega)
  refine ⟨⟨W3, A3, P3.1, P3⟩, ?_⟩
  have hn48 := W3.n
  obtain ⟨P4, k4, L4⟩ := rst_PA W3 P3 hB ((fl3 σ).2.2.1 0) (by omega)
  obtain ⟨W4, A4h, n4, _, _⟩ := rst_more W3 A3 P3.1 hB ((fl3 σ).2.2.1 0) (by omega)
  have hnone := rst_none W3 A3 P3.1 hB
  have P4' : PA (S_fl σ) (B + (fl3 σ).2.2.1 0) := P4
  have k4' : ∀ k, k ≠ 24 → k ≠ 1 → k ≠ 30 → (S_fl σ).1 k = (fl3 σ).1 k := k4
  have L4' : ∀ k, k ≠ 2 → (S_fl σ).2.1 k = (fl3 σ).2.1 k := L4
  have W4' : WF (S_fl σ) := W4
  have n4' : (S_fl σ).2.2.1 0 = (fl3 σ).2.2.1 0 := n4
  have hnone' : nxt (S_fl σ) ((fl3 σ).2.2.1 0) = none := hnone
  have e13 : (S_fl σ).1 13 = (fl2 σ).1 13 := (k4' 13 (by decide) (by decide) (by decide)).trans (k3 13 (by decide) (by decide) (by decide) (by decide) (by decide) (by decide))
  have e25 : (S_fl σ).1 25 = (fl2 σ).1 25 := (k4' 25 (by decide) (by decide) (by decide)).trans (k3 25 (by decide) (by decide) (by decide) (by decide) (by decide) (by decide))
  have e27 : (S_fl σ).1 27 = (fl2 σ).1 27 := (k4' 27 (by decide) (by decide) (by decide)).trans (k3 27 (by decide) (by decide) (by decide) (by decide) (by decide) (by decide))
  have eL : ∀ k, k ≠ 1 → k ≠ 2 → (S_fl σ).2.1 k = (fl2 σ).2.1 k := fun k h1 h2 => (L4' k h2).trans (L3 k h1)
  have en : (S_fl σ).2.2.1 0 = (fl2 σ).2.2.1 0 := n4'.trans n3'
  have e14 : ∀ b, b < 4 → (S_fl σ).1 14 b 0 = (fl2 σ).1 13 b 0 := fun b hb => by
    rw [k4' 14 (by decide) (by decide) (by decide)]
    exact cV_14 hb
  have e11 : ∀ b, b < 4 → ¬ (fl2 σ).1 13 b 0 = 0 → (S_fl σ).1 11 b 0 = nI ((S_fl σ).2.1 1).length := fun b hb z => by
    rw [k4' 11 (by decide) (by decide) (by decide), L4' 1 (by decide)]
    show (cv4 (cv3 (fl2 σ)) 4).1 11 b 0 = nI ((cv4 (cv3 (fl2 σ)) 4).2.1 1).length
    rw [cv4_11, cv4_2, if_pos ⟨hb, by rw [cv3_I (by decide) (by decide) (by decide) (by decide) (by decide) (by decide)]; exact z⟩]
  refine ⟨⟨c3'.of W4' (fun k hk => k4' k (by omega) (by omega) (by omega)) (fun k h1 _ => L4' k h1) n4', fun _ z => ?_, fun _ b hb z => ?_, fun b hb a ha => ?_, fun b hb z a ha => ?_⟩, fun b hb z => ?_, fun a ha hna hd j hj hv => ?_, fun b hb z a ha _ hc => ?_, fun b hb z a ha _ hd hp => ?_, ?_, fun b hb z => ?_, by rw [alP_of e13]; exact S⟩
  · rw [e13] at z
    exact e11 _ W4'.tk4 z
  · rw [e13] at z
    exact ⟨_, Nat.le_refl _, e11 b hb z⟩
  · rw [eL _ (by omega) (by omega)] at ha ⊢
    exact D b hb a ha
  · rw [e13] at z
    rw [en] at ha
    exact (X b hb z a ha).of (by rw [e25]) (by rw [e27]) (by rw [eL _ (by omega) (by omega)]) (by rw [eL _ (by omega) (by omega)])
  · rw [e13] at z
    rw [e14 b hb]
    exact z
  · exfalso
    rw [n4'] at ha
    have hop := nxt_no _ hnone' a ha
    obtain ⟨_, g, hg, eg, A⟩ := P4'
    obtain ⟨h1, h2, h3⟩ := A.1 a (by rw [n4']; exact ha)
    have h0 : ag (S_fl σ) a = 0 := by
      by_cases c : ag (S_fl σ) a = 0
      · exact c
      · exact absurd (h3.mpr c) hna
    rw [h0] at h1
    unfold opP at hop
    rw [h1, hd] at hop
    revert hop
    decide
  · exfalso
    rw [e13] at z
    rw [en] at ha
    rw [e27] at hc
    rcases X b hb z a ha with q | q | q | q
    · exact q.2.2.1 ((hall b hb z a ha).mpr q.1)
    · rw [q.2.1] at hc; rcases hc with z | z <;> exact absurd z (by decide)
    · rw [q.2.1] at hc; rcases hc with z | z <;> exact absurd z (by decide)
    · rw [q.2.1] at hc; rcases hc with z | z <;> exact absurd z (by decide)
  · rw [e13] at z
    rw [en] at ha
    rw [e25] at hd
    rw [eL _ (by omega) (by omega)]
    exact Or.inl ((hall b hb z a ha).mpr hd)
  · obtain ⟨P, g, hg, eg, A⟩ := P4'
    exact ⟨P.mono (by omega), g, by omega, eg, A⟩
  · rw [e13] at z
    exact rdy_of ((k4' 26 (by decide) (by decide) (by decide)).trans (k3 26 (by decide) (by decide) (by decide) (by decide) (by decide) (by decide))) (fun j => by rw [k4' 16 (by decide) (by decide) (by decide), k3 16 (by decide) (by decide) (by decide) (by decide) (by decide) (by decide)]) ((k4' 21 (by decide) (by decide) (by decide)).trans (k3 21 (by decide) (by decide) (by decide) (by decide) (by decide) (by decide))) (eL _ (by omega) (by omega)) (R b hb z)
end FC
