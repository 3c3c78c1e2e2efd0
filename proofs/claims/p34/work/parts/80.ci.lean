/-! pure: what holds between calls: proposals and agreement -/
def A5 (σ : Sg) (m0 i0 : Nat) (f : Prop) : Prop := ∀ i, i < 4 → ¬ σ.1 13 i 0 = 0 → ∀ m, m < σ.2.2.1 0 → (f → ¬ (m = m0 ∧ i = i0)) → (σ.1 27 m i = 0 ∨ σ.1 27 m i = 3) → m ∉ σ.2.1 2
def A6 (σ : Sg) (m0 i0 : Nat) (f : Prop) : Prop := ∀ i, i < 4 → ¬ σ.1 13 i 0 = 0 → ∀ m, m < σ.2.2.1 0 → (f → ¬ (m = m0 ∧ i = i0)) → σ.1 25 m 0 = 0 → ¬ σ.1 28 m i = -1 → m ∈ σ.2.1 (3 + i) ∨ m ∈ σ.2.1 (7 + i)
def A4 (σ : Sg) : Prop := ∀ m, m < σ.2.2.1 0 → m ∉ σ.2.1 2 → σ.1 25 m 0 = 0 → ∀ j, j < 4 → σ.1 14 j 0 = 0 → σ.1 28 m j = -1
def PA (σ : Sg) (B : Nat) : Prop := PB σ B ∧ ∃ g, g ≤ B ∧ σ.1 1 0 0 = nI g ∧ AS σ g
/-- what holds between calls; f: the numbers known too; e: but for one copy -/
def CI (f : Prop) (σ : Sg) (B : Nat) (e : Prop) (m0 i0 : Nat) : Prop := CY f σ ∧ (∀ i, i < 4 → ¬ σ.1 13 i 0 = 0 → ¬ σ.1 14 i 0 = 0) ∧ A4 σ ∧ A5 σ m0 i0 e ∧ A6 σ m0 i0 e ∧ PA σ B ∧ (∀ i, i < 4 → ¬ σ.1 13 i 0 = 0 → rdy σ i = false) ∧ fI (alP σ) 4 < 4
section CI1
variable {f e : Prop} {σ τ υ : Sg} {m i j k n a b o k2 o2 j2 t B q p s m0 i0 g z : Nat} {x y : Int32} {l : List Nat}
theorem C1.of {σ' : Sg} (h : C1 σ) (W' : WF σ') (hI : ∀ k, k = 0 ∨ k = 13 ∨ k = 16 ∨ k = 21 ∨ k = 22 ∨ k = 23 ∨ k = 25 ∨ k = 26 ∨ k = 29 → σ'.1 k = σ.1 k) (hL : ∀ k, k ≠ 2 → k ≠ 0 → σ'.2.1 k = σ.2.1 k) (hn : σ'.2.2.1 0 = σ.2.2.1 0) : C1 σ' := by
  obtain ⟨W, N, L, C, A, T, E⟩ := h
  have et : tk σ' = tk σ := by unfold tk; rw [hI 0 (by simp)]
  refine ⟨W', fun a ha => ?_, fun a b ha hb => ?_, C.of (hI 16 (by simp)) (hI 21 (by simp)) (hI 22 (by simp)) (hI 26 (by simp)) (fun b hb => hL _ (by omega) (by omega)) hn W, fun z a ha hra => ?_, fun z a ha => ?_, fun a ha => ?_⟩
  · rw [hn] at ha; rw [hI 23 (by simp), hL 1 (by decide) (by decide)]; exact N a ha
  · rw [hn] at ha; rw [hI 29 (by simp), hL _ (by omega) (by omega)]; exact L a b ha hb
  · rw [et, hI 13 (by simp)] at z
    rw [hn] at ha
    rw [et, hL _ (by omega) (by omega)] at hra
    rw [hI 23 (by simp)]
    exact A z a ha hra
  · rw [et, hI 13 (by simp)] at z
    rw [et, hL _ (by omega) (by omega)] at ha
    rw [hL 1 (by decide) (by decide)]
    exact T z a ha
  · rw [hL 1 (by decide) (by decide)] at ha
    rw [hI 25 (by simp)]
    exact E a ha
theorem CY.of {σ' : Sg} (h : CY f σ) (W' : WF σ') (hI : ∀ k, k = 0 ∨ k = 13 ∨ k = 16 ∨ k = 21 ∨ k = 22 ∨ k = 23 ∨ k = 25 ∨ k = 26 ∨ k = 29 ∨ k = 11 ∨ k = 27 → σ'.1 k = σ.1 k) (hL : ∀ k, k ≠ 2 → k ≠ 0 → σ'.2.1 k = σ.2.1 k) (hn : σ'.2.2.1 0 = σ.2.2.1 0) : CY f σ' := by
  obtain ⟨H1, K, Q, D, X⟩ := h
  have et : tk σ' = tk σ := by unfold tk; rw [hI 0 (by simp)]
  refine ⟨H1.of W' (fun k hk => hI k (by omega)) hL hn, fun zf z => ?_, fun zf b hb z => ?_, fun b hb a ha => ?_, fun b hb z a ha => ?_⟩
  · rw [et, hI 13 (by simp)] at z
    rw [et, hI 11 (by simp), hL 1 (by decide) (by decide)]
    exact K zf z
  · rw [hI 13 (by simp)] at z
    rw [hI 11 (by simp), hL 1 (by decide) (by decide)]
    exact Q zf b hb z
  · rw [hL _ (by omega) (by omega)] at ha ⊢
    exact D b hb a ha
  · rw [hI 13 (by simp)] at z
    rw [hn] at ha
    exact (X b hb z a ha).of (by rw [hI 25 (by simp)]) (by rw [hI 27 (by simp)]) (by rw [hL _ (by omega) (by omega)]) (by rw [hL _ (by omega) (by omega)])
theorem AS.of {σ' : Sg} (h : AS σ g) (h24 : σ'.1 24 = σ.1 24) (hL : σ'.2.1 2 = σ.2.1 2) (hn : σ'.2.2.1 0 = σ.2.2.1 0) : AS σ' g := by
  have e : ∀ a, ag σ' a = ag σ a := fun a => by unfold ag; rw [h24]
  refine ⟨fun a ha => ?_, ?_⟩
  · rw [hn] at ha
    rw [e, h24, hL]
    exact h.1 a ha
  · rw [hL]
    simp only [e]
    exact h.2
theorem AS.aO (h : AS σ g) (W : WF σ) (hz : g < z) (hz2 : z < 2147483648) (hm : m < σ.2.2.1 0) (hn : m ∉ σ.2.1 2) : AS (S_aO σ m (nI z)) z := by
  have e24 : ∀ a, (S_aO σ m (nI z)).1 24 a 0 = if a = m then nI z else σ.1 24 a 0 := fun a => by
    unfold S_aO
    rw [ladd_I (by decide), upI_n (by decide), w_ui1]
    simp
  have eL : (S_aO σ m (nI z)).2.1 2 = σ.2.1 2 ++ [m] := ladd_L1
  have eag : ∀ a, ag (S_aO σ m (nI z)) a = if a = m then z else ag σ a := fun a => by
    unfold ag
    rw [e24]
    by_cases c : a = m
    · rw [if_pos c, if_pos c, if_neg (by rw [n_neg hz2]; exact fun q => q), cl_nI hz2]
    · rw [if_neg c, if_neg c]
  refine ⟨fun a ha => ?_, ?_⟩
  · rw [aO_2] at ha
    obtain ⟨h1, h2, h3⟩ := h.1 a ha
    rw [eag, e24, eL]
    by_cases c : a = m
    · rw [if_pos c, if_pos c]
      exact ⟨(enc_pos (by omega)).symm, Nat.le_refl _, by simp [c]; omega⟩
    · rw [if_neg c, if_neg c]
      exact ⟨h1, by omega, by simp [c, h3]⟩
  · rw [eL, List.pairwise_append]
    refine ⟨?_, List.pairwise_singleton _ _, fun a ha b hb => ?_⟩
    · refine h.2.imp_of_mem (fun {a b} ha hb q => ?_)
      rw [eag, eag, if_neg (fun c : a = m => hn (c ▸ ha)), if_neg (fun c : b = m => hn (c ▸ hb))]
      exact q
    · simp only [List.mem_singleton] at hb
      subst hb
      have h2 := (h.1 a (W.el (by decide) ha)).2.1
      rw [eag, eag, if_neg (fun c : a = b => hn (c ▸ ha)), if_pos rfl]
      omega
theorem AU.ofAS (h : AS σ g) (hg : g < 2147483648) : AU σ := fun m hm hq hl => by
  obtain ⟨h1, h2, h3⟩ := h.1 m hm
  have := h3.mp hl
  rw [h1, enc_neg (by omega)] at hq
  exact this hq
theorem pr_28 : (S_pr σ m i).1 28 a j = (S_p1 σ m i).1 28 a j := by
  unfold S_pr
  split
  · rfl
  · exact aO_I (by decide) (by decide) (by decide)
theorem p1_28 (h : ¬ (a = m ∧ j = i)) : (S_p1 σ m i).1 28 a j = σ.1 28 a j := by
  unfold S_p1
  rw [w_ui1, if_neg (fun q => h q.2), upI_n (by decide)]
theorem PA.pr (h : PA σ B) (W : WF σ) (hB : B + 1 < 2147483648) (hm : m < σ.2.2.1 0) (hi : i < 4) (hn : m ∉ σ.2.1 2) : PA (S_pr σ m i) (B + 2) := by
  obtain ⟨P, g, hg, eg, A⟩ := h
  obtain ⟨P1, z, z0, z1, z2, g', g1, g2⟩ := P.p1 (m := m) hB hi
  have egg : g' = g := by have q := g2.symm.trans eg; rw [n_eq (by omega) (by omega)] at q; exact q
  subst egg
  have A1 : AS (S_p1 σ m i) g' := A.of rfl rfl rfl
  have e1 : (S_p1 σ m i).1 1 0 0 = nI g' := eg
  unfold S_pr
  split
  · exact ⟨P1.mono (by omega), g', by omega, e1, A1⟩
  · have hpv : pv (S_p1 σ m i) m i = z := by rw [p1_pv hi z2 (by omega) z0, if_pos ⟨rfl, rfl⟩]
    have hge := mx_ge (σ := S_p1 σ m i) (m := m) 4 hi
    rw [hpv] at hge
    have hle := mx_le P1 (m := m) hm 4 (Nat.le_refl _)
    rw [gPn_mx P1 (by omega) hm 4 (Nat.le_refl _), enc_pos (by omega)]
    exact ⟨P1.aO (by omega), mx (S_p1 σ m i) m 4, by omega, aO_g, A1.aO W.p1 (by omega) (by omega) hm hn⟩
theorem pr_k (h : k2 ≠ 24) (h1 : k2 ≠ 1) (h2 : k2 ≠ 30) (h3 : k2 ≠ 12) (h4 : k2 ≠ 28) : (S_pr σ m i).1 k2 = σ.1 k2 := by funext o j; exact pr_I h h1 h2 h3 h4
theorem pr_L2 : (S_pr σ m i).2.1 2 = if fI (hP (S_p1 σ m i) m) 4 < 4 then σ.2.1 2 else σ.2.1 2 ++ [m] := by
  unfold S_pr
  split
  · rfl
  · exact ladd_L1
theorem alP_of {σ' : Sg} (h : σ'.1 13 = σ.1 13) : alP σ' = alP σ := by
  funext j
  unfold alP
  rw [h]
theorem CI.e0 (h : CI f σ B False m0 i0) : CI f σ B e m i := ⟨h.1, h.2.1, h.2.2.1, fun b hb z a ha _ => h.2.2.2.1 b hb z a ha (fun q => q.elim), fun b hb z a ha _ => h.2.2.2.2.1 b hb z a ha (fun q => q.elim), h.2.2.2.2.2⟩
/-- a proposal -/
theorem CI.pr (h : CI f σ B False m0 i0) (hB : B + 1 < 2147483648) (hm : m < σ.2.2.1 0) (hi : i < 4) (hal : ¬ σ.1 13 i 0 = 0) (hn : m ∉ σ.2.1 2) : CI f (S_pr σ m i) (B + 2) True m i := by
  obtain ⟨Y, V, q4, q5, q6, P, R, S⟩ := h
  have W := Y.1.1
  have hl2 : ∀ a, a ≠ m → (a ∈ (S_pr σ m i).2.1 2 ↔ a ∈ σ.2.1 2) := fun a ha => by
    rw [pr_L2]
    split
    · exact Iff.rfl
    · simp [ha]
  refine ⟨Y.of (W.pr hm hn) (fun k hk => pr_k (by omega) (by omega) (by omega) (by omega) (by omega)) (fun k hk _ => pr_L hk) pr_n, fun b hb z => ?_, fun a ha hna hd j hj hv => ?_, fun b hb z a ha hne hc => ?_, fun b hb z a ha hne hd hp => ?_, P.pr W hB hm hi hn, fun b hb z => ?_, ?_⟩
  · rw [pr_I (by decide) (by decide) (by decide) (by decide) (by decide)] at z ⊢
    exact V b hb z
  · rw [pr_n] at ha
    rw [pr_I (by decide) (by decide) (by decide) (by decide) (by decide)] at hd hv
    have hji : j ≠ i := fun c => V i hi hal (c ▸ hv)
    rw [pr_28, p1_28 (fun c => hji c.2)]
    by_cases c : a = m
    · subst c; exact q4 a ha hn hd j hj hv
    · exact q4 a ha (fun q => hna ((hl2 a c).mpr q)) hd j hj hv
  · rw [pr_I (by decide) (by decide) (by decide) (by decide) (by decide)] at z hc
    rw [pr_n] at ha
    by_cases c : a = m
    · subst c
      rw [pr_L2]
      split
      · exact hn
      · rename_i hp
        have hbi : b ≠ i := fun q => hne trivial ⟨rfl, q⟩
        exfalso
        have hbv := V b hb z
        have h28 : ¬ σ.1 28 a b = -1 := fun q => hp (fI_iff.mpr ⟨b, hb, by
          unfold hP
          rw [p1_28 (fun q => hbi q.2), q]
          have e14 : (S_p1 σ a i).1 14 b 0 = σ.1 14 b 0 := by unfold S_p1; rw [upI_n (by decide), upI_n (by decide)]
          rw [e14]
          simp [hbv]⟩)
        have hx := Y.2.2.2.2 b hb z a hm
        have hd0 : σ.1 25 a 0 = 0 := by
          rcases hx with q | q | q | q
          · exact q.1
          · exact q.1
          · exact q.1
          · rw [q.2.1] at hc; rcases hc with z | z <;> exact absurd z (by decide)
        have hin := q6 b hb z a hm (fun q => q.elim) hd0 h28
        rcases hx with q | q | q | q
        · rcases hin with r | r
          · exact q.2.2.1 r
          · exact q.2.2.2 r
        · rw [q.2.1] at hc; rcases hc with z | z <;> exact absurd z (by decide)
        · rw [q.2.1] at hc; rcases hc with z | z <;> exact absurd z (by decide)
        · rw [q.2.1] at hc; rcases hc with z | z <;> exact absurd z (by decide)
    · rw [hl2 a c]
      exact q5 b hb z a ha (fun q => q.elim) hc
  · rw [pr_I (by decide) (by decide) (by decide) (by decide) (by decide)] at z hd
    rw [pr_n] at ha
    rw [pr_28, p1_28 (hne trivial)] at hp
    rw [pr_L (by omega), pr_L (by omega)]
    exact q6 b hb z a ha (fun q => q.elim) hd hp
  · rw [pr_I (by decide) (by decide) (by decide) (by decide) (by decide)] at z
    exact rdy_of (pr_k (by decide) (by decide) (by decide) (by decide) (by decide)) (fun j => pr_I (by decide) (by decide) (by decide) (by decide) (by decide)) (pr_k (by decide) (by decide) (by decide) (by decide) (by decide)) (pr_L (by omega)) (R b hb z)
  · rw [alP_of (pr_k (by decide) (by decide) (by decide) (by decide) (by decide))]
    exact S
theorem CI.full (h : CI f σ B e m i) (hin : m ∈ σ.2.1 (3 + i) ∨ m ∈ σ.2.1 (7 + i)) : CI f σ B False m0 i0 := by
  obtain ⟨Y, V, q4, q5, q6, P, R, S⟩ := h
  refine ⟨Y, V, q4, fun b hb z a ha _ hc => ?_, fun b hb z a ha _ hd hp => ?_, P, R, S⟩
  · by_cases c : a = m ∧ b = i
    · obtain ⟨c1, c2⟩ := c
      subst c1
      subst c2
      exfalso
      rcases Y.2.2.2.2 b hb z a ha with q | q | q | q
      · rcases hin with r | r
        · exact q.2.2.1 r
        · exact q.2.2.2 r
      · rw [q.2.1] at hc; rcases hc with z | z <;> exact absurd z (by decide)
      · rw [q.2.1] at hc; rcases hc with z | z <;> exact absurd z (by decide)
      · rw [q.2.1] at hc; rcases hc with z | z <;> exact absurd z (by decide)
    · exact q5 b hb z a ha (fun _ => c) hc
  · by_cases c : a = m ∧ b = i
    · rw [c.1, c.2]; exact hin
    · exact q6 b hb z a ha (fun _ => c) hd hp
theorem PB.of {σ' : Sg} (h : PB σ B) (h28 : σ'.1 28 = σ.1 28) (h12 : σ'.1 12 = σ.1 12) (h1 : σ'.1 1 = σ.1 1) (hn : σ'.2.2.1 0 = σ.2.2.1 0) : PB σ' B := by
  have e : ∀ a j, pv σ' a j = pv σ a j := fun a j => by unfold pv; rw [h28]
  refine ⟨fun a j ha hj => ?_, fun b hb => ?_, ?_⟩
  · rw [hn] at ha
    rw [e, h28]
    exact h.1 a j ha hj
  · rw [h12]; exact h.2.1 b hb
  · rw [h1]; exact h.2.2
theorem PA.of {σ' : Sg} (h : PA σ B) (h28 : σ'.1 28 = σ.1 28) (h12 : σ'.1 12 = σ.1 12) (h1 : σ'.1 1 = σ.1 1) (h24 : σ'.1 24 = σ.1 24) (hL : σ'.2.1 2 = σ.2.1 2) (hn : σ'.2.2.1 0 = σ.2.2.1 0) : PA σ' B := by
  obtain ⟨P, g, hg, eg, A⟩ := h
  exact ⟨P.of h28 h12 h1 hn, g, hg, by rw [h1]; exact eg, A.of h24 hL hn⟩
/-- a copy comes in -/
theorem CI.tI (h : CI f σ B e m i) (hi : i < 4) (hal : ¬ σ.1 13 i 0 = 0) (hm : m < σ.2.2.1 0) (hc : σ.1 27 m i = 0 ∨ σ.1 27 m i = 3) : CI f (S_tI σ m i) B False m0 i0 := by
  obtain ⟨Y, V, q4, q5, q6, P, R, S⟩ := h
  obtain ⟨Y1, ⟨m1, m2, m3, m4, m5⟩, r1, r2, hin⟩ := Y.tI1 hi hal hm hc (R i hi hal)
  have hk : ∀ k, k ≠ 27 → k ≠ 29 → k ≠ 30 → k ≠ 16 → k ≠ 23 → k ≠ 11 → (S_tI σ m i).1 k = σ.1 k := m2
  have h13 : (S_tI σ m i).1 13 = σ.1 13 := hk 13 (by decide) (by decide) (by decide) (by decide) (by decide) (by decide)
  have h14 : (S_tI σ m i).1 14 = σ.1 14 := hk 14 (by decide) (by decide) (by decide) (by decide) (by decide) (by decide)
  have h25 : (S_tI σ m i).1 25 = σ.1 25 := hk 25 (by decide) (by decide) (by decide) (by decide) (by decide) (by decide)
  have h28 : (S_tI σ m i).1 28 = σ.1 28 := hk 28 (by decide) (by decide) (by decide) (by decide) (by decide) (by decide)
  have grow : ∀ b, b < 4 → ∀ a, a ∈ σ.2.1 (3 + b) ∨ a ∈ σ.2.1 (7 + b) → a ∈ (S_tI σ m i).2.1 (3 + b) ∨ a ∈ (S_tI σ m i).2.1 (7 + b) := fun b hb a q => by
    rcases q with q | q
    · exact Or.inl (m4 b hb a q)
    · exact (m5 b hb a q).symm
  refine CI.full (m := m) (i := i) (e := True) ⟨Y1, fun b hb z => ?_, fun a ha hna hd j hj hv => ?_, fun b hb z a ha hne hc2 => ?_, fun b hb z a ha hne hd hp => ?_, P.of h28 (hk 12 (by decide) (by decide) (by decide) (by decide) (by decide) (by decide)) (hk 1 (by decide) (by decide) (by decide) (by decide) (by decide) (by decide)) (hk 24 (by decide) (by decide) (by decide) (by decide) (by decide) (by decide)) m3 m1, fun b hb z => ?_, by rw [alP_of h13]; exact S⟩ hin
  · rw [h13] at z; rw [h14]; exact V b hb z
  · rw [m1] at ha; rw [m3] at hna; rw [h25] at hd; rw [h14] at hv; rw [h28]; exact q4 a ha hna hd j hj hv
  · rw [h13] at z
    rw [m1] at ha
    rw [m3]
    have hx := Y.2.2.2.2 b hb z a ha
    have hx1 := Y1.2.2.2.2 b hb (by rw [h13]; exact z) a (by rw [m1]; exact ha)
    have hno : ¬ (a ∈ (S_tI σ m i).2.1 (3 + b) ∨ a ∈ (S_tI σ m i).2.1 (7 + b)) := by
      rcases hx1 with q | q | q | q
      · exact fun w => w.elim q.2.2.1 q.2.2.2
      · rw [q.2.1] at hc2; rcases hc2 with z | z <;> exact absurd z (by decide)
      · rw [q.2.1] at hc2; rcases hc2 with z | z <;> exact absurd z (by decide)
      · rw [q.2.1] at hc2; rcases hc2 with z | z <;> exact absurd z (by decide)
    have hd0 : σ.1 25 a 0 = 0 := by
      rcases hx1 with q | q | q | q
      · rw [← h25]; exact q.1
      · rw [← h25]; exact q.1
      · rw [← h25]; exact q.1
      · rw [q.2.1] at hc2; rcases hc2 with z | z <;> exact absurd z (by decide)
    rcases hx with q | q | q | q
    · by_cases c : a = m ∧ b = i
      · exact absurd c (hne trivial)
      · by_cases c2 : a = m0 ∧ b = i0
        · exact q5 b hb z a ha (fun _ => c) q.2.1
        · exact q5 b hb z a ha (fun _ => c) q.2.1
    · exact absurd (grow b hb a (Or.inl q.2.2.1)) hno
    · exact absurd (grow b hb a (Or.inr q.2.2.2)) hno
    · rw [q.1] at hd0; exact absurd hd0 (by decide)
  · rw [h13] at z
    rw [m1] at ha
    rw [h25] at hd
    rw [h28] at hp
    exact grow b hb a (q6 b hb z a ha (fun _ => hne trivial) hd hp)
  · rw [h13] at z
    by_cases c : b = i
    · rw [c]; exact r1
    · exact r2 b hb c (R b hb z)
/-- an arrival -/
theorem CI.arrive (h : CI f σ B False m0 i0) (hB : B + 1 < 2147483648) (hm : m < σ.2.2.1 0) (hi : i < 4) (hal : ¬ σ.1 13 i 0 = 0) (hc : σ.1 27 m i = 0) : CI f (S_tI (S_pr σ m i) m i) (B + 2) False m0 i0 := by
  have hn := h.2.2.2.1 i hi hal m hm (fun q => q.elim) (Or.inl hc)
  have h1 := h.pr hB hm hi hal hn
  exact h1.tI hi (by rw [pr_I (by decide) (by decide) (by decide) (by decide) (by decide)]; exact hal) (by rw [pr_n]; exact hm) (Or.inl (by rw [pr_I (by decide) (by decide) (by decide) (by decide) (by decide)]; exact hc))
end CI1
