/-! pure: what holds between calls: deliveries keep it -/
def N2 (σ : Sg) : Prop := ¬ σ.1 13 (tk σ) 0 = 0 → ∀ a ∈ σ.2.1 (3 + tk σ), a ∈ σ.2.1 1
def D1 (σ : Sg) : Prop := ∀ a ∈ σ.2.1 1, σ.1 25 a 0 = 0
/-- what no queue and no copy has to do with -/
def C1 (σ : Sg) : Prop := WF σ ∧ NB σ ∧ PL σ ∧ CA σ ∧ HA σ ∧ N2 σ ∧ D1 σ
section IV
variable {σ τ υ : Sg} {m i j k n a b o k2 o2 j2 t B q p s : Nat} {x y : Int32} {l : List Nat}
theorem idx_app (h : a ∈ l) : (l ++ [m]).idxOf a = l.idxOf a := by
  rw [List.idxOf_append, if_pos h]
theorem idx_last (h : m ∉ l) : (l ++ [m]).idxOf m = l.length := by
  rw [List.idxOf_append, if_neg h, List.idxOf_cons_self]
  omega
theorem num_app (h : m ∉ l) : num (l ++ [m]) a = if a = m then nI l.length else num l a := by
  by_cases c : a = m
  · subst c
    rw [if_pos rfl, num_in (by simp), idx_last h]
  · rw [if_neg c]
    by_cases d : a ∈ l
    · rw [num_in (List.mem_append_left _ d), num_in d, idx_app d]
    · rw [num_no d, num_no]
      intro q
      rcases List.mem_append.mp q with q | q
      · exact d q
      · simp only [List.mem_singleton] at q
        exact c q
theorem NB.gN (N : NB σ) (W : WF σ) (hm : m < σ.2.2.1 0) : NB (S_gN σ m) := by
  intro a ha
  rw [gN_n] at ha
  have hl := W.len (k := 1) (by decide)
  unfold S_gN
  by_cases c : σ.1 23 m 0 = -1
  · have hm1 : m ∉ σ.2.1 1 := by
      have := N m hm
      rw [c] at this
      have e := num_neg (a := m) (l := σ.2.1 1) (by omega)
      rw [← this] at e
      simpa using e
    rw [if_pos c, ladd_I (by decide), ladd_L1, w_ui1, w_ui2, num_app hm1]
    by_cases d : a = m
    · rw [if_pos ⟨rfl, d, rfl⟩, if_pos d]
    · rw [if_neg (fun q => d q.2.1), if_neg d]
      exact N a ha
  · rw [if_neg c]
    exact N a ha
theorem d1_C16 : (S_d1 σ m i).1 16 o2 j2 = if o2 = i ∧ j2 = sdr σ m then σ.1 16 i (sdr σ m) + 1 else σ.1 16 o2 j2 := by
  unfold S_d1
  rw [w_ui1, ladd_I (by decide), upI_n (by decide), upI_n (by decide)]
  simp
theorem d1_C29 : (S_d1 σ m i).1 29 o2 j2 = if o2 = m ∧ j2 = i then nI (σ.2.1 (3 + i)).length else σ.1 29 o2 j2 := by
  unfold S_d1
  rw [upI_n (by decide), ladd_I (by decide), w_ui1, upI_n (by decide)]
  simp
theorem sdr_d1 : sdr (S_d1 σ m i) a = sdr σ a := by unfold sdr; rw [d1_I (by decide) (by decide) (by decide) (by decide)]
theorem tk_d1 : tk (S_d1 σ m i) = tk σ := by unfold tk; rw [d1_I (by decide) (by decide) (by decide) (by decide)]
theorem PL.d1 (L : PL σ) (hi : i < 4) (hr : m ∉ σ.2.1 (3 + i)) : PL (S_d1 σ m i) := by
  intro a b ha hb
  rw [d1_n] at ha
  rw [d1_C29]
  by_cases c : b = i
  · subst c
    rw [d1_L1, num_app hr]
    by_cases d : a = m
    · rw [if_pos ⟨d, rfl⟩, if_pos d]
    · rw [if_neg (fun q => d q.1), if_neg d]
      exact L a b ha hb
  · rw [if_neg (fun q => c q.2), d1_L (by omega)]
    exact L a b ha hb
theorem NB.d1 (N : NB σ) (hi : i < 4) : NB (S_d1 σ m i) := fun a ha => by
  rw [d1_n] at ha
  rw [d1_I (by decide) (by decide) (by decide) (by decide), d1_L (by omega)]
  exact N a ha
theorem CA.d1 (C : CA σ) (W : WF σ) (hm : m < σ.2.2.1 0) (hi : i < 4) (hr : m ∉ σ.2.1 (3 + i)) (hsq : sq σ m = cnt σ (σ.2.1 (3 + i)) (sdr σ m) + 1) (hcc : ∀ k, k < 4 → k ≠ sdr σ m → stN σ m k ≤ cnt σ (σ.2.1 (3 + i)) k) : CA (S_d1 σ m i) := by
  have h4 := W.sn4 hm
  have es : ∀ a, sdr (S_d1 σ m i) a = sdr σ a := fun a => sdr_d1
  have ec : ∀ l k, cnt (S_d1 σ m i) l k = cnt σ l k := fun l k => by
    unfold cnt
    congr 1
    congr 1
    funext a
    rw [es]
  have eh : ∀ a, hst (S_d1 σ m i) a = hst σ a := fun a => by unfold hst; rw [d1_I (by decide) (by decide) (by decide) (by decide)]
  have eq : ∀ a, sq (S_d1 σ m i) a = sq σ a := fun a => by unfold sq; rw [ec, es]
  have etk : ∀ b, b < 4 → ∀ p, p ≤ (σ.2.1 (3 + b)).length → ((S_d1 σ m i).2.1 (3 + b)).take p = (σ.2.1 (3 + b)).take p := fun b hb p hp => by
    by_cases c : b = i
    · subst c
      rw [d1_L1, List.take_append_of_le_length hp]
    · rw [d1_L (by omega)]
  have egt : ∀ b, b < 4 → ∀ p, p < (σ.2.1 (3 + b)).length → ((S_d1 σ m i).2.1 (3 + b)).getD p 0 = (σ.2.1 (3 + b)).getD p 0 := fun b hb p hp => by
    by_cases c : b = i
    · subst c
      rw [d1_L1, getD_app, if_pos hp]
    · rw [d1_L (by omega)]
  have est : ∀ a, a < σ.2.2.1 0 → ∀ k, stN (S_d1 σ m i) a k = stN σ a k := fun a ha k => by
    obtain ⟨h1, h2, h3, h5, h6⟩ := C.2.2.1 a ha
    unfold stN
    rw [ec, eh, es, etk _ (W.sn4 ha) _ (by omega)]
  refine ⟨fun b k hb hk => ?_, fun b p hb hp => ?_, fun a ha => ?_, fun b a k hb ha hk => ?_⟩
  · rw [d1_C16, ec]
    by_cases c : b = i
    · subst c
      rw [d1_L1, cnt_app]
      by_cases d : k = sdr σ m
      · rw [if_pos ⟨rfl, d⟩, if_pos d.symm, C.1 b _ hb h4, n_ad1, d]
      · rw [if_neg (fun q => d q.2), if_neg (fun q => d q.symm)]
        exact C.1 b k hb hk
    · rw [if_neg (fun q => c q.1), d1_L (by omega)]
      exact C.1 b k hb hk
  · rw [eq, ec, es]
    by_cases c : b = i
    · subst c
      rw [d1_L1, List.length_append, List.length_singleton] at hp
      by_cases d : p < (σ.2.1 (3 + b)).length
      · rw [egt b hb p d, etk b hb p (by omega)]
        exact C.2.1 b p hb d
      · have ep : p = (σ.2.1 (3 + b)).length := by omega
        subst ep
        rw [d1_L1, getD_app, if_neg (Nat.lt_irrefl _), if_pos rfl, List.take_append_of_le_length (Nat.le_refl _), List.take_length]
        exact hsq
    · rw [d1_L (by omega)] at hp ⊢
      exact C.2.1 b p hb hp
  · rw [d1_n] at ha
    obtain ⟨h1, h2, h3, h5, h6⟩ := C.2.2.1 a ha
    rw [eh, es]
    refine ⟨by rw [d1_I (by decide) (by decide) (by decide) (by decide)]; exact h1, ?_, by rw [egt _ (W.sn4 ha) _ h2]; exact h3, fun k hk => by rw [d1_I (by decide) (by decide) (by decide) (by decide), est a ha]; exact h5 k hk, by rw [etk _ (W.sn4 ha) _ (by omega)]; exact h6⟩
    by_cases c : sdr σ a = i
    · rw [c, d1_L1, List.length_append]; rw [c] at h2; omega
    · rw [d1_L (by omega)]; exact h2
  · have hmono : cnt σ (σ.2.1 (3 + b)) k ≤ cnt (S_d1 σ m i) ((S_d1 σ m i).2.1 (3 + b)) k := by
      rw [ec]
      by_cases c : b = i
      · subst c; rw [d1_L1, cnt_app]; omega
      · rw [d1_L (by omega)]; exact Nat.le_refl _
    by_cases c : b = i
    · subst c
      rw [d1_L1] at ha
      rcases List.mem_append.mp ha with q | q
      · rw [est a (W.el (by omega) q)]
        exact Nat.le_trans (C.2.2.2 b a k hb q hk) hmono
      · simp only [List.mem_singleton] at q
        subst q
        rw [est a hm]
        by_cases d : k = sdr σ a
        · rw [d, C.sq_st W hm, hsq, ec, d1_L1, cnt_app, if_pos rfl]
          exact Nat.le_refl _
        · exact Nat.le_trans (hcc k hk d) hmono
    · rw [d1_L (by omega)] at ha
      rw [est a (W.el (by omega) ha)]
      exact Nat.le_trans (C.2.2.2 b a k hb ha hk) hmono
theorem dl_eq : S_dl σ m i = (if i = tk σ then upI (S_gN (S_d1 σ m i) m) 11 i 0 (nI ((S_gN (S_d1 σ m i) m).2.1 1).length) else S_d1 σ m i) := rfl
theorem gN_23m (h : ¬ σ.1 23 m 0 = -1) : S_gN σ m = σ := if_neg h
theorem gN_mem (N : NB σ) (W : WF σ) (hm : m < σ.2.2.1 0) : a ∈ (S_gN σ m).2.1 1 ↔ a = m ∨ a ∈ σ.2.1 1 := by
  have hl := W.len (k := 1) (by decide)
  unfold S_gN
  by_cases c : σ.1 23 m 0 = -1
  · rw [if_pos c, ladd_L1, List.mem_append, w_ui2]
    simp only [List.mem_singleton]
    exact Or.comm
  · rw [if_neg c]
    have : m ∈ σ.2.1 1 := by
      have e := N m hm
      have e2 := num_neg (a := m) (l := σ.2.1 1) (by omega)
      rw [← e] at e2
      by_cases d : m ∈ σ.2.1 1
      · exact d
      · exact absurd (e2.mpr d) c
    constructor
    · exact Or.inr
    · rintro (q | q)
      · rw [q]; exact this
      · exact q
/-- a delivery -/
theorem C1.dl (h : C1 σ) (hm : m < σ.2.2.1 0) (hi : i < 4) (hr : m ∉ σ.2.1 (3 + i)) (hd : σ.1 25 m 0 = 0) (hsq : sq σ m = cnt σ (σ.2.1 (3 + i)) (sdr σ m) + 1) (hcc : ∀ k, k < 4 → k ≠ sdr σ m → stN σ m k ≤ cnt σ (σ.2.1 (3 + i)) k) : C1 (S_dl σ m i) := by
  obtain ⟨W, N, L, C, A, T, D⟩ := h
  have W1 := W.d1 hm hi hr
  have N1 : NB (S_d1 σ m i) := N.d1 hi
  have L1 := L.d1 hi hr
  have CA1 := C.d1 W hm hi hr hsq hcc
  have hm1 : m < (S_d1 σ m i).2.2.1 0 := by rw [d1_n]; exact hm
  have W2 : WF (S_dl σ m i) := W.dl hm hi hr (fun _ => N.nu W m hm)
  have t4 := W.tk4
  have al : ∀ b, (S_dl σ m i).1 13 b 0 = σ.1 13 b 0 := fun b => dl_I (by decide) (by decide) (by decide) (by decide) (by decide) (by decide)
  by_cases e : i = tk σ
  · have e2 : S_dl σ m i = upI (S_gN (S_d1 σ m i) m) 11 i 0 (nI ((S_gN (S_d1 σ m i) m).2.1 1).length) := by rw [dl_eq, if_pos e]
    have N2' : NB (S_gN (S_d1 σ m i) m) := N1.gN W1 hm1
    have hmem : ∀ a, a ∈ (S_dl σ m i).2.1 1 ↔ a = m ∨ a ∈ σ.2.1 1 := fun a => by
      rw [e2, w_ui2, gN_mem N1 W1 hm1, d1_L (by omega)]
    refine ⟨W2, ?_, ?_, ?_, ?_, ?_, ?_⟩
    · rw [e2]
      intro a ha
      rw [upI_n (by decide), w_ui2]
      exact N2' a ha
    · rw [e2]
      intro a b ha hb
      rw [upI_n (by decide), w_ui2, gN_I (by decide) (by decide), gN_L (by omega)]
      rw [w_ui2, gN_n] at ha
      exact L1 a b ha hb
    · rw [e2]
      refine CA1.of ?_ ?_ ?_ ?_ (fun b hb => ?_) ?_ W1
      · rw [upI_k (by decide)]; funext o j; exact gN_I (by decide) (by decide)
      · rw [upI_k (by decide)]; funext o j; exact gN_I (by decide) (by decide)
      · rw [upI_k (by decide)]; funext o j; exact gN_I (by decide) (by decide)
      · rw [upI_k (by decide)]; funext o j; exact gN_I (by decide) (by decide)
      · rw [w_ui2, gN_L (by omega)]
      · rw [w_ui2, gN_n]
    · intro hq a ha hra
      rw [tk_dl] at hq hra
      rw [al] at hq
      rw [dl_n] at ha
      subst e
      rw [dl_L1] at hra
      have hne : a ≠ m := fun q => hra (by rw [q]; simp)
      rw [dl_23 hne]
      exact A hq a ha (fun q => hra (List.mem_append_left _ q))
    · intro hq a ha
      rw [tk_dl] at hq ha
      rw [al] at hq
      subst e
      rw [dl_L1] at ha
      rw [hmem]
      rcases List.mem_append.mp ha with q | q
      · exact Or.inr (T hq a q)
      · simp only [List.mem_singleton] at q
        exact Or.inl q
    · intro a ha
      rw [hmem] at ha
      rw [dl_I (by decide) (by decide) (by decide) (by decide) (by decide) (by decide)]
      rcases ha with q | q
      · rw [q]; exact hd
      · exact D a q
  · have e2 : S_dl σ m i = S_d1 σ m i := by rw [dl_eq, if_neg e]
    have eR : (S_d1 σ m i).2.1 (3 + tk σ) = σ.2.1 (3 + tk σ) := d1_L (by omega)
    have e1 : (S_d1 σ m i).2.1 1 = σ.2.1 1 := d1_L (by omega)
    have i23 : ∀ a, (S_d1 σ m i).1 23 a 0 = σ.1 23 a 0 := fun a => d1_I (by decide) (by decide) (by decide) (by decide)
    have i13 : ∀ a, (S_d1 σ m i).1 13 a 0 = σ.1 13 a 0 := fun a => d1_I (by decide) (by decide) (by decide) (by decide)
    have i25 : ∀ a, (S_d1 σ m i).1 25 a 0 = σ.1 25 a 0 := fun a => d1_I (by decide) (by decide) (by decide) (by decide)
    rw [e2]
    refine ⟨W1, N1, L1, CA1, ?_, ?_, ?_⟩
    · intro hq a ha hra
      rw [tk_d1] at hq hra
      rw [i13] at hq
      rw [eR] at hra
      rw [d1_n] at ha
      rw [i23]
      exact A hq a ha hra
    · intro hq a ha
      rw [tk_d1] at hq ha
      rw [i13] at hq
      rw [eR] at ha
      rw [e1]
      exact T hq a ha
    · intro a ha
      rw [e1] at ha
      rw [i25]
      exact D a ha
theorem C1.rem (h : C1 σ) (hi : i < 4) : C1 (lrem σ (7 + i) j) := by
  obtain ⟨W, N, L, C, A, T, D⟩ := h
  have t4 := W.tk4
  refine ⟨W.rem (by omega), fun a ha => ?_, fun a b ha hb => ?_, ?_, fun hq a ha hra => ?_, fun hq a ha => ?_, fun a ha => ?_⟩
  · rw [lrem_I (by decide), lrem_Ln (by omega)]; exact N a ha
  · rw [lrem_I (by decide), lrem_Ln (by omega)]; exact L a b ha hb
  · exact C.of (lrem_k (by decide)) (lrem_k (by decide)) (lrem_k (by decide)) (lrem_k (by decide)) (fun b hb => lrem_Ln (by omega)) rfl W
  · rw [tk_r] at hq hra
    rw [lrem_I (by decide)] at hq
    rw [lrem_Ln (by omega)] at hra
    rw [lrem_I (by decide)]
    exact A hq a ha hra
  · rw [tk_r] at hq ha
    rw [lrem_I (by decide)] at hq
    rw [lrem_Ln (by omega)] at ha
    rw [lrem_Ln (by omega)]
    exact T hq a ha
  · rw [lrem_Ln (by omega)] at ha
    rw [lrem_I (by decide)]
    exact D a ha
end IV
