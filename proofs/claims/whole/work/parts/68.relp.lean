/-! pure: pairs of writes, of the class and of the reference (laid by wip/whole/gen/rel.py) -/
section RP
variable {σ τ υ : Sg} {m i j k n a b o k2 o2 j2 t : Nat} {x y : Int32} {f : Nat → Int32} {l : List Nat}
theorem upI_k (h : k2 ≠ k) : (upI σ k o j x).1 k2 = σ.1 k2 := by funext a b; exact upI_n h
theorem upI_o (h : ¬ (o2 = o ∧ j2 = j)) : (upI σ k o j x).1 k o2 j2 = σ.1 k o2 j2 := if_neg (fun q => h q.2)
theorem ladd_k (h : k2 ≠ 30) : (ladd σ k m).1 k2 = σ.1 k2 := by funext a b; exact ladd_I h
theorem lrem_k (h : k2 ≠ 30) : (lrem σ k j).1 k2 = σ.1 k2 := by funext a b; exact lrem_I h
theorem tO_k (h : k2 ≠ 30) : (S_tO σ k m).1 k2 = σ.1 k2 := by funext a b; exact tO_I h
theorem tk_tO : tk (S_tO σ k m) = tk σ := by unfold tk; rw [tO_I (by decide)]
theorem fil_k (h : k2 ≠ k) : (fil σ k o n f).1 k2 = σ.1 k2 := by funext a b; exact fil_I h
theorem getD_app {l : List Nat} {j : Nat} : (l ++ [m]).getD j 0 = if j < l.length then l.getD j 0 else if j = l.length then m else 0 := by
  rw [List.getD_eq_getElem?_getD, List.getD_eq_getElem?_getD]
  by_cases h1 : j < l.length
  · rw [if_pos h1, List.getElem?_append_left h1]
  · rw [if_neg h1]
    by_cases h2 : j = l.length
    · rw [if_pos h2, h2, List.getElem?_append_right (Nat.le_refl _), Nat.sub_self]
      rfl
    · rw [if_neg h2, List.getElem?_append_right (by omega)]
      have : ([m] : List Nat)[j - l.length]? = none := by
        rw [List.getElem?_eq_none]
        simp
        omega
      rw [this]
      rfl
theorem Rel.wCpy (h : Rel σ τ) (hm : m < σ.2.2.1 0) (hi : i < 4) : Rel (upI σ 27 m i x) (upI τ 51 0 (4 * m + i) x) := by
  obtain ⟨h1, h2, h3, h4, h5, h6, h7, h8, h9, h10, h11, h12, h13, h14, h15, h16, h17, h18, h19, h20, h21, h22⟩ := h
  unfold Rel
  simp (disch := omega) only [upI_k, w_ui2, w_ul3, ladd_k, ladd_Ln, ladd_n, lrem_k, lrem_Ln, lrem_N, tk_u, tk_a, tk_r, tO_k, tO_2, tO_Ln, tk_tO, fil_k, fil_2, tk_f]
  exact ⟨h1, (fun a b ha hb => by
    by_cases e : a = m ∧ b = i
    · obtain ⟨rfl, rfl⟩ := e; rw [upI_s, upI_s]
    · rw [upI_o (by omega), upI_o (by omega)]; exact h2 a b ha hb), h3, h4, h5, h6, h7, h8, h9, h10, h11, h12, h13, h14, h15, h16, h17, h18, h19, h20, h21, h22⟩
theorem Rel.wPro (h : Rel σ τ) (hm : m < σ.2.2.1 0) (hi : i < 4) : Rel (upI σ 28 m i x) (upI τ 53 0 (4 * m + i) x) := by
  obtain ⟨h1, h2, h3, h4, h5, h6, h7, h8, h9, h10, h11, h12, h13, h14, h15, h16, h17, h18, h19, h20, h21, h22⟩ := h
  unfold Rel
  simp (disch := omega) only [upI_k, w_ui2, w_ul3, ladd_k, ladd_Ln, ladd_n, lrem_k, lrem_Ln, lrem_N, tk_u, tk_a, tk_r, tO_k, tO_2, tO_Ln, tk_tO, fil_k, fil_2, tk_f]
  exact ⟨h1, h2, h3, (fun a b ha hb => by
    by_cases e : a = m ∧ b = i
    · obtain ⟨rfl, rfl⟩ := e; rw [upI_s, upI_s]
    · rw [upI_o (by omega), upI_o (by omega)]; exact h4 a b ha hb), h5, h6, h7, h8, h9, h10, h11, h12, h13, h14, h15, h16, h17, h18, h19, h20, h21, h22⟩
theorem Rel.wClk (h : Rel σ τ) (hi : i < 4) (hj : j < 4) : Rel (upI σ 16 i j x) (upI τ 59 0 (4 * i + j) x) := by
  obtain ⟨h1, h2, h3, h4, h5, h6, h7, h8, h9, h10, h11, h12, h13, h14, h15, h16, h17, h18, h19, h20, h21, h22⟩ := h
  unfold Rel
  simp (disch := omega) only [upI_k, w_ui2, w_ul3, ladd_k, ladd_Ln, ladd_n, lrem_k, lrem_Ln, lrem_N, tk_u, tk_a, tk_r, tO_k, tO_2, tO_Ln, tk_tO, fil_k, fil_2, tk_f]
  exact ⟨h1, h2, h3, h4, h5, h6, h7, h8, h9, (fun a b ha hb => by
    by_cases e : a = i ∧ b = j
    · obtain ⟨rfl, rfl⟩ := e; rw [upI_s, upI_s]
    · rw [upI_o (by omega), upI_o (by omega)]; exact h10 a b ha hb), h11, h12, h13, h14, h15, h16, h17, h18, h19, h20, h21, h22⟩
theorem Rel.wDrp (h : Rel σ τ)  : Rel (upI σ 25 m 0 x) (upI τ 54 0 m x) := by
  obtain ⟨h1, h2, h3, h4, h5, h6, h7, h8, h9, h10, h11, h12, h13, h14, h15, h16, h17, h18, h19, h20, h21, h22⟩ := h
  unfold Rel
  simp (disch := omega) only [upI_k, w_ui2, w_ul3, ladd_k, ladd_Ln, ladd_n, lrem_k, lrem_Ln, lrem_N, tk_u, tk_a, tk_r, tO_k, tO_2, tO_Ln, tk_tO, fil_k, fil_2, tk_f]
  exact ⟨h1, h2, h3, h4, (fun a ha => by
    by_cases e : a = m
    · subst e; rw [upI_s, upI_s]
    · rw [upI_o (by omega), upI_o (by omega)]; exact h5 a ha), h6, h7, h8, h9, h10, h11, h12, h13, h14, h15, h16, h17, h18, h19, h20, h21, h22⟩
theorem Rel.wNum (h : Rel σ τ)  : Rel (upI σ 23 m 0 x) (upI τ 55 0 m x) := by
  obtain ⟨h1, h2, h3, h4, h5, h6, h7, h8, h9, h10, h11, h12, h13, h14, h15, h16, h17, h18, h19, h20, h21, h22⟩ := h
  unfold Rel
  simp (disch := omega) only [upI_k, w_ui2, w_ul3, ladd_k, ladd_Ln, ladd_n, lrem_k, lrem_Ln, lrem_N, tk_u, tk_a, tk_r, tO_k, tO_2, tO_Ln, tk_tO, fil_k, fil_2, tk_f]
  exact ⟨h1, h2, h3, h4, h5, (fun a ha => by
    by_cases e : a = m
    · subst e; rw [upI_s, upI_s]
    · rw [upI_o (by omega), upI_o (by omega)]; exact h6 a ha), h7, h8, h9, h10, h11, h12, h13, h14, h15, h16, h17, h18, h19, h20, h21, h22⟩
theorem Rel.wAgr (h : Rel σ τ)  : Rel (upI σ 24 m 0 x) (upI τ 56 0 m x) := by
  obtain ⟨h1, h2, h3, h4, h5, h6, h7, h8, h9, h10, h11, h12, h13, h14, h15, h16, h17, h18, h19, h20, h21, h22⟩ := h
  unfold Rel
  simp (disch := omega) only [upI_k, w_ui2, w_ul3, ladd_k, ladd_Ln, ladd_n, lrem_k, lrem_Ln, lrem_N, tk_u, tk_a, tk_r, tO_k, tO_2, tO_Ln, tk_tO, fil_k, fil_2, tk_f]
  exact ⟨h1, h2, h3, h4, h5, h6, (fun a ha => by
    by_cases e : a = m
    · subst e; rw [upI_s, upI_s]
    · rw [upI_o (by omega), upI_o (by omega)]; exact h7 a ha), h8, h9, h10, h11, h12, h13, h14, h15, h16, h17, h18, h19, h20, h21, h22⟩
theorem Rel.wHgh (h : Rel σ τ)  : Rel (upI σ 12 i 0 x) (upI τ 64 0 i x) := by
  obtain ⟨h1, h2, h3, h4, h5, h6, h7, h8, h9, h10, h11, h12, h13, h14, h15, h16, h17, h18, h19, h20, h21, h22⟩ := h
  unfold Rel
  simp (disch := omega) only [upI_k, w_ui2, w_ul3, ladd_k, ladd_Ln, ladd_n, lrem_k, lrem_Ln, lrem_N, tk_u, tk_a, tk_r, tO_k, tO_2, tO_Ln, tk_tO, fil_k, fil_2, tk_f]
  exact ⟨h1, h2, h3, h4, h5, h6, h7, h8, h9, h10, h11, h12, h13, h14, (fun a ha => by
    by_cases e : a = i
    · subst e; rw [upI_s, upI_s]
    · rw [upI_o (by omega), upI_o (by omega)]; exact h15 a ha), h16, h17, h18, h19, h20, h21, h22⟩
theorem Rel.wKno (h : Rel σ τ)  : Rel (upI σ 11 i 0 x) (upI τ 65 0 i x) := by
  obtain ⟨h1, h2, h3, h4, h5, h6, h7, h8, h9, h10, h11, h12, h13, h14, h15, h16, h17, h18, h19, h20, h21, h22⟩ := h
  unfold Rel
  simp (disch := omega) only [upI_k, w_ui2, w_ul3, ladd_k, ladd_Ln, ladd_n, lrem_k, lrem_Ln, lrem_N, tk_u, tk_a, tk_r, tO_k, tO_2, tO_Ln, tk_tO, fil_k, fil_2, tk_f]
  exact ⟨h1, h2, h3, h4, h5, h6, h7, h8, h9, h10, h11, h12, h13, h14, h15, (fun a ha hal ht => by
    by_cases e : a = i
    · subst e; rw [upI_s, upI_s]
    · rw [upI_o (by omega), upI_o (by omega)]; exact h16 a ha hal ht), h17, h18, h19, h20, h21, h22⟩
theorem Rel.wKnoT (h : Rel σ τ) (ht9 : i = tk σ ∨ σ.1 13 i 0 = 0) : Rel (upI σ 11 i 0 x) (τ) := by
  obtain ⟨h1, h2, h3, h4, h5, h6, h7, h8, h9, h10, h11, h12, h13, h14, h15, h16, h17, h18, h19, h20, h21, h22⟩ := h
  unfold Rel
  simp (disch := omega) only [upI_k, w_ui2, w_ul3, ladd_k, ladd_Ln, ladd_n, lrem_k, lrem_Ln, lrem_N, tk_u, tk_a, tk_r, tO_k, tO_2, tO_Ln, tk_tO, fil_k, fil_2, tk_f]
  exact ⟨h1, h2, h3, h4, h5, h6, h7, h8, h9, h10, h11, h12, h13, h14, h15, (fun a ha hal ht => by
    by_cases e : a = i
    · subst e; exact absurd ht9 (by rintro (q | q); exact ht q; exact hal q)
    · rw [upI_o (by omega)]; exact h16 a ha hal ht), h17, h18, h19, h20, h21, h22⟩
theorem Rel.wKnoM (h : Rel σ τ) (ht9 : i = tk σ ∨ σ.1 13 i 0 = 0) : Rel (σ) (upI τ 65 0 i x) := by
  obtain ⟨h1, h2, h3, h4, h5, h6, h7, h8, h9, h10, h11, h12, h13, h14, h15, h16, h17, h18, h19, h20, h21, h22⟩ := h
  unfold Rel
  simp (disch := omega) only [upI_k, w_ui2, w_ul3, ladd_k, ladd_Ln, ladd_n, lrem_k, lrem_Ln, lrem_N, tk_u, tk_a, tk_r, tO_k, tO_2, tO_Ln, tk_tO, fil_k, fil_2, tk_f]
  exact ⟨h1, h2, h3, h4, h5, h6, h7, h8, h9, h10, h11, h12, h13, h14, h15, (fun a ha hal ht => by
    by_cases e : a = i
    · subst e; exact absurd ht9 (by rintro (q | q); exact ht q; exact hal q)
    · rw [upI_o (by omega)]; exact h16 a ha hal ht), h17, h18, h19, h20, h21, h22⟩
theorem Rel.wKep (h : Rel σ τ)  : Rel (upI σ 15 i 0 x) (upI τ 66 0 i x) := by
  obtain ⟨h1, h2, h3, h4, h5, h6, h7, h8, h9, h10, h11, h12, h13, h14, h15, h16, h17, h18, h19, h20, h21, h22⟩ := h
  unfold Rel
  simp (disch := omega) only [upI_k, w_ui2, w_ul3, ladd_k, ladd_Ln, ladd_n, lrem_k, lrem_Ln, lrem_N, tk_u, tk_a, tk_r, tO_k, tO_2, tO_Ln, tk_tO, fil_k, fil_2, tk_f]
  exact ⟨h1, h2, h3, h4, h5, h6, h7, h8, h9, h10, h11, h12, h13, h14, h15, h16, (fun a ha hal => by
    by_cases e : a = i
    · subst e; rw [upI_s, upI_s]
    · rw [upI_o (by omega), upI_o (by omega)]; exact h17 a ha hal), h18, h19, h20, h21, h22⟩
theorem Rel.wFai (h : Rel σ τ) (hk : τ.1 66 0 i = σ.1 15 i 0) : Rel (upI σ 13 i 0 0) (upI τ 57 0 i 1) := by
  obtain ⟨h1, h2, h3, h4, h5, h6, h7, h8, h9, h10, h11, h12, h13, h14, h15, h16, h17, h18, h19, h20, h21, h22⟩ := h
  unfold Rel
  simp (disch := omega) only [upI_k, w_ui2, w_ul3, ladd_k, ladd_Ln, ladd_n, lrem_k, lrem_Ln, lrem_N, tk_u, tk_a, tk_r, tO_k, tO_2, tO_Ln, tk_tO, fil_k, fil_2, tk_f]
  exact ⟨h1, h2, h3, h4, h5, h6, h7, (fun a ha => by
    by_cases e : a = i
    · subst e; rw [upI_s, upI_s]; rfl
    · rw [upI_o (by omega), upI_o (by omega)]; exact h8 a ha), h9, h10, h11, h12, h13, h14, h15, (fun a ha hal ht => by
    by_cases e : a = i
    · subst e; rw [upI_s] at hal; exact absurd rfl hal
    · rw [upI_o (by omega)] at hal; exact h16 a ha hal ht), (fun a ha hal => by
    by_cases e : a = i
    · subst e; exact hk
    · rw [upI_o (by omega)] at hal; exact h17 a ha hal), h18, h19, h20, h21, h22⟩
theorem Rel.wOut (h : Rel σ τ) (hx : y = if x = 0 then 1 else 0) : Rel (upI σ 14 i 0 x) (upI τ 58 0 i y) := by
  obtain ⟨h1, h2, h3, h4, h5, h6, h7, h8, h9, h10, h11, h12, h13, h14, h15, h16, h17, h18, h19, h20, h21, h22⟩ := h
  unfold Rel
  simp (disch := omega) only [upI_k, w_ui2, w_ul3, ladd_k, ladd_Ln, ladd_n, lrem_k, lrem_Ln, lrem_N, tk_u, tk_a, tk_r, tO_k, tO_2, tO_Ln, tk_tO, fil_k, fil_2, tk_f]
  exact ⟨h1, h2, h3, h4, h5, h6, h7, h8, (fun a ha => by
    by_cases e : a = i
    · subst e; rw [upI_s, upI_s]; exact hx
    · rw [upI_o (by omega), upI_o (by omega)]; exact h9 a ha), h10, h11, h12, h13, h14, h15, h16, h17, h18, h19, h20, h21, h22⟩
theorem Rel.wVie (h : Rel σ τ)  : Rel (upI σ 2 0 0 x) (upI τ 45 0 0 x) := by
  obtain ⟨h1, h2, h3, h4, h5, h6, h7, h8, h9, h10, h11, h12, h13, h14, h15, h16, h17, h18, h19, h20, h21, h22⟩ := h
  unfold Rel
  simp (disch := omega) only [upI_k, w_ui2, w_ul3, ladd_k, ladd_Ln, ladd_n, lrem_k, lrem_Ln, lrem_N, tk_u, tk_a, tk_r, tO_k, tO_2, tO_Ln, tk_tO, fil_k, fil_2, tk_f]
  exact ⟨h1, h2, h3, h4, h5, h6, h7, h8, h9, h10, h11, h12, h13, h14, h15, h16, h17, h18, h19, h20, h21, (by rw [upI_s, upI_s])⟩
theorem Rel.wGre (h : Rel σ τ)  : Rel (upI σ 1 0 0 x) (upI τ 43 0 0 x) := by
  obtain ⟨h1, h2, h3, h4, h5, h6, h7, h8, h9, h10, h11, h12, h13, h14, h15, h16, h17, h18, h19, h20, h21, h22⟩ := h
  unfold Rel
  simp (disch := omega) only [upI_k, w_ui2, w_ul3, ladd_k, ladd_Ln, ladd_n, lrem_k, lrem_Ln, lrem_N, tk_u, tk_a, tk_r, tO_k, tO_2, tO_Ln, tk_tO, fil_k, fil_2, tk_f]
  exact ⟨h1, h2, h3, h4, h5, h6, h7, h8, h9, h10, h11, h12, h13, h14, h15, h16, h17, h18, h19, (by rw [upI_s, upI_s]), h21, h22⟩
theorem Rel.wHol (h : Rel σ τ) (hi : i < 4) (hk : ∀ a, a < 4 → ¬ σ.1 13 a 0 = 0 → ¬ a = i → τ.1 65 0 a = σ.1 11 a 0) : Rel (upI σ 0 0 0 (nI i)) (upI τ 44 0 0 (nI i)) := by
  obtain ⟨h1, h2, h3, h4, h5, h6, h7, h8, h9, h10, h11, h12, h13, h14, h15, h16, h17, h18, h19, h20, h21, h22⟩ := h
  unfold Rel
  simp (disch := omega) only [upI_k, w_ui2, w_ul3, ladd_k, ladd_Ln, ladd_n, lrem_k, lrem_Ln, lrem_N, tk_u, tk_a, tk_r, tO_k, tO_2, tO_Ln, tk_tO, fil_k, fil_2, tk_f]
  exact ⟨h1, h2, h3, h4, h5, h6, h7, h8, h9, h10, h11, h12, h13, h14, h15, (fun a ha hal ht => hk a ha hal (fun q => ht (by rw [q]; unfold tk; rw [upI_s]; exact (nI_clamp (by omega)).symm))), h17, h18, h19, h20, (by rw [upI_s, upI_s]), h22⟩
theorem Rel.wPla (h : Rel σ τ)  : Rel (upI σ 29 m i x) (τ) := by
  obtain ⟨h1, h2, h3, h4, h5, h6, h7, h8, h9, h10, h11, h12, h13, h14, h15, h16, h17, h18, h19, h20, h21, h22⟩ := h
  unfold Rel
  simp (disch := omega) only [upI_k, w_ui2, w_ul3, ladd_k, ladd_Ln, ladd_n, lrem_k, lrem_Ln, lrem_N, tk_u, tk_a, tk_r, tO_k, tO_2, tO_Ln, tk_tO, fil_k, fil_2, tk_f]
  exact ⟨h1, h2, h3, h4, h5, h6, h7, h8, h9, h10, h11, h12, h13, h14, h15, h16, h17, h18, h19, h20, h21, h22⟩
theorem Rel.aRcv (h : Rel σ τ) (hi : i < 4) (hL0 : (σ.2.1 (3 + i)).length < 48) (hL : ∀ a, a < 4 → (σ.2.1 (3 + a)).length ≤ 48) : Rel (ladd σ (3 + i) m) (upI (upI τ 61 0 (48 * i + (σ.2.1 (3 + i)).length) (nI m)) 60 0 i (nI ((σ.2.1 (3 + i)).length + 1))) := by
  obtain ⟨h1, h2, h3, h4, h5, h6, h7, h8, h9, h10, h11, h12, h13, h14, h15, h16, h17, h18, h19, h20, h21, h22⟩ := h
  unfold Rel
  simp (disch := omega) only [upI_k, w_ui2, w_ul3, ladd_k, ladd_Ln, ladd_n, lrem_k, lrem_Ln, lrem_N, tk_u, tk_a, tk_r, tO_k, tO_2, tO_Ln, tk_tO, fil_k, fil_2, tk_f]
  exact ⟨h1, h2, h3, h4, h5, h6, h7, h8, h9, h10, (fun a ha => by
    by_cases e : a = i
    · subst e; rw [upI_s, ladd_L1, List.length_append]; rfl
    · rw [upI_o (by omega), upI_n (by decide), ladd_Ln (by omega)]; exact h11 a ha), (fun a b ha hb => by
    by_cases e : a = i
    · subst e
      rw [ladd_L1, List.length_append, List.length_singleton] at hb
      rw [ladd_L1, getD_app]
      by_cases e2 : b = (σ.2.1 (3 + a)).length
      · subst e2; rw [upI_s, if_neg (Nat.lt_irrefl _), if_pos rfl]
      · rw [upI_o (by omega), if_pos (by omega)]; exact h12 a b ha (by omega)
    · rw [ladd_Ln (by omega)] at hb ⊢
      rw [upI_o (by have := hL a ha; have := hL i hi; omega)]; exact h12 a b ha hb), h13, h14, h15, h16, h17, h18, h19, h20, h21, h22⟩
theorem Rel.aHld (h : Rel σ τ) (hi : i < 4) (hL0 : (σ.2.1 (7 + i)).length < 48) (hL : ∀ a, a < 4 → (σ.2.1 (7 + a)).length ≤ 48) : Rel (ladd σ (7 + i) m) (upI (upI τ 63 0 (48 * i + (σ.2.1 (7 + i)).length) (nI m)) 62 0 i (nI ((σ.2.1 (7 + i)).length + 1))) := by
  obtain ⟨h1, h2, h3, h4, h5, h6, h7, h8, h9, h10, h11, h12, h13, h14, h15, h16, h17, h18, h19, h20, h21, h22⟩ := h
  unfold Rel
  simp (disch := omega) only [upI_k, w_ui2, w_ul3, ladd_k, ladd_Ln, ladd_n, lrem_k, lrem_Ln, lrem_N, tk_u, tk_a, tk_r, tO_k, tO_2, tO_Ln, tk_tO, fil_k, fil_2, tk_f]
  exact ⟨h1, h2, h3, h4, h5, h6, h7, h8, h9, h10, (fun a ha => by rw [ladd_Ln (by omega)]; exact h11 a ha), (fun a b ha hb => by
    rw [ladd_Ln (by omega)] at hb ⊢
    exact h12 a b ha hb), (fun a ha => by
    by_cases e : a = i
    · subst e; rw [upI_s, ladd_L1, List.length_append]; rfl
    · rw [upI_o (by omega), upI_n (by decide), ladd_Ln (by omega)]; exact h13 a ha), (fun a b ha hb => by
    by_cases e : a = i
    · subst e
      rw [ladd_L1, List.length_append, List.length_singleton] at hb
      rw [ladd_L1, getD_app]
      by_cases e2 : b = (σ.2.1 (7 + a)).length
      · subst e2; rw [upI_s, if_neg (Nat.lt_irrefl _), if_pos rfl]
      · rw [upI_o (by omega), if_pos (by omega)]; exact h14 a b ha (by omega)
    · rw [ladd_Ln (by omega)] at hb ⊢
      rw [upI_o (by have := hL a ha; have := hL i hi; omega)]; exact h14 a b ha hb), h15, h16, h17, h18, h19, h20, h21, h22⟩
theorem Rel.aNum (h : Rel σ τ)  : Rel (ladd σ 1 m) (upI τ 42 0 0 (nI ((σ.2.1 1).length + 1))) := by
  obtain ⟨h1, h2, h3, h4, h5, h6, h7, h8, h9, h10, h11, h12, h13, h14, h15, h16, h17, h18, h19, h20, h21, h22⟩ := h
  unfold Rel
  simp (disch := omega) only [upI_k, w_ui2, w_ul3, ladd_k, ladd_Ln, ladd_n, lrem_k, lrem_Ln, lrem_N, tk_u, tk_a, tk_r, tO_k, tO_2, tO_Ln, tk_tO, fil_k, fil_2, tk_f]
  exact ⟨h1, h2, h3, h4, h5, h6, h7, h8, h9, h10, h11, h12, h13, h14, h15, h16, h17, h18, (by rw [upI_s, ladd_L1, List.length_append]; rfl), h20, h21, h22⟩
theorem Rel.aAgr (h : Rel σ τ)  : Rel (ladd σ 2 m) (τ) := by
  obtain ⟨h1, h2, h3, h4, h5, h6, h7, h8, h9, h10, h11, h12, h13, h14, h15, h16, h17, h18, h19, h20, h21, h22⟩ := h
  unfold Rel
  simp (disch := omega) only [upI_k, w_ui2, w_ul3, ladd_k, ladd_Ln, ladd_n, lrem_k, lrem_Ln, lrem_N, tk_u, tk_a, tk_r, tO_k, tO_2, tO_Ln, tk_tO, fil_k, fil_2, tk_f]
  exact ⟨h1, h2, h3, h4, h5, h6, h7, h8, h9, h10, h11, h12, h13, h14, h15, h16, h17, h18, h19, h20, h21, h22⟩
theorem Rel.tNum (h : Rel σ τ) (hx : x = nI ((S_tO σ 1 m).2.1 1).length) : Rel (S_tO σ 1 m) (upI τ 42 0 0 x) := by
  obtain ⟨h1, h2, h3, h4, h5, h6, h7, h8, h9, h10, h11, h12, h13, h14, h15, h16, h17, h18, h19, h20, h21, h22⟩ := h
  unfold Rel
  simp (disch := omega) only [upI_k, w_ui2, w_ul3, ladd_k, ladd_Ln, ladd_n, lrem_k, lrem_Ln, lrem_N, tk_u, tk_a, tk_r, tO_k, tO_2, tO_Ln, tk_tO, fil_k, fil_2, tk_f]
  exact ⟨h1, h2, h3, h4, h5, h6, h7, h8, h9, h10, h11, h12, h13, h14, h15, h16, h17, h18, (by rw [upI_s]; exact hx), h20, h21, h22⟩
theorem Rel.tAgr (h : Rel σ τ)  : Rel (S_tO σ 2 m) (τ) := by
  obtain ⟨h1, h2, h3, h4, h5, h6, h7, h8, h9, h10, h11, h12, h13, h14, h15, h16, h17, h18, h19, h20, h21, h22⟩ := h
  unfold Rel
  simp (disch := omega) only [upI_k, w_ui2, w_ul3, ladd_k, ladd_Ln, ladd_n, lrem_k, lrem_Ln, lrem_N, tk_u, tk_a, tk_r, tO_k, tO_2, tO_Ln, tk_tO, fil_k, fil_2, tk_f]
  exact ⟨h1, h2, h3, h4, h5, h6, h7, h8, h9, h10, h11, h12, h13, h14, h15, h16, h17, h18, h19, h20, h21, h22⟩
theorem Rel.rHld {σ' τ' : Sg} (h : Rel σ τ) (hi : i < 4) (s1 : ∀ k, k < 30 → σ'.1 k = σ.1 k) (s2 : ∀ k, k ≠ 7 + i → σ'.2.1 k = σ.2.1 k) (s3 : σ'.2.2.1 0 = σ.2.2.1 0) (t1 : ∀ k, 41 ≤ k → k ≠ 62 → k ≠ 63 → τ'.1 k = τ.1 k) (t2 : ∀ a, a < 4 → a ≠ i → τ'.1 62 0 a = τ.1 62 0 a) (t3 : ∀ a b, a < 4 → a ≠ i → b < 48 → τ'.1 63 0 (48 * a + b) = τ.1 63 0 (48 * a + b)) (hL : ∀ a, a < 4 → (σ.2.1 (7 + a)).length ≤ 48) (h62 : τ'.1 62 0 i = nI (σ'.2.1 (7 + i)).length) (h63 : ∀ j, j < (σ'.2.1 (7 + i)).length → τ'.1 63 0 (48 * i + j) = nI ((σ'.2.1 (7 + i)).getD j 0)) : Rel σ' τ' := by
  obtain ⟨h1, h2, h3, h4, h5, h6, h7, h8, h9, h10, h11, h12, h13, h14, h15, h16, h17, h18, h19, h20, h21, h22⟩ := h
  have ht : tk σ' = tk σ := by unfold tk; rw [s1 0 (by decide)]
  unfold Rel
  rw [s1 21 (by decide), s1 27 (by decide), s1 26 (by decide), s1 28 (by decide), s1 25 (by decide), s1 23 (by decide), s1 24 (by decide), s1 13 (by decide), s1 14 (by decide), s1 16 (by decide), s1 12 (by decide), s1 11 (by decide), s1 15 (by decide), s1 1 (by decide), s1 0 (by decide), s1 2 (by decide), s3, ht, s2 1 (by omega)]
  rw [t1 50 (by decide) (by decide) (by decide), t1 51 (by decide) (by decide) (by decide), t1 52 (by decide) (by decide) (by decide), t1 53 (by decide) (by decide) (by decide), t1 54 (by decide) (by decide) (by decide), t1 55 (by decide) (by decide) (by decide), t1 56 (by decide) (by decide) (by decide), t1 57 (by decide) (by decide) (by decide), t1 58 (by decide) (by decide) (by decide), t1 59 (by decide) (by decide) (by decide), t1 60 (by decide) (by decide) (by decide), t1 61 (by decide) (by decide) (by decide), t1 64 (by decide) (by decide) (by decide), t1 65 (by decide) (by decide) (by decide), t1 66 (by decide) (by decide) (by decide), t1 41 (by decide) (by decide) (by decide), t1 42 (by decide) (by decide) (by decide), t1 43 (by decide) (by decide) (by decide), t1 44 (by decide) (by decide) (by decide), t1 45 (by decide) (by decide) (by decide)]
  refine ⟨h1, h2, h3, h4, h5, h6, h7, h8, h9, h10, fun a ha => by rw [s2 (3 + a) (by omega)]; exact h11 a ha, fun a b ha hb => ?_, fun a ha => ?_, fun a b ha hb => ?_, h15, h16, h17, h18, h19, h20, h21, h22⟩
  · rw [s2 (3 + a) (by omega)] at hb ⊢
    exact h12 a b ha hb
  · by_cases e : a = i
    · subst e; exact h62
    · rw [t2 a ha e, s2 (7 + a) (by omega)]; exact h13 a ha
  · by_cases e : a = i
    · subst e; exact h63 b hb
    · rw [s2 (7 + a) (by omega)] at hb ⊢
      have := hL a ha
      rw [t3 a b ha e (by omega)]
      exact h14 a b ha hb
end RP
