/-! add and remove, over the abstract state -/
theorem Fit.room {κ : Kx} {σ : Sg} (h : Fit κ σ) : sC σ - (k0 κ).1 ≤ (kr κ).1 ∧ sS σ - (k0 κ).2 ≤ (kr κ).2 := by
  obtain ⟨p, l, e, R, s, m, args, below, meth, c, Q, g, L, c0, s0, fc, fs⟩ := κ
  exact ⟨Nat.sub_le_sub_right h.1 _, Nat.sub_le_sub_right h.2 _⟩
theorem lf_len {L : Tg → Nat} {l : List Nat} {j : Nat} (h : l.length ≤ j) : lf L l j = none := by
  unfold lf
  rw [List.getElem?_eq_none h]
  rfl
theorem lf_fe {L : Tg → Nat} {σ : Sg} {l : List Nat} (h : ∀ x ∈ l, x < σ.2.2.1 0) : FE L σ (lf L l) := fun i y hy => by
  obtain ⟨m, hm, rfl⟩ := Option.map_eq_some_iff.mp hy
  exact ⟨m, h m (List.mem_of_getElem? hm), rfl⟩
theorem lf_add {L : Tg → Nat} {l : List Nat} {m cap : Nat} (h : l.length ≤ cap) : va_up (gfn (lf L l) l.length cap) l.length (some (L (6, m))) = lf L (l ++ [m]) := by
  have e : gfn (lf L l) l.length cap = lf L l := by
    unfold gfn
    split
    · rfl
    · funext j
      unfold va_cpy
      split
      · rename_i hj
        rw [Nat.zero_add, Nat.sub_zero]
      · exact (lf_len (by omega)).symm
  rw [e]
  funext j
  unfold va_up
  rcases Nat.lt_trichotomy j l.length with q | q | q
  · rw [if_neg (by omega)]
    unfold lf
    rw [List.getElem?_append_left q]
  · rw [if_pos q]
    unfold lf
    rw [q, List.getElem?_append_right (Nat.le_refl _), Nat.sub_self]
    rfl
  · rw [if_neg (by omega), lf_len (by omega), lf_len (by rw [List.length_append]; exact q)]
theorem lf_rem {L : Tg → Nat} {l : List Nat} {j : Nat} (hj : j < l.length) : va_up (if j < l.length - 1 then va_cpy (lf L l) (lf L l) (j + 1) j (l.length - 1 - j) else lf L l) (l.length - 1) none = lf L (l.eraseIdx j) := by
  funext q
  unfold va_up
  have hlen : (l.eraseIdx j).length = l.length - 1 := List.length_eraseIdx_of_lt hj
  rcases Nat.lt_trichotomy q (l.length - 1) with h | h | h
  · rw [if_neg (by omega)]
    unfold lf
    rw [List.getElem?_eraseIdx]
    by_cases hq : q < j
    · rw [if_pos hq]
      split
      · unfold va_cpy
        rw [if_neg (by omega)]
      · rfl
    · rw [if_neg hq, if_pos (by omega)]
      unfold va_cpy
      rw [if_pos (by omega), show j + 1 + (q - j) = q + 1 by omega]
  · rw [if_pos h, lf_len (by omega)]
  · rw [if_neg (by omega), lf_len (l := l.eraseIdx j) (by omega)]
    split
    · unfold va_cpy
      rw [if_neg (by omega), lf_len (by omega)]
    · rw [lf_len (by omega)]
theorem Sg.ext' {σ τ : Sg} (h1 : ∀ k o j, σ.1 k o j = τ.1 k o j) (h2 : ∀ k, σ.2.1 k = τ.2.1 k) (h3 : ∀ k, σ.2.2.1 k = τ.2.2.1 k) (h4 : σ.2.2.2 = τ.2.2.2) : σ = τ := by
  obtain ⟨a, b, c, d⟩ := σ
  obtain ⟨a', b', c', d'⟩ := τ
  have e1 : a = a' := funext fun k => funext fun o => funext fun j => h1 k o j
  have e2 : b = b' := funext h2
  have e3 : c = c' := funext h3
  have e4 : d = d' := h4
  rw [e1, e2, e3, e4]
theorem ladd_eq {σ : Sg} {k m : Nat} (hk : k < 11) : ladd σ k m = if (σ.2.1 k).length < σ.2.2.1 (10 + k) then setL σ k (σ.1 30 k 0 + 1) (σ.2.1 k ++ [m]) (gcap (σ.2.1 k).length (σ.2.2.1 (10 + k))) else grw (setL σ k (σ.1 30 k 0 + 1) (σ.2.1 k ++ [m]) (gcap (σ.2.1 k).length (σ.2.2.1 (10 + k)))) 1 (newCap (σ.2.2.1 (10 + k))) := by
  unfold ladd lgrow gcap
  split
  · refine Sg.ext' (fun _ _ _ => rfl) (fun _ => rfl) (fun q => ?_) rfl
    show σ.2.2.1 q = if q = 10 + k then σ.2.2.1 (10 + k) else σ.2.2.1 q
    split
    · rename_i h; rw [h]
    · rfl
  · exact Sg.ext' (fun _ _ _ => rfl) (fun _ => rfl) (fun _ => rfl) rfl
theorem ladd_N {σ : Sg} {k m : Nat} (hk : k < 11) : sC (ladd σ k m) = sC σ + gcc (σ.2.1 k).length (σ.2.2.1 (10 + k)) ∧ sS (ladd σ k m) = sS σ + gcs (σ.2.1 k).length (σ.2.2.1 (10 + k)) := by
  rw [ladd_eq hk]
  unfold gcc gcs
  split
  · exact ⟨if_neg (by omega), if_neg (by omega)⟩
  · rw [grw_C.1, grw_C.2]
    exact ⟨congrArg (· + 1) (if_neg (by omega)), congrArg (· + newCap (σ.2.2.1 (10 + k))) (if_neg (by omega))⟩
theorem gcap_le {n cap : Nat} (h : n ≤ cap) : n + 1 ≤ gcap n cap := by
  unfold gcap newCap
  split
  · omega
  · split <;> omega
theorem c_ladd {l : Launch} {g : Gx} (hl : l.stackTraces = false) : CtX l g yJx4a65c_add_9ea2d cJx4a65c_add_9ea2d 2 (some .boolean) 6 150 f_ladd := by
  refine CtX.of (by decide) hl (fun κ h1 h2 hx hr as σ σF r hs hsem => ?_)
  subst h1
  subst h2
  unfold f_ladd at hsem
  split at hsem
  · rename_i k m
    obtain ⟨⟨hk, hm, hlen, hcap⟩, h⟩ := ite_s hsem
    cases h
    obtain ⟨N1, N2⟩ := ladd_N (σ := σ) (k := k) (m := m) hk
    refine ⟨Nat.le_refl _, ⟨by omega, by omega⟩, fun k9 => Acf.ofH (fun q1 q2 q3 => ?_)⟩
    obtain ⟨rm1, rm2⟩ := k9.fit.room
    refine AcH.pure (P := (σ.2.1 k).length ≤ σ.2.2.1 (10 + k) ∧ ∀ x ∈ σ.2.1 k, x < σ.2.2.1 0) (fun hr5 => ?_) (fun H h => by obtain ⟨L', -, -, -, -, -, r5⟩ := h; exact r5 k hk)
    obtain ⟨hle, hmem⟩ := hr5
    refine AcH.mono (fun H h => LX.take0 hk h) (AcH.ex fun a => ?_)
    refine AcH.pure (P := gA (kg κ) (kL κ (4, k))) (fun hg4 => ?_) (fun H h => h.gA4 hk)
    refine AcH.raw (st' := []) (lc' := [some (aq (kL κ (4, k))), some (aq (kL κ (6, m)))]) rfl rfl ?_
    refine H_aload_n (i := 0) (t := kL κ (4, k)) hx dJx4a65c_add_9ea2d_0 rfl (H_dup hx (Or.inr ⟨_, rfl⟩) dJx4a65c_add_9ea2d_1 (L_gmc hx dJx4a65c_add_9ea2d_2 (H_iconst (v := 1) hx dJx4a65c_add_9ea2d_5 (by decide) (H_iadd hx dJx4a65c_add_9ea2d_6 (L_pmc hk hx hg4 dJx4a65c_add_9ea2d_7 ?_)))))
    refine H_aload_n (i := 0) (t := kL κ (4, k)) hx dJx4a65c_add_9ea2d_10 rfl (H_aload_n (i := 1) (t := kL κ (6, m)) hx dJx4a65c_add_9ea2d_11 rfl (H_aload_n (i := 0) (t := kL κ (4, k)) hx dJx4a65c_add_9ea2d_12 rfl (L_gel hx dJx4a65c_add_9ea2d_13 (H_aload_n (i := 0) (t := kL κ (4, k)) hx dJx4a65c_add_9ea2d_16 rfl (L_gsz hx dJx4a65c_add_9ea2d_17 ?_)))))
    refine H_callV (as := [.ref (kL κ (6, m)), .ref a, .int (nI (σ.2.1 k).length)]) (rest := []) (b := kL κ (4, k)) hx XT_T rfl (c_add3 hl hk (lf_fe hmem) hm hle hcap) trivial (fun H h => h) (fun H h => ⟨_, h.at4⟩) uc_Jx4a65c_add_72be8 um_Jx4a65c_131 ui_Jx4a65c_add_72be8 us_Jx4a65c_add_72be8 un_Jx4a65c ⟨rfl, by decide, by decide, rfl⟩ rfl (by decide) (by decide) (by decide) (by omega) (by omega) dJx4a65c_add_9ea2d_20 (fun v => ?_)
    refine AcH.pure (P := v = none) (fun hv => ?_) (fun H h => h.1)
    subst hv
    refine AcH.ofA (σ := ladd σ k m) (fun H h => ?_) (by omega) (by omega) k9.fit (A_iconst (v := 1) hx dJx4a65c_add_9ea2d_23 (by decide) (A_iret hx hr rfl dJx4a65c_add_9ea2d_24 k9))
    obtain ⟨-, b, h⟩ := h
    have hcl : RepX (kg κ) (kL κ) (setL σ k (σ.1 30 k 0 + 1) (σ.2.1 k ++ [m]) (gcap (σ.2.1 k).length (σ.2.2.1 (10 + k)))) H := by
      refine LX.close (a := b) (f := va_up (gfn (lf (kL κ) (σ.2.1 k)) (σ.2.1 k).length (σ.2.2.1 (10 + k))) (σ.2.1 k).length (some (kL κ (6, m)))) hk ?_ (lf_add hle) ?_ ?_
      · rw [List.length_append]
        exact h
      · rw [List.length_append]
        exact gcap_le hle
      · intro x hx9
        rcases List.mem_append.mp hx9 with z | z
        · exact hmem x z
        · rw [List.mem_singleton.mp z]
          exact hm
    rw [ladd_eq hk]
    split
    · exact hcl
    · exact hcl.grw (fun _ _ => rfl)
  · cases hsem
