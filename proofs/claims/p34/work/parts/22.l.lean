/-! remove -/
theorem c_frem {l : Launch} {g : Gx} {L : Tg → Nat} {σ : Sg} {k : Nat} {mc : Int32} {a cap c j : Nat} {f : Nat → Option Nat} (hl : l.stackTraces = false) (hk : k < 11) (hf : FE L σ f) (hj : j < c) (hc : c ≤ cap) (hb : cap < 2000) : CtH (fun _ => True) l g yJx4a65c_fastRemove_b59b0 cJx4a65c_fastRemove_b59b0 4 none 1 40 0 0 [.ref (L (4, k)), .ref a, .int (nI j)] (LX g L σ k mc a cap f (nI c) none) (fun v H => v = none ∧ LX g L σ k (mc + 1) a cap (va_up (if j < c - 1 then va_cpy f f (j + 1) j (c - 1 - j) else f) (c - 1) none) (nI (c - 1)) none H) := by
  refine CtH.of (by decide) hl (by simp [Value.category]) (by simp) (fun κ h1 h2 _ hx hr hkk hl9 => ?_)
  subst h1
  subst hl9
  have z31 : ∀ z : Nat, z < 65536 → z < 2 ^ 31 := fun z hz => Nat.lt_trans hz (by decide)
  refine AcH.pure (P := gA (kg κ) (L (4, k))) (fun hg4 => ?_) (fun H h => h.gA4 hk)
  refine AcH.pure (P := gA (kg κ) a) (fun hga => ?_) (fun H h => (h.at5 (by omega)).2)
  refine H_aload_n (i := 0) (t := L (4, k)) hx dJx4a65c_fastRemove_b59b0_0 rfl (H_dup hx (Or.inr ⟨_, rfl⟩) dJx4a65c_fastRemove_b59b0_1 (L_gmc hx dJx4a65c_fastRemove_b59b0_2 (H_iconst (v := 1) hx dJx4a65c_fastRemove_b59b0_5 (by decide) (H_iadd hx dJx4a65c_fastRemove_b59b0_6 (L_pmc hk hx hg4 dJx4a65c_fastRemove_b59b0_7 ?_)))))
  refine H_aload_n (i := 0) (t := L (4, k)) hx dJx4a65c_fastRemove_b59b0_10 rfl (L_gsz hx dJx4a65c_fastRemove_b59b0_11 (H_iconst (v := nI 1) hx dJx4a65c_fastRemove_b59b0_14 (by decide) (H_isub hx dJx4a65c_fastRemove_b59b0_15 ?_)))
  rw [pk_sub (by omega)]
  have fin : ∀ f', f' = (if j < c - 1 then va_cpy f f (j + 1) j (c - 1 - j) else f) → AcH κ (LX (kg κ) L σ k (mc + 1) a cap f' (nI c) none) 0 0 34 [] [some (aq (L (4, k))), some (aq a), some (ai (nI j)), some (ai (nI (c - 1)))] := fun f' hf' => by
    refine H_aload_n (i := 1) (t := a) hx dJx4a65c_fastRemove_b59b0_34 rfl (H_aload_n (i := 0) (t := L (4, k)) hx dJx4a65c_fastRemove_b59b0_35 rfl (H_iload_n (i := 3) hx dJx4a65c_fastRemove_b59b0_36 rfl (H_dup_x1 hx rfl rfl dJx4a65c_fastRemove_b59b0_37 (L_psz hk hx hg4 dJx4a65c_fastRemove_b59b0_38 (H_null hx dJx4a65c_fastRemove_b59b0_41 ?_)))))
    refine H_aastN (Rq := LX (kg κ) L σ k (mc + 1) a cap (va_up f' (c - 1) none) (nI (c - 1)) none) hx (fun H h => (h.at5 (by omega)).1) (vp_in_nI (by omega) (by omega)) hga (fun H H' h h5 hq => h.put5 (by omega) hk (by rw [nI_clamp (z31 _ (by omega))] at h5; exact h5) hq) dJx4a65c_fastRemove_b59b0_42 ?_
    rw [hf']
    exact H_vret hx hr dJx4a65c_fastRemove_b59b0_43 hkk (Nat.zero_le _) (Nat.zero_le _) (fun H h => ⟨rfl, h⟩)
  refine H_dup hx (Or.inl ⟨_, rfl⟩) dJx4a65c_fastRemove_b59b0_16 (H_istore_n (i := 3) hx dJx4a65c_fastRemove_b59b0_17 (by show 3 < 4; decide) (H_iload_n (i := 2) hx dJx4a65c_fastRemove_b59b0_18 rfl (H_icmp_le (tgt := 34) hx dJx4a65c_fastRemove_b59b0_19 (by decide) (fun q => ?_) (fun q => ?_))))
  · have hn : ¬ j < c - 1 := fun z => nI_ge z (z31 _ (by omega)) q
    exact fin f (if_neg hn).symm
  · have hn : j < c - 1 := by
      rcases Nat.lt_or_ge j (c - 1) with z | z
      · exact z
      · exact absurd (nI_le z (z31 _ (by omega))) q
    refine H_aload_n (i := 1) (t := a) hx dJx4a65c_fastRemove_b59b0_22 rfl (H_iload_n (i := 2) hx dJx4a65c_fastRemove_b59b0_23 rfl (H_iconst (v := nI 1) hx dJx4a65c_fastRemove_b59b0_24 (by decide) (H_iadd hx dJx4a65c_fastRemove_b59b0_25 ?_)))
    rw [nI_add]
    refine H_aload_n (i := 1) (t := a) hx dJx4a65c_fastRemove_b59b0_26 rfl (H_iload_n (i := 2) hx dJx4a65c_fastRemove_b59b0_27 rfl (H_iload_n (i := 3) hx dJx4a65c_fastRemove_b59b0_28 rfl (H_iload_n (i := 2) hx dJx4a65c_fastRemove_b59b0_29 rfl (H_isub hx dJx4a65c_fastRemove_b59b0_30 ?_))))
    rw [pk_sub (by omega)]
    exact H_copy (Rq := LX (kg κ) L σ k (mc + 1) a cap (va_cpy f f (j + 1) j (c - 1 - j)) (nI c) none) hx (fun H h => (h.at5 (by omega)).1) (fun H h => (h.at5 (by omega)).1) (fun H h => h.els hf) fw_msg (by omega) (by omega) (by omega) (by omega) (by omega) hga rfl um_Jx4a65c_112 (by decide) (by decide) (fun H H' h hb' hq => h.put5 (by omega) hk hb' hq) dJx4a65c_fastRemove_b59b0_31 (fin _ (if_pos hn).symm)
theorem c_lremove {l : Launch} {g : Gx} (hl : l.stackTraces = false) : CtX l g yJx4a65c_remove_915e3 cJx4a65c_remove_915e3 4 (some (.object "java/lang/Object")) 3 80 f_lremove := by
  refine CtX.of (by decide) hl (fun κ h1 h2 hx hr as σ σF r hs hsem => ?_)
  subst h1
  subst h2
  unfold f_lremove at hsem
  split at hsem
  · rename_i k i
    split at hsem
    · rename_i hc
      obtain ⟨hk, hin, hlen, hcap⟩ := hc
      obtain ⟨m, hm, h⟩ := Option.map_eq_some_iff.mp hsem
      cases h
      obtain ⟨c1, c2⟩ := inB_lt (Nat.lt_trans hlen (by decide)) hin
      obtain ⟨j, hj, rfl⟩ := vp_in_of (inB_in hin) (Nat.lt_trans hlen (by decide))
      have ecl : (nI j).toNatClampNeg = j := nI_clamp (by omega)
      rw [ecl] at hm
      refine ⟨by simp [lcOf], ⟨Nat.le_refl _, Nat.le_refl _⟩, fun k9 => ?_⟩
      rw [ecl] at k9
      refine A_iload_n (i := 1) hx dJx4a65c_remove_915e3_0 rfl (A_aload_n (i := 0) hx dJx4a65c_remove_915e3_1 rfl (A_lsz hx hk dJx4a65c_remove_915e3_2 ?_))
      refine A_callS (as := [ai (nI j), ai (nI (σ.2.1 k).length)]) (rest := []) (σF := σ) hx hr rfl (c_ck hl) (r := .inl (some (ai (nI j)))) (by simp only [f_ck]; rw [if_pos ⟨c1, c2⟩]) (sle.refl _) (fun v hv => by simp at hv; rcases hv with rfl | rfl; exact Or.inl ⟨_, rfl⟩; exact Or.inl ⟨_, rfl⟩) uc_J15_checkIndex_7cf53 um_Jx4a65c_118 ut_J15_checkIndex_7cf53 un_J15 ⟨by decide, by decide, rfl⟩ (by decide) (by decide) (by decide) dJx4a65c_remove_915e3_5 k9.fit (fun v hv => ?_) (fun n hn => by cases hn)
      cases hv
      refine A_pop hx (Or.inl ⟨_, rfl⟩) dJx4a65c_remove_915e3_8 (Acf.ofH (fun q1 q2 q3 => ?_))
      refine AcH.pure (P := (σ.2.1 k).length ≤ σ.2.2.1 (10 + k) ∧ ∀ x ∈ σ.2.1 k, x < σ.2.2.1 0) (fun hr5 => ?_) (fun H h => by obtain ⟨L', -, -, -, -, -, r5⟩ := h; exact r5 k hk)
      obtain ⟨hle, hmem⟩ := hr5
      refine AcH.mono (fun H h => LX.take0 hk h) (AcH.ex fun a => ?_)
      refine AcH.raw (st' := []) (lc' := [some (aq (kL κ (4, k))), some (ai (nI j)), none, none]) rfl rfl ?_
      refine H_aload_n (i := 0) (t := kL κ (4, k)) hx dJx4a65c_remove_915e3_9 rfl (L_gel hx dJx4a65c_remove_915e3_10 (H_astore_n (i := 2) hx dJx4a65c_remove_915e3_13 (by show 2 < 4; decide) (H_aload_n (i := 2) (t := a) hx dJx4a65c_remove_915e3_14 rfl (H_iload_n (i := 1) hx dJx4a65c_remove_915e3_15 rfl (H_aald hx (fun H h => (h.at5 (by omega)).1) (vp_in_nI (by omega) (by omega)) dJx4a65c_remove_915e3_16 ?_)))))
      have hel : va_rf (lf (kL κ) (σ.2.1 k) (nI j).toNatClampNeg) = .ref (kL κ (6, m)) := by
        rw [ecl]
        unfold lf
        rw [hm]
        rfl
      rw [hel]
      refine H_astore_n (i := 3) (t := kL κ (6, m)) hx dJx4a65c_remove_915e3_17 (by show 3 < 4; decide) (H_aload_n (i := 0) (t := kL κ (4, k)) hx dJx4a65c_remove_915e3_18 rfl (H_aload_n (i := 2) (t := a) hx dJx4a65c_remove_915e3_19 rfl (H_iload_n (i := 1) hx dJx4a65c_remove_915e3_20 rfl ?_)))
      obtain ⟨rm1, rm2⟩ := q3.room
      refine H_callV (as := [.ref a, .int (nI j)]) (rest := []) (b := kL κ (4, k)) hx XT_T rfl (c_frem hl hk (lf_fe hmem) hj hle hcap) trivial (fun H h => h) (fun H h => ⟨_, h.at4⟩) uc_Jx4a65c_fastRemove_b59b0 um_Jx4a65c_144 ui_Jx4a65c_fastRemove_b59b0 us_Jx4a65c_fastRemove_b59b0 un_Jx4a65c ⟨rfl, by decide, by decide, rfl⟩ rfl (by decide) (by decide) (by decide) (by omega) (by omega) dJx4a65c_remove_915e3_21 (fun v => ?_)
      refine AcH.pure (P := v = none) (fun hv => ?_) (fun H h => h.1)
      subst hv
      refine H_aload_n (i := 3) (t := kL κ (6, m)) hx dJx4a65c_remove_915e3_24 rfl (AcH.raw (st' := [ar (6, m)]) (lc' := [some (aq (kL κ (4, k))), some (ai (nI j)), some (aq a), some (aq (kL κ (6, m)))]) rfl rfl ?_)
      refine AcH.ofA (σ := lrem σ k j) (fun H h => ?_) (by show (k0 κ).1 + _ ≤ sC σ; omega) (by show (k0 κ).2 + _ ≤ sS σ; omega) k9.fit (A_aret hx hr (Or.inl ⟨_, rfl⟩) dJx4a65c_remove_915e3_25 k9)
      have hcl : RepX (kg κ) (kL κ) (setL σ k (σ.1 30 k 0 + 1) ((σ.2.1 k).eraseIdx j) (σ.2.2.1 (10 + k))) H := by
        refine LX.close (a := a) hk ?_ (lf_rem hj) ?_ ?_
        · rw [List.length_eraseIdx_of_lt hj]
          exact h.2
        · rw [List.length_eraseIdx_of_lt hj]
          omega
        · intro x hx9
          exact hmem x (List.mem_of_mem_eraseIdx hx9)
      have e : lrem σ k j = setL σ k (σ.1 30 k 0 + 1) ((σ.2.1 k).eraseIdx j) (σ.2.2.1 (10 + k)) := by
        refine Sg.ext' (fun _ _ _ => rfl) (fun _ => rfl) (fun q => ?_) rfl
        show σ.2.2.1 q = if q = 10 + k then σ.2.2.1 (10 + k) else σ.2.2.1 q
        split
        · rename_i h9; rw [h9]
        · rfl
      rw [e]
      exact hcl
    · cases hsem
  · cases hsem
