/-! pure: what holds between calls: all arrives -/
section AI
variable {f e : Prop} {σ τ υ : Sg} {m i j k n a b o k2 o2 j2 t B q p s m0 i0 g z d : Nat} {x y : Int32} {l : List Nat}
theorem tI_Mo (h : CI f σ B e m i) (hi : i < 4) (hal : ¬ σ.1 13 i 0 = 0) (hm : m < σ.2.2.1 0) (hc : σ.1 27 m i = 0 ∨ σ.1 27 m i = 3) : Mo σ (S_tI σ m i) ∧ (m ∈ (S_tI σ m i).2.1 (3 + i) ∨ m ∈ (S_tI σ m i).2.1 (7 + i)) := by
  obtain ⟨Y1, mo, r1, r2, hin⟩ := h.1.tI1 hi hal hm hc (h.2.2.2.2.2.2.1 i hi hal)
  exact ⟨mo, hin⟩
theorem Mo.kk (h : Mo σ τ) (h1 : k ≠ 27) (h2 : k ≠ 29) (h3 : k ≠ 30) (h4 : k ≠ 16) (h5 : k ≠ 23) (h6 : k ≠ 11) : τ.1 k = σ.1 k := h.2.1 k h1 h2 h3 h4 h5 h6
theorem Mo.in (h : Mo σ τ) (hb : b < 4) (q : a ∈ σ.2.1 (3 + b) ∨ a ∈ σ.2.1 (7 + b)) : a ∈ τ.2.1 (3 + b) ∨ a ∈ τ.2.1 (7 + b) := by
  rcases q with q | q
  · exact Or.inl (h.2.2.2.1 b hb a q)
  · exact (h.2.2.2.2 b hb a q).symm
theorem CI.hereOr (h : CI f σ B e m0 i0) (hi : i < 4) (hal : ¬ σ.1 13 i 0 = 0) (hm : m < σ.2.2.1 0) (hd : σ.1 25 m 0 = 0) : (m ∈ σ.2.1 (3 + i) ∨ m ∈ σ.2.1 (7 + i)) ∨ (σ.1 27 m i = 0 ∨ σ.1 27 m i = 3) := by
  rcases h.1.2.2.2.2 i hi hal m hm with q | q | q | q
  · exact Or.inr q.2.1
  · exact Or.inl (Or.inl q.2.2.1)
  · exact Or.inl (Or.inr q.2.2.2)
  · rw [q.1] at hd; exact absurd hd (by decide)
theorem lI_ci (h : CI f σ B False m0 i0) (hi : i < 4) (hal : ¬ σ.1 13 i 0 = 0) : ∀ t, t ≤ σ.2.2.1 0 → CI f (lI i σ t) B False m0 i0 ∧ Mo σ (lI i σ t) ∧ ∀ m, m < t → σ.1 25 m 0 = 0 → m ∈ (lI i σ t).2.1 (3 + i) ∨ m ∈ (lI i σ t).2.1 (7 + i) := by
  intro t
  induction t with
  | zero => intro _; exact ⟨h, Mo.rf, fun m hm => absurd hm (Nat.not_lt_zero _)⟩
  | succ t ih =>
    intro ht
    obtain ⟨I, M, A⟩ := ih (by omega)
    have hal1 : ¬ (lI i σ t).1 13 i 0 = 0 := by rw [M.kk (by decide) (by decide) (by decide) (by decide) (by decide) (by decide)]; exact hal
    have htn : t < (lI i σ t).2.2.1 0 := by rw [M.1]; omega
    rw [lI_s]
    by_cases c : laP (lI i σ t) t i = true
    · rw [if_pos c]
      obtain ⟨c1, c2⟩ := laP_t c
      have I1 : CI f (lI i σ t) B False t i := I.e0
      obtain ⟨M1, hin⟩ := tI_Mo I1 hi hal1 htn c2
      refine ⟨I1.tI hi hal1 htn c2, M.tr M1, fun m hm hd => ?_⟩
      by_cases e : m = t
      · rw [e]; exact hin
      · exact M1.in hi (A m (by omega) hd)
    · rw [if_neg c]
      refine ⟨I, M, fun m hm hd => ?_⟩
      by_cases e : m = t
      · rw [e]
        rcases I.hereOr hi hal1 htn (by rw [M.kk (by decide) (by decide) (by decide) (by decide) (by decide) (by decide), ← e]; exact hd) with q | q
        · exact q
        · exact absurd (by unfold laP; rw [Bool.and_eq_true, Bool.not_eq_true', decide_eq_false_iff_not, Bool.or_eq_true, decide_eq_true_eq, decide_eq_true_eq]; exact ⟨hal1, q⟩) c
      · exact A m (by omega) hd
theorem lO_ci (h : CI f σ B False m0 i0) : ∀ i, i ≤ 4 → CI f (lO σ i) B False m0 i0 ∧ Mo σ (lO σ i) ∧ ∀ b, b < i → ¬ σ.1 13 b 0 = 0 → ∀ m, m < σ.2.2.1 0 → σ.1 25 m 0 = 0 → m ∈ (lO σ i).2.1 (3 + b) ∨ m ∈ (lO σ i).2.1 (7 + b) := by
  intro i
  induction i with
  | zero => intro _; exact ⟨h, Mo.rf, fun m hm => absurd hm (Nat.not_lt_zero _)⟩
  | succ i ih =>
    intro hi
    obtain ⟨I, M, A⟩ := ih (by omega)
    have h13 : (lO σ i).1 13 = σ.1 13 := M.kk (by decide) (by decide) (by decide) (by decide) (by decide) (by decide)
    have h25 : (lO σ i).1 25 = σ.1 25 := M.kk (by decide) (by decide) (by decide) (by decide) (by decide) (by decide)
    rw [lO_s]
    by_cases c : σ.1 13 i 0 = 0
    · rw [lI_dead (by rw [h13]; exact c)]
      refine ⟨I, M, fun b hb z m hm hd => ?_⟩
      by_cases e : b = i
      · subst e; exact absurd c z
      · exact A b (by omega) z m hm hd
    · obtain ⟨I1, M1, A1⟩ := lI_ci I (i := i) (by omega) (by rw [h13]; exact c) (σ.2.2.1 0) (by rw [M.1]; exact Nat.le_refl _)
      refine ⟨I1, M.tr M1, fun b hb z m hm hd => ?_⟩
      by_cases e : b = i
      · subst e; exact A1 m hm (by rw [h25]; exact hd)
      · exact M1.in (by omega) (A b (by omega) z m hm hd)
/-- all that is left has been delivered -/
theorem all_in (h : CI f σ B False m0 i0) (hU : ∀ m, m < σ.2.2.1 0 → σ.1 25 m 0 = 0 → ∀ d, d < σ.2.2.1 0 → ¬ σ.1 25 d 0 = 0 → bef σ d m = false) (hi : i < 4) (hal : ¬ σ.1 13 i 0 = 0) (hin : ∀ m, m < σ.2.2.1 0 → σ.1 25 m 0 = 0 → m ∈ σ.2.1 (3 + i) ∨ m ∈ σ.2.1 (7 + i)) : ∀ m, m < σ.2.2.1 0 → σ.1 25 m 0 = 0 → m ∈ σ.2.1 (3 + i) := by
  have Y := h.1
  have W := Y.1.1
  have C := Y.1.2.2.2.1
  have BLh := C.bl W
  have hR := h.2.2.2.2.2.2.1 i hi hal
  rw [rdyF] at hR
  intro m
  induction m using Nat.strongRecOn with
  | ind m ih =>
    intro hm hd
    rcases hin m hm hd with q | q
    · exact q
    · exfalso
      have hnr : m ∉ σ.2.1 (3 + i) := Y.2.2.2.1 i hi m q
      have hb : ∀ a, a < σ.2.2.1 0 → bef σ a m = true → a ∈ σ.2.1 (3 + i) := fun a ha hab => by
        have hlt := BLh a m ha hm hab
        refine ih a hlt ha ?_
        by_cases c : σ.1 25 a 0 = 0
        · exact c
        · have := hU m hm hd a ha c
          rw [this] at hab
          cases hab
      obtain ⟨h1, h2, h3, h4, h5⟩ := C.2.2.1 m hm
      have s4 := W.sn4 hm
      have hT : ∀ r, r < hst σ m → (σ.2.1 (3 + sdr σ m)).getD r 0 ∈ σ.2.1 (3 + i) := fun r hr => by
        have hr2 : r < (σ.2.1 (3 + sdr σ m)).length := by omega
        have ha := W.get (k := 3 + sdr σ m) (by omega) hr2
        refine hb _ ha ((C.inH W ha hm).mpr ?_)
        rw [List.mem_take_iff_getElem]
        exact ⟨r, by omega, by rw [List.getD_eq_getElem?_getD, List.getElem?_eq_getElem hr2]; rfl⟩
      have hcan : canB σ m i = true := by
        rw [C.can W hm hi]
        have hsq := C.sq_st W hm
        refine ⟨?_, fun j hj hne => ?_⟩
        · have hgt : ¬ sq σ m ≤ cnt σ (σ.2.1 (3 + i)) (sdr σ m) := fun c => hnr ((C.mem W hi hm).mpr c)
          rw [hsq]
          by_cases c : sq σ m = cnt σ (σ.2.1 (3 + i)) (sdr σ m) + 1
          · exact c
          · exfalso
            have e1 : stN σ m (sdr σ m) = cnt σ ((σ.2.1 (3 + sdr σ m)).take (hst σ m)) (sdr σ m) + 1 := by
              unfold stN
              rw [cnt_s h2, h3, if_pos rfl]
            obtain ⟨r, r1, r2, r3⟩ := cnt_ivt (σ := σ) (l := σ.2.1 (3 + sdr σ m)) (k := sdr σ m) (hst σ m) (by omega) (cnt σ (σ.2.1 (3 + i)) (sdr σ m)) (by omega)
            have hr2 : r < (σ.2.1 (3 + sdr σ m)).length := by omega
            have ha := W.get (k := 3 + sdr σ m) (by omega) hr2
            have e2 := C.2.1 (sdr σ m) r s4 hr2
            rw [r2, r3] at e2
            have e3 := (C.mem W hi ha).mp (hT r r1)
            rw [r2] at e3
            omega
        · by_cases c : stN σ m j ≤ cnt σ (σ.2.1 (3 + i)) j
          · exact c
          · exfalso
            obtain ⟨r, r1, r2, r3⟩ := cnt_ivt (σ := σ) (l := σ.2.1 (3 + sdr σ m)) (k := j) (hst σ m + 1) (by omega) (cnt σ (σ.2.1 (3 + i)) j) (by unfold stN at c; omega)
            have hr2 : r < (σ.2.1 (3 + sdr σ m)).length := by omega
            have ha := W.get (k := 3 + sdr σ m) (by omega) hr2
            have hrr : r ≠ hst σ m := fun q => hne (by rw [← r2, q, h3])
            have e2 := C.2.1 (sdr σ m) r s4 hr2
            rw [r2, r3] at e2
            have e3 := (C.mem W hi ha).mp (hT r (by omega))
            rw [r2] at e3
            omega
      rw [hR m q] at hcan
      cases hcan
/-- behind the first two steps of a flush -/
theorem fl2_ci (h : CI f σ B False m0 i0) : CI False (fl1 σ) B False m0 i0 ∧ CI False (fl2 σ) B False m0 i0 ∧ (fl2 σ).2.2.1 0 = σ.2.2.1 0 ∧ (fl2 σ).1 13 = σ.1 13 ∧ ∀ i, i < 4 → ¬ (fl2 σ).1 13 i 0 = 0 → ∀ m, m < (fl2 σ).2.2.1 0 → (m ∈ (fl2 σ).2.1 (3 + i) ↔ (fl2 σ).1 25 m 0 = 0) := by
  obtain ⟨I1, U, n1, h13⟩ := dU_ci h.weak (σ.2.2.1 0) (Nat.le_refl _)
  have I1' : CI False (fl1 σ) B False m0 i0 := I1
  obtain ⟨I2, M, A⟩ := lO_ci I1' 4 (Nat.le_refl _)
  have I2' : CI False (fl2 σ) B False m0 i0 := I2
  have M' : Mo (fl1 σ) (fl2 σ) := M
  have nn1 : (fl1 σ).2.2.1 0 = σ.2.2.1 0 := congrArg (fun z => z.1 0) n1
  have e13 : (fl1 σ).1 13 = σ.1 13 := h13
  have k13 : (fl2 σ).1 13 = (fl1 σ).1 13 := M'.kk (by decide) (by decide) (by decide) (by decide) (by decide) (by decide)
  have k25 : (fl2 σ).1 25 = (fl1 σ).1 25 := M'.kk (by decide) (by decide) (by decide) (by decide) (by decide) (by decide)
  refine ⟨I1', I2', M'.1.trans nn1, k13.trans e13, fun i hi hal m hm => ⟨fun hr => ?_, fun hd => ?_⟩⟩
  · rcases I2'.1.2.2.2.2 i hi hal m hm with q | q | q | q
    · exact q.1
    · exact q.1
    · exact q.1
    · exact absurd hr q.2.2.1
  · refine all_in I2' (fun m hm hd d hdn hdd => ?_) hi hal (fun m hm hd => ?_) m hm hd
    · rw [k25] at hd hdd
      rw [M'.1] at hm hdn
      rw [bef_of (M'.kk (by decide) (by decide) (by decide) (by decide) (by decide) (by decide)) (M'.kk (by decide) (by decide) (by decide) (by decide) (by decide) (by decide))]
      exact (U m (by rw [nn1] at hm; exact hm) hd).2 d hdn hdd
    · rw [M'.1] at hm
      rw [k25] at hd
      rw [k13] at hal
      exact A i hi hal m hm hd
end AI
