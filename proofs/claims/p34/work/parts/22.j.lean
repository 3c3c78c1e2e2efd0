/-! add and remove -/
def gcap (s cap : Nat) : Nat := if s < cap then cap else newCap cap
def gfn (f : Nat → Option Nat) (s cap : Nat) : Nat → Option Nat := if s < cap then f else va_cpy f (fun _ => none) 0 0 cap
def gcc (s cap : Nat) : Nat := if s < cap then 0 else 1
def gcs (s cap : Nat) : Nat := if s < cap then 0 else newCap cap
section ADD
variable {l : Launch} {g : Gx} {L : Tg → Nat} {σ : Sg} {k : Nat} {mc : Int32} {a cap : Nat} {f : Nat → Option Nat} {sz : Int32}
theorem c_grow1 (hl : l.stackTraces = false) (hk : k < 11) (hf : FE L σ f) (hb : cap < 2000) : CtH (fun _ => True) l g yJx4a65c_grow_d5877 cJx4a65c_grow_d5877 1 (some (.array (.object "java/lang/Object"))) 4 107 1 (newCap cap) [.ref (L (4, k))] (LX g L σ k mc a cap f (nI cap) none) (fun v H => ∃ b, v = some (.ref b) ∧ LX g L σ k mc b (newCap cap) (va_cpy f (fun _ => none) 0 0 cap) (nI cap) none H) := by
  refine CtH.of (by decide) hl (by simp [Value.category]) (by simp) (fun κ h1 h2 _ hx hr hkk hl9 => ?_)
  subst h1
  subst hl9
  refine H_aload_n (i := 0) (t := L (4, k)) hx dJx4a65c_grow_d5877_0 rfl (H_aload_n (i := 0) (t := L (4, k)) hx dJx4a65c_grow_d5877_1 rfl (L_gsz hx dJx4a65c_grow_d5877_2 (H_iconst (v := nI 1) hx dJx4a65c_grow_d5877_5 (by decide) (H_iadd hx dJx4a65c_grow_d5877_6 ?_))))
  rw [nI_add]
  refine H_callV (as := [.int (nI (cap + 1))]) (rest := []) (b := L (4, k)) hx XT_T rfl (c_grow2 hl hk hf hb) trivial (fun H h => h) (fun H h => ⟨_, h.at4⟩) uc_Jx4a65c_grow_92f84 um_Jx4a65c_69 ui_Jx4a65c_grow_92f84 us_Jx4a65c_grow_92f84 un_Jx4a65c ⟨rfl, by decide, by decide, rfl⟩ rfl (by decide) (by decide) (by decide) (by rw [h2]; exact Nat.le_refl _) (by rw [h2]; show 0 + newCap cap ≤ newCap cap; omega) dJx4a65c_grow_d5877_7 (fun v => ?_)
  refine AcH.ex (fun b => ?_)
  refine AcH.pure (P := v = some (.ref b)) (fun hv => ?_) (fun H h => h.1)
  subst hv
  exact H_aret hx hr (Or.inr ⟨_, rfl⟩) dJx4a65c_grow_d5877_10 hkk (by rw [h2]; exact Nat.le_refl _) (by rw [h2]; show 0 + newCap cap ≤ newCap cap; omega) (fun H h => ⟨b, rfl, h.2⟩)
theorem FE.grown (hf : FE L σ f) {n : Nat} : FE L σ (va_cpy f (fun _ => none) 0 0 n) := fun i y hy => by
  unfold va_cpy at hy
  split at hy
  · exact hf _ y hy
  · cases hy
/-- the second half of add: the element is stored, the size counted up -/
theorem add_end {κ : Kx} {n nc ns : Nat} {lc : LcT} {m : Nat} {R' : Option Value → Heap → Prop} (hx : Hx κ cJx4a65c_add_72be8 4 RJx4a65c 5 127) (hr : Hr κ none) (hkk : RtH κ R') (hk : k < 11) (hm : m < σ.2.2.1 0) (hg4 : gA (kg κ) (L (4, k))) (hs : n < cap) (hb : cap < 4000) (hc : nc ≤ (kr κ).1) (hsl : ns ≤ (kr κ).2) (l0 : lc[0]? = some (some (aq (L (4, k))))) (l1 : lc[1]? = some (some (aq (L (6, m))))) (l2 : lc[2]? = some (some (aq a))) (l3 : lc[3]? = some (some (ai (nI n))))
    (hR : ∀ H, LX (kg κ) L σ k mc a cap (va_up f n (some (L (6, m)))) (nI (n + 1)) none H → R' none H) : AcH κ (LX (kg κ) L σ k mc a cap f sz none) nc ns 11 [] lc := by
  refine AcH.pure (P := gA (kg κ) a) (fun hga => ?_) (fun H h => (h.at5 (by omega)).2)
  have z31 : n < 2 ^ 31 := by omega
  refine H_aload_n (i := 2) (t := a) hx dJx4a65c_add_72be8_11 l2 (H_iload_n (i := 3) hx dJx4a65c_add_72be8_12 l3 (H_aload_n (i := 1) (t := L (6, m)) hx dJx4a65c_add_72be8_13 l1 ?_))
  refine H_aast (Rq := LX (kg κ) L σ k mc a cap (va_up f n (some (L (6, m)))) sz none) (ci := 2) (vs := []) hx (fun H h => (h.at5 (by omega)).1) (fun H h => h.at6 hm) rfl fw_msg (vp_in_nI hs (by omega)) hga (fun H H' h h5 hq => h.put5 (by omega) hk (by rw [nI_clamp z31] at h5; exact h5) hq) dJx4a65c_add_72be8_14 ?_
  refine H_aload_n (i := 0) (t := L (4, k)) hx dJx4a65c_add_72be8_15 l0 (H_iload_n (i := 3) hx dJx4a65c_add_72be8_16 l3 (H_iconst (v := nI 1) hx dJx4a65c_add_72be8_17 (by decide) (H_iadd hx dJx4a65c_add_72be8_18 ?_)))
  rw [nI_add]
  exact L_psz hk hx hg4 dJx4a65c_add_72be8_19 (H_vret hx hr dJx4a65c_add_72be8_22 hkk hc hsl hR)
theorem c_add3 (hl : l.stackTraces = false) {n m : Nat} (hk : k < 11) (hf : FE L σ f) (hm : m < σ.2.2.1 0) (hn : n ≤ cap) (hb : cap < 2000) : CtH (fun _ => True) l g yJx4a65c_add_72be8 cJx4a65c_add_72be8 4 none 5 127 (gcc n cap) (gcs n cap) [.ref (L (4, k)), .ref (L (6, m)), .ref a, .int (nI n)] (LX g L σ k mc a cap f (nI n) none) (fun v H => v = none ∧ ∃ b, LX g L σ k mc b (gcap n cap) (va_up (gfn f n cap) n (some (L (6, m)))) (nI (n + 1)) none H) := by
  refine CtH.of (by decide) hl (by simp [Value.category]) (by simp) (fun κ h1 h2 _ hx hr hkk hl9 => ?_)
  subst h1
  subst hl9
  obtain ⟨n1, n2⟩ := newCap_b hb
  refine AcH.pure (P := gA (kg κ) (L (4, k))) (fun hg4 => ?_) (fun H h => h.gA4 hk)
  have hal : ∀ {st lc} {nc ns : Nat}, AcH κ (LX (kg κ) L σ k mc a cap f (nI n) none) nc ns (2 + 1) (ai (nI cap) :: st) lc → AcH κ (LX (kg κ) L σ k mc a cap f (nI n) none) nc ns 2 (aq a :: st) lc := fun {st lc nc ns} kk => by
    by_cases hc : cap = 0
    · rw [hc] at kk ⊢
      exact AcH.pure (P := a = (kg κ).2.2.2) (fun ha => H_alen0 hx ha dJx4a65c_add_72be8_2 kk) (fun H h => h.at13 rfl)
    · exact H_alen (t0 := 3) hx (fun H h => (h.at5 hc).1) rfl dJx4a65c_add_72be8_2 kk
  refine H_iload_n (i := 3) hx dJx4a65c_add_72be8_0 rfl (H_aload_n (i := 2) (t := a) hx dJx4a65c_add_72be8_1 rfl (hal (H_icmp_ne (tgt := 11) hx dJx4a65c_add_72be8_3 (by decide) (fun q => ?_) (fun q => ?_))))
  · have hlt : n < cap := by
      rcases Nat.lt_or_ge n cap with z | z
      · exact z
      · exact absurd (show nI n = nI cap by rw [show n = cap by omega]) q
    have e1 : gcap n cap = cap := if_pos hlt
    have e2 : gfn f n cap = f := if_pos hlt
    rw [e1, e2] at hkk
    exact add_end hx hr hkk hk hm hg4 hlt (by omega) (Nat.zero_le _) (Nat.zero_le _) rfl rfl rfl rfl (fun H h => ⟨rfl, a, h⟩)
  · have heq : n = cap := (nI_eq (by omega) (by omega)).mp q
    have hnl : ¬ n < cap := by omega
    have e1 : gcap n cap = newCap cap := if_neg hnl
    have e2 : gfn f n cap = va_cpy f (fun _ => none) 0 0 cap := if_neg hnl
    have e3 : kr κ = (1, newCap cap) := by rw [h2, show gcc n cap = 1 from if_neg hnl, show gcs n cap = newCap cap from if_neg hnl]
    rw [e1, e2] at hkk
    subst heq
    refine H_aload_n (i := 0) (t := L (4, k)) hx dJx4a65c_add_72be8_6 rfl ?_
    refine H_callV (as := []) (rest := []) (b := L (4, k)) hx XT_T rfl (c_grow1 hl hk hf hb) trivial (fun H h => h) (fun H h => ⟨_, h.at4⟩) uc_Jx4a65c_grow_d5877 um_Jx4a65c_129 ui_Jx4a65c_grow_d5877 us_Jx4a65c_grow_d5877 un_Jx4a65c ⟨rfl, by decide, by decide, rfl⟩ rfl (by decide) (by decide) (by decide) (by rw [e3]; exact Nat.le_refl _) (by rw [e3]; show 0 + newCap n ≤ newCap n; omega) dJx4a65c_add_72be8_7 (fun v => ?_)
    refine AcH.ex (fun b => ?_)
    refine AcH.pure (P := v = some (.ref b)) (fun hv => ?_) (fun H h => h.1)
    subst hv
    refine AcH.mono (fun H h => h.2) ?_
    refine H_astore_n (i := 2) hx dJx4a65c_add_72be8_10 (by show 2 < 4; decide) ?_
    exact add_end hx hr hkk hk hm hg4 n2 (by omega) (by rw [e3]; exact Nat.le_refl _) (by rw [e3]; show 0 + newCap n ≤ newCap n; omega) rfl rfl rfl rfl (fun H h => ⟨rfl, b, h⟩)
end ADD
