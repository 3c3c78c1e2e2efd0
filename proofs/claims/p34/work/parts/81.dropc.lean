/-! pure: what holds between calls: what is dropped -/
section DC
variable {f e : Prop} {σ τ υ : Sg} {m i j k n a b o k2 o2 j2 t B q p s m0 i0 g z d : Nat} {x y : Int32} {l : List Nat}
theorem CA.befR (C : CA σ) (W : WF σ) (ha : a < σ.2.2.1 0) (hb : b < σ.2.2.1 0) (hi : i < 4) (h : bef σ a b = true) (hr : b ∈ σ.2.1 (3 + i)) : a ∈ σ.2.1 (3 + i) := by
  have h1 := ((C.bf W ha hb).mp h).2
  have h2 := C.2.2.2 i b (sdr σ a) hi hr (W.sn4 ha)
  exact (C.mem W hi ha).mpr (by omega)
theorem dp_25m : (S_dp σ m).1 25 a 0 = if a = m then 1 else σ.1 25 a 0 := by
  rw [dp_25, w_ui1]
  simp
theorem flt_mem : a ∈ l.filter (fun x => x != m) ↔ a ∈ l ∧ a ≠ m := by
  rw [List.mem_filter]
  simp
theorem C1.dp (h : C1 σ) (hnr : ∀ i, i < 4 → ¬ σ.1 13 i 0 = 0 → m ∉ σ.2.1 (3 + i)) : C1 (S_dp σ m) := by
  obtain ⟨W, N, L, C, A, T, E⟩ := h
  have hk : ∀ k, k ≠ 25 → k ≠ 27 → k ≠ 30 → k ≠ 24 → k ≠ 23 → (S_dp σ m).1 k = σ.1 k := fun k h1 h2 h3 h4 h5 => dp_k h1 h2 h3 h4 h5
  have hn : (S_dp σ m).2.2.1 0 = σ.2.2.1 0 := by rw [dp_2]
  have et : tk (S_dp σ m) = tk σ := by unfold tk; rw [hk 0 (by decide) (by decide) (by decide) (by decide) (by decide)]
  have h13 : (S_dp σ m).1 13 = σ.1 13 := hk 13 (by decide) (by decide) (by decide) (by decide) (by decide)
  have t4 := W.tk4
  refine ⟨W.dp, N.dp W, fun a b ha hb => ?_, C.of (hk 16 (by decide) (by decide) (by decide) (by decide) (by decide)) (hk 21 (by decide) (by decide) (by decide) (by decide) (by decide)) (hk 22 (by decide) (by decide) (by decide) (by decide) (by decide)) (hk 26 (by decide) (by decide) (by decide) (by decide) (by decide)) (fun b hb => dp_R hb) hn W, fun z a ha hra => ?_, fun z a ha => ?_, fun a ha => ?_⟩
  · rw [hn] at ha
    rw [hk 29 (by decide) (by decide) (by decide) (by decide) (by decide), dp_R hb]
    exact L a b ha hb
  · rw [et, h13] at z
    rw [hn] at ha
    rw [et, dp_R t4] at hra
    have q := A z a ha hra
    rw [N a ha] at q
    have hl := W.len (k := 1) (by decide)
    have q2 : a ∉ σ.2.1 1 := by
      have e := num_neg (a := a) (l := σ.2.1 1) (by omega)
      exact e.mp q
    rw [dp_23 W N ha, num_no (fun z => q2 (flt_mem.mp z).1)]
  · rw [et, h13] at z
    rw [et, dp_R t4] at ha
    rw [dp_L1 W, flt_mem]
    exact ⟨T z a ha, fun c => hnr _ t4 z (c ▸ ha)⟩
  · rw [dp_L1 W, flt_mem] at ha
    rw [dp_25m, if_neg ha.2]
    exact E a ha.1
theorem CI.dp (h : CI False σ B False m0 i0) (hm : m < σ.2.2.1 0) (hnr : ∀ i, i < 4 → ¬ σ.1 13 i 0 = 0 → m ∉ σ.2.1 (3 + i)) : CI False (S_dp σ m) B False m0 i0 := by
  obtain ⟨⟨H1, K, Q, D, X⟩, V, q4, q5, q6, ⟨P, g, hg, eg, A⟩, R, S⟩ := h
  have W := H1.1
  have hk : ∀ k, k ≠ 25 → k ≠ 27 → k ≠ 30 → k ≠ 24 → k ≠ 23 → (S_dp σ m).1 k = σ.1 k := fun k h1 h2 h3 h4 h5 => dp_k h1 h2 h3 h4 h5
  have hn : (S_dp σ m).2.2.1 0 = σ.2.2.1 0 := by rw [dp_2]
  have h13 : (S_dp σ m).1 13 = σ.1 13 := hk 13 (by decide) (by decide) (by decide) (by decide) (by decide)
  have h14 : (S_dp σ m).1 14 = σ.1 14 := hk 14 (by decide) (by decide) (by decide) (by decide) (by decide)
  have h28 : (S_dp σ m).1 28 = σ.1 28 := hk 28 (by decide) (by decide) (by decide) (by decide) (by decide)
  have h1k : (S_dp σ m).1 1 = σ.1 1 := hk 1 (by decide) (by decide) (by decide) (by decide) (by decide)
  have hH : ∀ b, b < 4 → ∀ a ∈ (S_dp σ m).2.1 (7 + b), a ∈ σ.2.1 (7 + b) := fun b hb a ha => by
    rw [dp_H W hb] at ha
    split at ha
    · exact ha
    · exact (flt_mem.mp ha).1
  have hHa : ∀ b, b < 4 → ¬ σ.1 13 b 0 = 0 → ∀ a, a ∈ (S_dp σ m).2.1 (7 + b) ↔ a ∈ σ.2.1 (7 + b) ∧ a ≠ m := fun b hb z a => by
    rw [dp_H W hb, if_neg z, flt_mem]
  have ne0 : ∀ a, (S_dp σ m).1 25 a 0 = 0 → a ≠ m ∧ σ.1 25 a 0 = 0 := fun a q => by
    rw [dp_25m] at q
    by_cases c : a = m
    · rw [if_pos c] at q; exact absurd q (by decide)
    · rw [if_neg c] at q; exact ⟨c, q⟩
  refine ⟨⟨H1.dp hnr, fun q => q.elim, fun q => q.elim, fun b hb a ha => by rw [dp_R hb]; exact D b hb a (hH b hb a ha), fun b hb z a ha => ?_⟩, fun b hb z => by rw [h13] at z; rw [h14]; exact V b hb z, fun a ha hna hd j hj hv => ?_, fun b hb z a ha _ hc => ?_, fun b hb z a ha _ hd hp => ?_, ⟨P.of h28 (hk 12 (by decide) (by decide) (by decide) (by decide) (by decide)) h1k hn, g, hg, by rw [h1k]; exact eg, ?_, ?_⟩, fun b hb z => ?_, by rw [alP_of h13]; exact S⟩
  · rw [h13] at z
    rw [hn] at ha
    by_cases c : a = m
    · subst c
      refine Or.inr (Or.inr (Or.inr ⟨by rw [dp_25m, if_pos rfl], by rw [dp_27, if_pos ⟨rfl, hb⟩], by rw [dp_R hb]; exact hnr b hb z, ?_⟩))
      rw [hHa b hb z]
      exact fun q => q.2 rfl
    · refine (X b hb z a ha).of (by rw [dp_25m, if_neg c]) (by rw [dp_27, if_neg (fun q => c q.1)]) (by rw [dp_R hb]) ?_
      rw [hHa b hb z]
      exact ⟨fun q => q.1, fun q => ⟨q, c⟩⟩
  · rw [hn] at ha
    obtain ⟨c, hd⟩ := ne0 a hd
    rw [h14] at hv
    rw [h28]
    rw [dp_L2 W, flt_mem] at hna
    exact q4 a ha (fun q => hna ⟨q, c⟩) hd j hj hv
  · rw [h13] at z
    rw [hn] at ha
    rw [dp_L2 W, flt_mem]
    rw [dp_27] at hc
    by_cases c : a = m
    · exact fun q => q.2 c
    · rw [if_neg (fun q => c q.1)] at hc
      exact fun q => q5 b hb z a ha (fun q => q.elim) hc q.1
  · rw [h13] at z
    rw [hn] at ha
    obtain ⟨c, hd⟩ := ne0 a hd
    rw [h28] at hp
    rw [dp_R hb, hHa b hb z]
    rcases q6 b hb z a ha (fun q => q.elim) hd hp with q | q
    · exact Or.inl q
    · exact Or.inr ⟨q, c⟩
  · intro a ha
    rw [hn] at ha
    obtain ⟨h1, h2, h3⟩ := A.1 a ha
    have e24 : (S_dp σ m).1 24 a 0 = if a = m then -1 else σ.1 24 a 0 := dp_24
    have eag : ag (S_dp σ m) a = if a = m then 0 else ag σ a := by
      unfold ag
      rw [e24]
      by_cases c : a = m
      · rw [if_pos c, if_pos c, if_pos rfl]
      · rw [if_neg c, if_neg c]
    rw [eag, e24, dp_L2 W, flt_mem]
    by_cases c : a = m
    · rw [if_pos c, if_pos c]
      exact ⟨rfl, Nat.zero_le _, ⟨fun q => absurd c q.2, fun q => absurd rfl q⟩⟩
    · rw [if_neg c, if_neg c]
      exact ⟨h1, h2, by rw [h3]; exact ⟨fun q => q.1, fun q => ⟨q, c⟩⟩⟩
  · rw [dp_L2 W]
    refine (A.2.filter _).imp_of_mem (fun {a b} ha hb q => ?_)
    have e24 : ∀ a, (S_dp σ m).1 24 a 0 = if a = m then -1 else σ.1 24 a 0 := fun a => dp_24
    have eag : ∀ a, a ≠ m → ag (S_dp σ m) a = ag σ a := fun a c => by
      unfold ag
      rw [e24, if_neg c]
    rw [eag a (flt_mem.mp ha).2, eag b (flt_mem.mp hb).2]
    exact q
  · rw [h13] at z
    have := R b hb z
    rw [rdyF] at this ⊢
    intro a ha
    rw [canB_of (hk 26 (by decide) (by decide) (by decide) (by decide) (by decide)) (hk 16 (by decide) (by decide) (by decide) (by decide) (by decide)) (hk 21 (by decide) (by decide) (by decide) (by decide) (by decide))]
    exact this a (hH b hb a ha)
theorem CI.weak (h : CI f σ B e m0 i0) : CI False σ B e m0 i0 := ⟨⟨h.1.1, fun q => q.elim, fun q => q.elim, h.1.2.2.2.1, h.1.2.2.2.2⟩, h.2⟩
/-- what is kept is with someone alive, and follows nothing that is dropped -/
def UD (σ : Sg) (t : Nat) : Prop := ∀ m, m < t → σ.1 25 m 0 = 0 → fI (wsP σ m) 4 < 4 ∧ ∀ d, d < σ.2.2.1 0 → ¬ σ.1 25 d 0 = 0 → bef σ d m = false
theorem dU_ci (h : CI False σ B False m0 i0) : ∀ t, t ≤ σ.2.2.1 0 → CI False (dU σ t).1 B False m0 i0 ∧ UD (dU σ t).1 t ∧ (dU σ t).1.2.2 = σ.2.2 ∧ (dU σ t).1.1 13 = σ.1 13 := by
  intro t
  induction t with
  | zero => intro _; exact ⟨h, fun m hm => absurd hm (Nat.not_lt_zero _), rfl, rfl⟩
  | succ t ih =>
    intro ht
    obtain ⟨I, U, n1, h13⟩ := ih (by omega)
    have nn : (dU σ t).1.2.2.1 0 = σ.2.2.1 0 := by rw [n1]
    have htn : t < (dU σ t).1.2.2.1 0 := by omega
    have Y := I.1
    have W := Y.1.1
    have C := Y.1.2.2.2.1
    rw [dU_s]
    by_cases c : drP (dU σ t).1 t = true
    · rw [if_pos c]
      have c' := c
      unfold drP at c'
      rw [Bool.and_eq_true, decide_eq_true_eq] at c'
      obtain ⟨c1, c2⟩ := c'
      have hnr : ∀ i, i < 4 → ¬ (dU σ t).1.1 13 i 0 = 0 → t ∉ (dU σ t).1.2.1 (3 + i) := by
        intro i hi hal hr
        have hx := Y.2.2.2.2 i hi hal t htn
        have hx2 : (dU σ t).1.1 27 t i = 2 := by
          rcases hx with q | q | q | q
          · exact absurd hr q.2.2.1
          · exact q.2.1
          · exact absurd hr q.2.2.1
          · exact absurd hr q.2.2.1
        rw [Bool.or_eq_true] at c2
        rcases c2 with c2 | c2
        · have : fI (wsP (dU σ t).1 t) 4 < 4 := fI_iff.mpr ⟨i, hi, by unfold wsP; simp [hal, hx2]⟩
          simp [this] at c2
        · obtain ⟨d, hd, hp⟩ := fI_iff.mp (of_decide_eq_true c2)
          unfold fdP at hp
          rw [Bool.and_eq_true, Bool.not_eq_true', decide_eq_false_iff_not] at hp
          have hdr := C.befR W hd htn hi hp.2 hr
          rcases Y.2.2.2.2 i hi hal d hd with q | q | q | q
          · exact hp.1 q.1
          · exact hp.1 q.1
          · exact hp.1 q.1
          · exact q.2.2.1 hdr
      refine ⟨I.dp htn hnr, ?_, dp_2.trans n1, (dp_k (by decide) (by decide) (by decide) (by decide) (by decide)).trans h13⟩
      intro m hm hd
      show fI (wsP (S_dp (dU σ t).1 t) m) 4 < 4 ∧ _
      rw [dp_25m] at hd
      by_cases e : m = t
      · rw [if_pos e] at hd; exact absurd hd (by decide)
      · rw [if_neg e] at hd
        obtain ⟨u1, u2⟩ := U m (by omega) hd
        have ew : wsP (S_dp (dU σ t).1 t) m = wsP (dU σ t).1 m := by
          funext j
          unfold wsP
          rw [dp_I (by decide) (by decide) (by decide) (by decide) (by decide), dp_27, if_neg (fun q => e q.1)]
        rw [ew]
        refine ⟨u1, fun d hdn hdd => ?_⟩
        rw [bef_of (dp_k (by decide) (by decide) (by decide) (by decide) (by decide)) (dp_k (by decide) (by decide) (by decide) (by decide) (by decide))]
        have hdn' : d < (dU σ t).1.2.2.1 0 := by
          have : (S_dp (dU σ t).1 t).2.2.1 0 = (dU σ t).1.2.2.1 0 := by rw [dp_2]
          rw [← this]; exact hdn
        have hdd' : ¬ (if d = t then (1 : Int32) else (dU σ t).1.1 25 d 0) = 0 := by rw [← dp_25m]; exact hdd
        by_cases e2 : d = t
        · by_cases e3 : bef (dU σ t).1 d m = true
          · have := C.bl W d m hdn' (by omega) e3
            omega
          · simpa using e3
        · rw [if_neg e2] at hdd'
          exact u2 d hdn' hdd'
    · rw [if_neg c]
      refine ⟨I, ?_, n1, h13⟩
      intro m hm hd
      by_cases e : m = t
      · subst e
        have c' := c
        unfold drP at c'
        simp only [hd, decide_true, Bool.true_and, Bool.or_eq_true, Bool.not_eq_true', decide_eq_false_iff_not, decide_eq_true_eq, not_or, Classical.not_not] at c'
        refine ⟨c'.1, fun d hdn hdd => ?_⟩
        by_cases e3 : bef (dU σ m).1 d m = true
        · exact absurd (fI_iff.mpr ⟨d, hdn, by unfold fdP; simp [hdd, e3]⟩) c'.2
        · simpa using e3
      · exact U m (by omega) hd
end DC
