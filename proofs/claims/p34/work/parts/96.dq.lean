/-! pure: what is dropped, at all members; all that a flush drops -/
def DQ (σ : Sg) : Prop := ∀ m j, m < σ.2.2.1 0 → j < 4 → (σ.1 27 m j = 4 ↔ ¬ σ.1 25 m 0 = 0)
section DQS
variable {f e : Prop} {σ σ' τ υ : Sg} {A B m i j k a b q n z d p t m0 i0 : Nat} {x y : Int32} {l : List Nat}
theorem DQ.of (h : DQ σ) (h27 : ∀ m j, m < σ.2.2.1 0 → j < 4 → (σ'.1 27 m j = 4 ↔ σ.1 27 m j = 4)) (h25 : ∀ m, m < σ.2.2.1 0 → σ'.1 25 m 0 = σ.1 25 m 0) (hn : σ'.2.2.1 0 = σ.2.2.1 0) : DQ σ' := fun m j hm hj => by
  rw [hn] at hm
  rw [h27 m j hm hj, h25 m hm]
  exact h m j hm hj
theorem DQ.ofk (h : DQ σ) (h27 : σ'.1 27 = σ.1 27) (h25 : σ'.1 25 = σ.1 25) (hn : σ'.2.2.1 0 = σ.2.2.1 0) : DQ σ' := h.of (fun m j _ _ => by rw [h27]) (fun m _ => by rw [h25]) hn
theorem DQ.dl (h : DQ σ) (hd : m < σ.2.2.1 0 → σ.1 25 m 0 = 0) : DQ (S_dl σ m i) := by
  refine h.of (fun a j ha hj => ?_) (fun a _ => by rw [dl_k (by decide) (by decide) (by decide) (by decide) (by decide) (by decide)]) dl_n
  rw [dl_c]
  by_cases c : a = m ∧ j = i
  · rw [if_pos c, c.1, h m j (by rw [← c.1]; exact ha) hj]
    have := hd (by rw [← c.1]; exact ha)
    simp [this]
  · rw [if_neg c]
theorem DQ.itr (h : DQ σ) (Y : CY f σ) (hi : i < 4) (hal : ¬ σ.1 13 i 0 = 0) : ∀ t, (∀ s, s < t → rdy (itr i s σ) i = true) → DQ (itr i t σ) := by
  intro t
  induction t with
  | zero => intro _; exact h
  | succ t ih =>
    intro hr
    have h1 := ih (fun s hs => hr s (by omega))
    obtain ⟨Y1, M1, -⟩ := Y.it1 hi hal t (fun s hs => hr s (by omega))
    have hal2 : ¬ (Jvm.Pilot.@@N@@.itr i t σ).1 13 i 0 = 0 := by rw [itr_I (by decide) (by decide) (by decide) (by decide) (by decide) (by decide)]; exact hal
    have r := hr t (by omega)
    obtain ⟨q1, q2, q3, q4, q5, q6, q7⟩ := stp_ok (Y1.ph hi) hi r
    have hd : (Jvm.Pilot.@@N@@.itr i t σ).1 25 (hM (Jvm.Pilot.@@N@@.itr i t σ) i) 0 = 0 := by
      rcases Y1.2.2.2.2 i hi hal2 _ q4 with q | q | q | q
      · exact q.1
      · exact q.1
      · exact q.1
      · exact absurd q5 q.2.2.2
    show DQ (stp (Jvm.Pilot.@@N@@.itr i t σ) i)
    unfold stp
    refine DQ.dl (h1.ofk (lrem_k (by decide)) (lrem_k (by decide)) rfl) (fun _ => ?_)
    rw [lrem_I (by decide)]
    exact hd
theorem DQ.tI (h : DQ σ) (Y : CY f σ) (hi : i < 4) (hal : ¬ σ.1 13 i 0 = 0) (hm : m < σ.2.2.1 0) (hc : σ.1 27 m i = 0 ∨ σ.1 27 m i = 3) (hq : rdy σ i = false) : DQ (S_tI σ m i) := by
  have hd : σ.1 25 m 0 = 0 := by
    have := h m i hm hi
    rcases hc with z | z <;> rw [z] at this <;> simpa using this
  have hx2 : m ∉ σ.2.1 (3 + i) ∧ m ∉ σ.2.1 (7 + i) := by
    rcases Y.2.2.2.2 i hi hal m hm with q | q | q | q
    · exact ⟨q.2.2.1, q.2.2.2⟩
    · rw [q.2.1] at hc; rcases hc with z | z <;> exact absurd z (by decide)
    · rw [q.2.1] at hc; rcases hc with z | z <;> exact absurd z (by decide)
    · rw [q.2.1] at hc; rcases hc with z | z <;> exact absurd z (by decide)
  unfold S_tI
  by_cases c : canB σ m i = true
  · rw [if_pos c]
    have h1 := dlX Y.1 Y.2.1 Y.2.2.1 Y.2.2.2.1 (fun b hb z a ha _ => Y.2.2.2.2 b hb z a ha) hm hi hx2.1 hx2.2 hd c
    have hal2 : ¬ (S_dl σ m i).1 13 i 0 = 0 := by rw [dl_I (by decide) (by decide) (by decide) (by decide) (by decide) (by decide)]; exact hal
    exact (h.dl (fun _ => hd)).itr h1 hi hal2 _ (fun s hs => hT_rdy hs)
  · rw [if_neg c]
    refine h.of (fun a j ha hj => ?_) (fun a _ => by rw [ladd_I (by decide), upI_n (by decide)]) ladd_n
    rw [ladd_I (by decide), w_ui1]
    by_cases c2 : a = m ∧ j = i
    · rw [if_pos ⟨rfl, c2.1, c2.2⟩, c2.1, h m j hm hj]
      simp [hd]
    · rw [if_neg (fun q => c2 q.2)]
theorem DQ.pr (h : DQ σ) : DQ (S_pr σ m i) := h.ofk (pr_k (by decide) (by decide) (by decide) (by decide) (by decide)) (pr_k (by decide) (by decide) (by decide) (by decide) (by decide)) pr_n
theorem DQ.gT (h : DQ σ) (hn : (S_gT σ i).2.2.1 0 = σ.2.2.1 0) : DQ (S_gT σ i) := h.ofk (gT_k (by decide) (by decide) (by decide) (by decide)) (gT_k (by decide) (by decide) (by decide) (by decide)) hn
theorem DQ.wc (h : DQ σ) (hc : σ.1 27 m i = 0 ∨ σ.1 27 m i = 3) (hx : x = 0 ∨ x = 3) : DQ (upI σ 27 m i x) := by
  refine h.of (fun a j ha hj => ?_) (fun a _ => by rw [upI_n (by decide)]) rfl
  rw [w_ui1]
  by_cases c : a = m ∧ j = i
  · obtain ⟨rfl, rfl⟩ := c
    rw [if_pos ⟨rfl, rfl, rfl⟩]
    rcases hc with z | z <;> rcases hx with y | y <;> rw [z, y] <;> decide
  · rw [if_neg (fun q => c q.2)]
theorem DQ.snd (h : DQ σ) (hi : i < 4) : DQ (S_sd σ i) := by
  have n4 : (sd4 σ i).2.2.1 0 = σ.2.2.1 0 + 1 := by
    show (sd3 σ i).2.2.1 0 = _
    unfold sd3
    rw [dl_n, sd2_n]
  refine DQ.pr (fun a j ha hj => ?_)
  rw [n4] at ha
  by_cases c : a = σ.2.2.1 0
  · rw [c, sd4_27 hj, sd4_new hi (by decide) (by decide) (by decide) (by decide) (by decide) (by decide), nm_v25]
    by_cases d : j = i
    · rw [if_pos d]; decide
    · rw [if_neg d]
      split <;> decide
  · rw [sd4_old (by decide) (by decide) (by decide) (by decide) (Or.inl c), sd4_old (by decide) (by decide) (by decide) (by decide) (Or.inl c)]
    exact h a j (by omega) hj
theorem DQ.u (h : DQ σ) {k o j : Nat} (h1 : k ≠ 27) (h2 : k ≠ 25) : DQ (upI σ k o j x) := h.ofk (upI_k (Ne.symm h1)) (upI_k (Ne.symm h2)) rfl
theorem lI_DQ (h : DQ σ) (I : CI f σ B False m0 i0) (hi : i < 4) (hal : ¬ σ.1 13 i 0 = 0) : ∀ t, t ≤ σ.2.2.1 0 → DQ (lI i σ t) := by
  intro t
  induction t with
  | zero => intro _; exact h
  | succ t ih =>
    intro ht
    have h1 := ih (by omega)
    obtain ⟨I1, M1, -⟩ := lI_ci I hi hal t (by omega)
    rw [lI_s]
    split
    · rename_i c
      obtain ⟨a1, a2⟩ := laP_t c
      exact h1.tI I1.1 hi a1 (by rw [M1.1]; omega) a2 (I1.2.2.2.2.2.2.1 i hi a1)
    · exact h1
theorem lO_DQ (h : DQ σ) (I : CI f σ B False m0 i0) : ∀ t, t ≤ 4 → DQ (lO σ t) := by
  intro t
  induction t with
  | zero => intro _; exact h
  | succ t ih =>
    intro ht
    have h1 := ih (by omega)
    obtain ⟨I1, M1, -⟩ := lO_ci I t (by omega)
    rw [lO_s]
    by_cases hal : (lO σ t).1 13 t 0 = 0
    · rw [lI_dead hal]; exact h1
    · exact lI_DQ h1 I1 (by omega) hal _ (by rw [M1.1]; exact Nat.le_refl _)
/-- what is dropped by this flush -/
def ndB (σ : Sg) (a : Nat) : Bool := drP (dU σ a).1 a
theorem dU_k (h : k ≠ 25) (h1 : k ≠ 27) (h2 : k ≠ 30) (h3 : k ≠ 24) (h4 : k ≠ 23) : ∀ t, (dU σ t).1.1 k = σ.1 k := by
  intro t
  induction t with
  | zero => rfl
  | succ t ih =>
    rw [dU_s]
    split
    · exact (dp_k h h1 h2 h3 h4).trans ih
    · exact ih
theorem dU_R (hj : j < 4) : ∀ t, (dU σ t).1.2.1 (3 + j) = σ.2.1 (3 + j) := by
  intro t
  induction t with
  | zero => rfl
  | succ t ih =>
    rw [dU_s]
    split
    · exact (dp_R hj).trans ih
    · exact ih
theorem dU_25 : ∀ t, (dU σ t).1.1 25 a 0 = if a < t ∧ ndB σ a = true then 1 else σ.1 25 a 0 := by
  intro t
  induction t with
  | zero => rw [if_neg (by omega)]; rfl
  | succ t ih =>
    rw [dU_s]
    by_cases c : drP (dU σ t).1 t = true
    · rw [if_pos c]
      show (S_dp (dU σ t).1 t).1 25 a 0 = _
      rw [dp_25m]
      by_cases d : a = t
      · rw [if_pos d, d, if_pos ⟨by omega, c⟩]
      · rw [if_neg d, ih]
        by_cases e : a < t ∧ ndB σ a = true
        · rw [if_pos e, if_pos ⟨by omega, e.2⟩]
        · rw [if_neg e, if_neg (fun q => e ⟨by omega, q.2⟩)]
    · rw [if_neg c, ih]
      by_cases e : a < t ∧ ndB σ a = true
      · rw [if_pos e, if_pos ⟨by omega, e.2⟩]
      · rw [if_neg e, if_neg]
        rintro ⟨q1, q2⟩
        by_cases d : a = t
        · rw [d] at q2; exact c q2
        · exact e ⟨by omega, q2⟩
theorem dU_27 (hj : j < 4) : ∀ t, (dU σ t).1.1 27 a j = if a < t ∧ ndB σ a = true then 4 else σ.1 27 a j := by
  intro t
  induction t with
  | zero => rw [if_neg (by omega)]; rfl
  | succ t ih =>
    rw [dU_s]
    by_cases c : drP (dU σ t).1 t = true
    · rw [if_pos c]
      show (S_dp (dU σ t).1 t).1 27 a j = _
      rw [dp_27]
      by_cases d : a = t
      · rw [if_pos ⟨d, hj⟩, d, if_pos ⟨by omega, c⟩]
      · rw [if_neg (fun q => d q.1), ih]
        by_cases e : a < t ∧ ndB σ a = true
        · rw [if_pos e, if_pos ⟨by omega, e.2⟩]
        · rw [if_neg e, if_neg (fun q => e ⟨by omega, q.2⟩)]
    · rw [if_neg c, ih]
      by_cases e : a < t ∧ ndB σ a = true
      · rw [if_pos e, if_pos ⟨by omega, e.2⟩]
      · rw [if_neg e, if_neg]
        rintro ⟨q1, q2⟩
        by_cases d : a = t
        · rw [d] at q2; exact c q2
        · exact e ⟨by omega, q2⟩
theorem dU_24 : ∀ t, (dU σ t).1.1 24 a 0 = if a < t ∧ ndB σ a = true then -1 else σ.1 24 a 0 := by
  intro t
  induction t with
  | zero => rw [if_neg (by omega)]; rfl
  | succ t ih =>
    rw [dU_s]
    by_cases c : drP (dU σ t).1 t = true
    · rw [if_pos c]
      show (S_dp (dU σ t).1 t).1 24 a 0 = _
      rw [dp_24]
      by_cases d : a = t
      · rw [if_pos d, d, if_pos ⟨by omega, c⟩]
      · rw [if_neg d, ih]
        by_cases e : a < t ∧ ndB σ a = true
        · rw [if_pos e, if_pos ⟨by omega, e.2⟩]
        · rw [if_neg e, if_neg (fun q => e ⟨by omega, q.2⟩)]
    · rw [if_neg c, ih]
      by_cases e : a < t ∧ ndB σ a = true
      · rw [if_pos e, if_pos ⟨by omega, e.2⟩]
      · rw [if_neg e, if_neg]
        rintro ⟨q1, q2⟩
        by_cases d : a = t
        · rw [d] at q2; exact c q2
        · exact e ⟨by omega, q2⟩
def kpB (σ : Sg) (t a : Nat) : Bool := !(decide (a < t) && ndB σ a)
theorem kp_s : kpB σ (t + 1) a = (kpB σ t a && !(decide (a = t) && ndB σ t)) := by
  unfold kpB
  by_cases c : a = t
  · subst c; simp
  · have : (a < t + 1) = (a < t) := by rw [eq_iff_iff]; omega
    simp [c, this]
theorem flt_kp (l : List Nat) : l.filter (kpB σ (t + 1)) = if ndB σ t = true then (l.filter (kpB σ t)).filter (fun x => x != t) else l.filter (kpB σ t) := by
  by_cases c : ndB σ t = true
  · rw [if_pos c, List.filter_filter]
    refine List.filter_congr fun a _ => ?_
    rw [kp_s, c]
    by_cases d : a = t <;> simp [d]
  · rw [if_neg c]
    refine List.filter_congr fun a _ => ?_
    rw [kp_s]
    simp [show ndB σ t = false by simpa using c]
theorem flt_0 (l : List Nat) : l.filter (kpB σ 0) = l := by
  rw [List.filter_eq_self]
  intro a _
  simp [kpB]
theorem dU_L1 (W : WF σ) : ∀ t, (dU σ t).1.2.1 1 = (σ.2.1 1).filter (kpB σ t) := by
  intro t
  induction t with
  | zero => rw [flt_0]; rfl
  | succ t ih =>
    rw [dU_s, flt_kp]
    by_cases c : drP (dU σ t).1 t = true
    · rw [if_pos c, if_pos (show ndB σ t = true from c), ← ih]
      exact dp_L1 (dU_ok W t).1
    · rw [if_neg c, if_neg (show ¬ ndB σ t = true from c), ih]
theorem dU_H (W : WF σ) (hj : j < 4) : ∀ t, (dU σ t).1.2.1 (7 + j) = if σ.1 13 j 0 = 0 then σ.2.1 (7 + j) else (σ.2.1 (7 + j)).filter (kpB σ t) := by
  intro t
  induction t with
  | zero => rw [flt_0]; split <;> rfl
  | succ t ih =>
    rw [dU_s, flt_kp]
    by_cases c : drP (dU σ t).1 t = true
    · rw [if_pos c, if_pos (show ndB σ t = true from c)]
      show (S_dp (dU σ t).1 t).2.1 (7 + j) = _
      rw [dp_H (dU_ok W t).1 hj, dU_k (by decide) (by decide) (by decide) (by decide) (by decide), ih]
      by_cases d : σ.1 13 j 0 = 0
      · rw [if_pos d, if_pos d, if_pos d]
      · rw [if_neg d, if_neg d, if_neg d]
    · rw [if_neg c, if_neg (show ¬ ndB σ t = true from c), ih]
theorem DQ.dU (h : DQ σ) (W : WF σ) (t : Nat) : DQ (dU σ t).1 := fun a j ha hj => by
  rw [(dU_ok W t).2.1] at ha
  rw [dU_27 hj, dU_25]
  by_cases c : a < t ∧ ndB σ a = true
  · rw [if_pos c, if_pos c]; decide
  · rw [if_neg c, if_neg c]; exact h a j ha hj
theorem dU_cnt : ∀ t, (dU σ t).2 = ((List.range t).filter (ndB σ)).length := by
  intro t
  induction t with
  | zero => rfl
  | succ t ih =>
    rw [dU_s, List.range_succ, List.filter_append, List.length_append, ← ih]
    by_cases c : drP (Jvm.Pilot.@@N@@.dU σ t).1 t = true
    · rw [if_pos c, List.filter_cons_of_pos (show ndB σ t = true from c)]
      rfl
    · rw [if_neg c, List.filter_cons_of_neg (show ¬ ndB σ t = true from c)]
      rfl
end DQS
