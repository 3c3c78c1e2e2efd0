/-! pure: the order of causes: what clocks and stamps count -/
def cnt (σ : Sg) (l : List Nat) (k : Nat) : Nat := (l.filter (fun a => decide (sdr σ a = k))).length
def sq (σ : Sg) (m : Nat) : Nat := cnt σ (List.range (m + 1)) (sdr σ m)
def hst (σ : Sg) (m : Nat) : Nat := (σ.1 22 m 0).toNatClampNeg
def stN (σ : Sg) (m k : Nat) : Nat := cnt σ ((σ.2.1 (3 + sdr σ m)).take (hst σ m + 1)) k
def CA (σ : Sg) : Prop :=
  (∀ i k, i < 4 → k < 4 → σ.1 16 i k = nI (cnt σ (σ.2.1 (3 + i)) k))
  ∧ (∀ i p, i < 4 → p < (σ.2.1 (3 + i)).length → sq σ ((σ.2.1 (3 + i)).getD p 0) = cnt σ ((σ.2.1 (3 + i)).take p) (sdr σ ((σ.2.1 (3 + i)).getD p 0)) + 1)
  ∧ (∀ m, m < σ.2.2.1 0 → σ.1 22 m 0 = nI (hst σ m) ∧ hst σ m < (σ.2.1 (3 + sdr σ m)).length ∧ (σ.2.1 (3 + sdr σ m)).getD (hst σ m) 0 = m ∧ (∀ k, k < 4 → σ.1 26 m k = nI (stN σ m k)) ∧ ∀ x ∈ (σ.2.1 (3 + sdr σ m)).take (hst σ m), x < m)
  ∧ ∀ i m k, i < 4 → m ∈ σ.2.1 (3 + i) → k < 4 → stN σ m k ≤ cnt σ (σ.2.1 (3 + i)) k
section CS
variable {σ τ υ : Sg} {m i j k n a b o k2 o2 j2 t B q p s : Nat} {x y : Int32} {l : List Nat}
theorem cnt_app : cnt σ (l ++ [m]) k = cnt σ l k + if sdr σ m = k then 1 else 0 := by
  unfold cnt
  rw [List.filter_append, List.length_append]
  by_cases c : sdr σ m = k
  · rw [if_pos c, List.filter_cons_of_pos (by simpa using c)]; rfl
  · rw [if_neg c, List.filter_cons_of_neg (by simpa using c)]; rfl
theorem cnt_s (h : p < l.length) : cnt σ (l.take (p + 1)) k = cnt σ (l.take p) k + if sdr σ (l.getD p 0) = k then 1 else 0 := by
  rw [take_sn h, cnt_app]
theorem cnt_le : cnt σ l k ≤ l.length := List.length_filter_le _ _
theorem cnt_mono : ∀ d, cnt σ (l.take p) k ≤ cnt σ (l.take (p + d)) k := by
  intro d
  induction d with
  | zero => exact Nat.le_refl _
  | succ d ih =>
    by_cases h : p + d < l.length
    · rw [← Nat.add_assoc, cnt_s h]; omega
    · rw [List.take_of_length_le (i := p + (d + 1)) (by omega)]
      rw [List.take_of_length_le (i := p + d) (by omega)] at ih
      exact ih
theorem cnt_tle (h : p ≤ q) : cnt σ (l.take p) k ≤ cnt σ (l.take q) k := by
  have := cnt_mono (σ := σ) (l := l) (p := p) (k := k) (q - p)
  rwa [show p + (q - p) = q by omega] at this
theorem cnt_tl : cnt σ (l.take p) k ≤ cnt σ l k := by
  by_cases h : p ≤ l.length
  · have := cnt_tle (σ := σ) (l := l) (k := k) h
    rwa [List.take_length] at this
  · rw [List.take_of_length_le (by omega)]; exact Nat.le_refl _
theorem cnt_ivt : ∀ p, p ≤ l.length → ∀ s, s < cnt σ (l.take p) k → ∃ r, r < p ∧ sdr σ (l.getD r 0) = k ∧ cnt σ (l.take r) k = s := by
  intro p
  induction p with
  | zero => intro _ s h; simp [cnt] at h
  | succ p ih =>
    intro hp s h
    rw [cnt_s (by omega)] at h
    by_cases c : s < cnt σ (l.take p) k
    · obtain ⟨r, r1, r2, r3⟩ := ih (by omega) s c
      exact ⟨r, by omega, r2, r3⟩
    · by_cases d : sdr σ (l.getD p 0) = k
      · rw [if_pos d] at h
        exact ⟨p, by omega, d, by omega⟩
      · rw [if_neg d] at h
        omega
theorem sq_inj (h : sdr σ a = sdr σ b) (e : sq σ a = sq σ b) : a = b := by
  have key : ∀ a b, a < b → sdr σ a = sdr σ b → sq σ a < sq σ b := fun a b hab hs => by
    unfold sq
    rw [hs]
    have h1 : List.range (b + 1) = List.range b ++ [b] := List.range_succ
    have h2 : (List.range b).take (a + 1) = List.range (a + 1) := by rw [List.take_range]; congr 1; omega
    have h3 := cnt_tl (σ := σ) (l := List.range b) (p := a + 1) (k := sdr σ b)
    rw [h2] at h3
    rw [h1, cnt_app, if_pos rfl]
    omega
  rcases Nat.lt_trichotomy a b with q | q | q
  · have := key a b q h; omega
  · exact q
  · have := key b a q h.symm; omega
theorem CA.sq_st (C : CA σ) (W : WF σ) (hm : m < σ.2.2.1 0) : stN σ m (sdr σ m) = sq σ m := by
  obtain ⟨h1, h2, h3, h4, h5⟩ := C.2.2.1 m hm
  have := C.2.1 (sdr σ m) (hst σ m) (W.sn4 hm) h2
  rw [h3] at this
  unfold stN
  rw [cnt_s h2, h3, if_pos rfl, this]
theorem CA.pos (C : CA σ) (W : WF σ) (hi : i < 4) (hm : m < σ.2.2.1 0) (hp : p ≤ (σ.2.1 (3 + i)).length) : m ∈ (σ.2.1 (3 + i)).take p ↔ sq σ m ≤ cnt σ ((σ.2.1 (3 + i)).take p) (sdr σ m) := by
  constructor
  · intro h
    rw [List.mem_take_iff_getElem] at h
    obtain ⟨r, hr, e⟩ := h
    have hr2 : r < (σ.2.1 (3 + i)).length := by omega
    have e2 : (σ.2.1 (3 + i)).getD r 0 = m := by rw [List.getD_eq_getElem?_getD, List.getElem?_eq_getElem hr2]; exact e
    have h1 := C.2.1 i r hi hr2
    rw [e2] at h1
    have h2 := cnt_s (σ := σ) (k := sdr σ m) hr2
    rw [e2, if_pos rfl] at h2
    have h3 := cnt_tle (σ := σ) (l := σ.2.1 (3 + i)) (k := sdr σ m) (show r + 1 ≤ p by omega)
    omega
  · intro h
    have hpos : 0 < sq σ m := by rw [← C.sq_st W hm]; unfold stN; obtain ⟨h1, h2, h3, h4, h5⟩ := C.2.2.1 m hm; rw [cnt_s h2, h3, if_pos rfl]; omega
    obtain ⟨r, r1, r2, r3⟩ := cnt_ivt (σ := σ) (l := σ.2.1 (3 + i)) (k := sdr σ m) p hp (sq σ m - 1) (by omega)
    have hr2 : r < (σ.2.1 (3 + i)).length := by omega
    have h1 := C.2.1 i r hi hr2
    rw [r2, r3] at h1
    have e : (σ.2.1 (3 + i)).getD r 0 = m := sq_inj r2 (by omega)
    rw [← e, List.mem_take_iff_getElem]
    refine ⟨r, by omega, ?_⟩
    rw [List.getD_eq_getElem?_getD, List.getElem?_eq_getElem hr2]
    rfl
theorem CA.mem (C : CA σ) (W : WF σ) (hi : i < 4) (hm : m < σ.2.2.1 0) : m ∈ σ.2.1 (3 + i) ↔ sq σ m ≤ cnt σ (σ.2.1 (3 + i)) (sdr σ m) := by
  have := C.pos W hi hm (Nat.le_refl _)
  rwa [List.take_length] at this
theorem CA.st48 (C : CA σ) (W : WF σ) (hm : m < σ.2.2.1 0) : stN σ m k ≤ 48 := by
  unfold stN
  have h1 := cnt_le (σ := σ) (l := (σ.2.1 (3 + sdr σ m)).take (hst σ m + 1)) (k := k)
  have h2 := W.len (k := 3 + sdr σ m) (by have := W.sn4 hm; omega)
  rw [List.length_take] at h1
  omega
theorem CA.bf (C : CA σ) (W : WF σ) (ha : a < σ.2.2.1 0) (hb : b < σ.2.2.1 0) : bef σ a b = true ↔ a ≠ b ∧ sq σ a ≤ stN σ b (sdr σ a) := by
  have h4 := W.sn4 ha
  have e1 := (C.2.2.1 a ha).2.2.2.1 _ h4
  have e2 := (C.2.2.1 b hb).2.2.2.1 _ h4
  have b1 := C.st48 W ha (k := sdr σ a)
  have b2 := C.st48 W hb (k := sdr σ a)
  unfold bef
  rw [e1, e2, Bool.and_eq_true, decide_eq_true_eq, nI_leI (by omega) (by omega), C.sq_st W ha]
  simp
theorem CA.inH (C : CA σ) (W : WF σ) (ha : a < σ.2.2.1 0) (hb : b < σ.2.2.1 0) : bef σ a b = true ↔ a ∈ (σ.2.1 (3 + sdr σ b)).take (hst σ b) := by
  obtain ⟨h1, h2, h3, h4, h5⟩ := C.2.2.1 b hb
  have hs := W.sn4 hb
  have hnd := W.nd (k := 3 + sdr σ b) (by omega)
  rw [C.bf W ha hb]
  have e := C.pos W hs ha (p := hst σ b + 1) (by omega)
  have e2 : (σ.2.1 (3 + sdr σ b)).take (hst σ b + 1) = (σ.2.1 (3 + sdr σ b)).take (hst σ b) ++ [b] := by rw [take_sn h2, h3]
  constructor
  · rintro ⟨q1, q2⟩
    have := e.mpr q2
    rw [e2] at this
    rcases List.mem_append.mp this with z | z
    · exact z
    · simp only [List.mem_singleton] at z
      exact absurd z q1
  · intro q
    refine ⟨fun z => ?_, e.mp (by rw [e2]; exact List.mem_append_left _ q)⟩
    subst z
    exact Nat.lt_irrefl _ (h5 a q)
theorem CA.bl (C : CA σ) (W : WF σ) : BL σ := fun a b ha hb h => (C.2.2.1 b hb).2.2.2.2 a ((C.inH W ha hb).mp h)
theorem mem_take_idx (hn : l.Nodup) (h : a ∈ l) : a ∈ l.take p ↔ l.idxOf a < p := by
  have hi := List.idxOf_lt_length_of_mem h
  rw [List.mem_take_iff_getElem]
  constructor
  · rintro ⟨r, hr, e⟩
    have hr2 : r < l.length := by omega
    have : l.idxOf a = r := by rw [← e]; exact hn.idxOf_getElem r hr2
    omega
  · intro q
    exact ⟨l.idxOf a, by omega, List.getElem_idxOf hi⟩
theorem CA.hist (C : CA σ) (L : PL σ) (W : WF σ) (ha : a < σ.2.2.1 0) (hb : b < σ.2.2.1 0) : (¬ σ.1 29 a (sdr σ b) = -1 ∧ σ.1 29 a (sdr σ b) < σ.1 22 b 0) ↔ bef σ a b = true := by
  obtain ⟨h1, h2, h3, h4, h5⟩ := C.2.2.1 b hb
  have hs := W.sn4 hb
  have hl := W.len (k := 3 + sdr σ b) (by omega)
  have hnd := W.nd (k := 3 + sdr σ b) (by omega)
  rw [C.inH W ha hb, L a _ ha hs, h1]
  by_cases c : a ∈ σ.2.1 (3 + sdr σ b)
  · have hi := List.idxOf_lt_length_of_mem c
    rw [num_in c, n_neg (by omega), mem_take_idx hnd c, nI_ltI (by omega) (by omega)]
    simp
  · rw [num_no c]
    constructor
    · intro q; exact absurd rfl q.1
    · intro q; exact absurd (List.mem_of_mem_take q) c
/-- what can be received, by the counts -/
theorem CA.can (C : CA σ) (W : WF σ) (hm : m < σ.2.2.1 0) (hi : i < 4) : canB σ m i = true ↔ stN σ m (sdr σ m) = cnt σ (σ.2.1 (3 + i)) (sdr σ m) + 1 ∧ ∀ j, j < 4 → j ≠ sdr σ m → stN σ m j ≤ cnt σ (σ.2.1 (3 + i)) j := by
  have h4 := W.sn4 hm
  have hl := W.len (k := 3 + i) (by omega)
  have cc : ∀ j, cnt σ (σ.2.1 (3 + i)) j ≤ 48 := fun j => Nat.le_trans cnt_le hl
  have key : ∀ j, j < 4 → (cR σ m i j = true ↔ if j = sdr σ m then ¬ stN σ m j = cnt σ (σ.2.1 (3 + i)) j + 1 else ¬ stN σ m j ≤ cnt σ (σ.2.1 (3 + i)) j) := fun j hj => by
    have e1 := (C.2.2.1 m hm).2.2.2.1 j hj
    have e2 := C.1 i j hi hj
    have b1 := C.st48 W hm (k := j)
    have b2 := cc j
    unfold cR
    rw [e1, e2, n_ad1]
    by_cases c : j = sdr σ m
    · have e := n_eq (a := stN σ m j) (b := cnt σ (σ.2.1 (3 + i)) j + 1) (by omega) (by omega)
      rw [if_pos c, if_pos c]
      simp [e]
    · have e := n_lt (a := cnt σ (σ.2.1 (3 + i)) j) (b := stN σ m j) (by omega) (by omega)
      rw [if_neg c, if_neg c]
      simp [e]
  unfold canB
  simp only [Bool.not_eq_true', decide_eq_false_iff_not, fI_iff]
  constructor
  · intro h
    have h' : ∀ j, j < 4 → ¬ cR σ m i j = true := fun j hj q => h ⟨j, hj, q⟩
    refine ⟨?_, fun j hj hne => ?_⟩
    · have := h' (sdr σ m) h4
      rw [key _ h4, if_pos rfl] at this
      exact Classical.not_not.mp this
    · have := h' j hj
      rw [key _ hj, if_neg hne] at this
      exact Classical.not_not.mp this
  · rintro ⟨h1, h2⟩ ⟨j, hj, q⟩
    rw [key j hj] at q
    by_cases c : j = sdr σ m
    · rw [if_pos c, c] at q
      exact q h1
    · rw [if_neg c] at q
      exact q (h2 j hj c)
/-- two states with the same causes -/
theorem CA.of {σ' : Sg} (C : CA σ) (h16 : σ'.1 16 = σ.1 16) (h21 : σ'.1 21 = σ.1 21) (h22 : σ'.1 22 = σ.1 22) (h26 : σ'.1 26 = σ.1 26) (hR : ∀ i, i < 4 → σ'.2.1 (3 + i) = σ.2.1 (3 + i)) (hn : σ'.2.2.1 0 = σ.2.2.1 0) (W : WF σ) : CA σ' := by
  have es : ∀ a, sdr σ' a = sdr σ a := fun a => sdr_of h21
  have ec : ∀ l k, cnt σ' l k = cnt σ l k := fun l k => by
    unfold cnt
    congr 1
    congr 1
    funext a
    rw [es]
  have eh : ∀ a, hst σ' a = hst σ a := fun a => by unfold hst; rw [h22]
  have eq : ∀ a, sq σ' a = sq σ a := fun a => by unfold sq; rw [ec, es]
  have e4 : ∀ m, m < σ.2.2.1 0 → ∀ k, stN σ' m k = stN σ m k := fun m hm k => by unfold stN; rw [ec, eh, es, hR _ (W.sn4 hm)]
  refine ⟨fun i k hi hk => ?_, fun i p hi hp => ?_, fun m hm => ?_, fun i m k hi hm hk => ?_⟩
  · rw [h16, hR i hi, ec]; exact C.1 i k hi hk
  · rw [hR i hi] at hp ⊢
    rw [eq, ec, es]
    exact C.2.1 i p hi hp
  · rw [hn] at hm
    obtain ⟨h1, h2, h3, h4, h5⟩ := C.2.2.1 m hm
    rw [h22, eh, es, hR _ (W.sn4 hm), h26]
    exact ⟨h1, h2, h3, fun k hk => by rw [e4 m hm]; exact h4 k hk, h5⟩
  · rw [hR i hi] at hm ⊢
    rw [e4 m (W.el (by omega) hm), ec]
    exact C.2.2.2 i m k hi hm hk
end CS
