/-! a list taken out of the abstract state: its fields and its array by themselves, the rest as it was; beside them an array that belongs to nobody -/
abbrev Sp : Type := Option (Nat × Nat × (Nat → Option Nat))
abbrev qa (g : Gx) (n : Nat) (f : Nat → Option Nat) : va_E := .inl (g.2.1 3, n, .inr (.inr (.inr (.inr f))))
def LX (g : Gx) (L : Tg → Nat) (σ : Sg) (k : Nat) (mc : Int32) (a cap : Nat) (f : Nat → Option Nat) (sz : Int32) (sp : Sp) (H : Heap) : Prop := ∃ L' : Tg → Nat,
  (∀ t : Tg, t.1 ≠ 5 → L' t = L t) ∧ (∀ t : Tg, vld σ t = true → t ≠ (4, k) → t ≠ (5, k) → va_at g.1 vwCl (L' t, cellOf L' g.2.1 σ t) H)
  ∧ va_at g.1 vwCl (L (4, k), .inr (0, [.int mc, .ref a, .int sz])) H
  ∧ (cap = 0 → a = g.2.2.2) ∧ (cap ≠ 0 → va_at g.1 vwCl (a, qa g cap f) H ∧ gA g a ∧ ∀ t : Tg, vld σ t = true → t ≠ (5, k) → L' t ≠ a)
  ∧ (∀ t u : Tg, vld σ t = true → vld σ u = true → t ≠ (5, k) → u ≠ (5, k) → L' t = L' u → t = u)
  ∧ (∀ t : Tg, vld σ t = true → t ≠ (5, k) → t.1 ≠ 13 → gA g (L' t)) ∧ L' (13, 0) = g.2.2.2
  ∧ (∀ x, sp = some x → va_at g.1 vwCl (x.1, qa g x.2.1 x.2.2) H ∧ gA g x.1 ∧ (cap ≠ 0 → a ≠ x.1) ∧ ∀ t : Tg, vld σ t = true → t ≠ (5, k) → L' t ≠ x.1)
  ∧ ∀ k', k' < 11 → k' ≠ k → (σ.2.1 k').length ≤ σ.2.2.1 (10 + k') ∧ ∀ x ∈ σ.2.1 k', x < σ.2.2.1 0
/-- what the elements are -/
def FE (L : Tg → Nat) (σ : Sg) (f : Nat → Option Nat) : Prop := ∀ i y, f i = some y → ∃ m, m < σ.2.2.1 0 ∧ y = L (6, m)
def lf (L : Tg → Nat) (l : List Nat) : Nat → Option Nat := fun j => (l[j]?).map (fun m => L (6, m))
theorem vld4 {σ : Sg} {k : Nat} (hk : k < 11) : vld σ (4, k) = true := by simp [vld]; exact hk
section LXS
variable {g : Gx} {L : Tg → Nat} {σ : Sg} {k : Nat} {mc : Int32} {a cap : Nat} {f : Nat → Option Nat} {sz : Int32} {sp : Sp} {H H' : Heap}
theorem LX.at4 (h : LX g L σ k mc a cap f sz sp H) : va_at g.1 vwCl (L (4, k), .inr (0, [.int mc, .ref a, .int sz])) H := by
  obtain ⟨L', h1, h2, h3, -⟩ := h
  exact h3
theorem LX.gA4 (hk : k < 11) (h : LX g L σ k mc a cap f sz sp H) : gA g (L (4, k)) := by
  obtain ⟨L', h1, h2, h3, h4, h5, h6, h7, -⟩ := h
  have := h7 (4, k) (vld4 hk) (by simp) (show (4 : Nat) ≠ 13 by decide)
  rwa [h1 (4, k) (show (4 : Nat) ≠ 5 by decide)] at this
theorem LX.at5 (hc : cap ≠ 0) (h : LX g L σ k mc a cap f sz sp H) : va_at g.1 vwCl (a, qa g cap f) H ∧ gA g a := by
  obtain ⟨L', h1, h2, h3, h4, h5, -⟩ := h
  exact ⟨(h5 hc).1, (h5 hc).2.1⟩
theorem LX.at13 (hc : cap = 0) (h : LX g L σ k mc a cap f sz sp H) : a = g.2.2.2 := by
  obtain ⟨L', h1, h2, h3, h4, -⟩ := h
  exact h4 hc
theorem LX.at6 {m : Nat} (hm : m < σ.2.2.1 0) (h : LX g L σ k mc a cap f sz sp H) : ∃ fs, va_at g.1 vwCl (L (6, m), .inr (2, fs)) H := by
  obtain ⟨L', h1, h2, -⟩ := h
  have := h2 (6, m) (by simp [vld]; exact hm) (by simp) (by simp)
  rw [h1 (6, m) (show (6 : Nat) ≠ 5 by decide)] at this
  exact ⟨_, this⟩
theorem LX.atS {b n : Nat} {fb : Nat → Option Nat} (h : LX g L σ k mc a cap f sz (some (b, n, fb)) H) : va_at g.1 vwCl (b, qa g n fb) H ∧ gA g b ∧ (cap ≠ 0 → a ≠ b) := by
  obtain ⟨L', h1, h2, h3, h4, h5, h6, h7, h8, h9, -⟩ := h
  obtain ⟨q1, q2, q3, -⟩ := h9 _ rfl
  exact ⟨q1, q2, q3⟩
/-- the list's own fields are written -/
theorem LX.put4 {mc' : Int32} {sz' : Int32} (hk : k < 11) (h : LX g L σ k mc a cap f sz sp H) (h4 : va_at g.1 vwCl (L (4, k), .inr (0, [.int mc', .ref a, .int sz'])) H') (hq : ∀ q : Nat, q ≠ L (4, k) → H'[q]? = H[q]?) : LX g L σ k mc' a cap f sz' sp H' := by
  obtain ⟨L', h1, h2, h3, h4', h5, h6, h7, h8, h9, h10⟩ := h
  have e4 : L' (4, k) = L (4, k) := h1 (4, k) (show (4 : Nat) ≠ 5 by decide)
  have v4 := vld4 (σ := σ) hk
  refine ⟨L', h1, fun t ht n4 n5 => (h2 t ht n4 n5).kept (hq _ fun z => n4 (h6 t (4, k) ht v4 n5 (by simp) (by rw [e4]; exact z))), h4, h4', fun hc => ?_, h6, h7, h8, fun x hx => ?_, h10⟩
  · obtain ⟨q1, q2, q3⟩ := h5 hc
    exact ⟨q1.kept (hq _ fun z => q3 (4, k) v4 (by simp) (by rw [e4]; exact z.symm)), q2, q3⟩
  · obtain ⟨q1, q2, q3, q4⟩ := h9 x hx
    exact ⟨q1.kept (hq _ fun z => q4 (4, k) v4 (by simp) (by rw [e4]; exact z.symm)), q2, q3, q4⟩
/-- the array that belonged to nobody becomes the list's -/
theorem LX.take {b n : Nat} {fb : Nat → Option Nat} (hn : n ≠ 0) (hk : k < 11) (h : LX g L σ k mc a cap f sz (some (b, n, fb)) H) (h4 : va_at g.1 vwCl (L (4, k), .inr (0, [.int mc, .ref b, .int sz])) H') (hq : ∀ q : Nat, q ≠ L (4, k) → H'[q]? = H[q]?) : LX g L σ k mc b n fb sz none H' := by
  obtain ⟨L', h1, h2, h3, h4', h5, h6, h7, h8, h9, h10⟩ := h
  have e4 : L' (4, k) = L (4, k) := h1 (4, k) (show (4 : Nat) ≠ 5 by decide)
  have v4 := vld4 (σ := σ) hk
  obtain ⟨q1, q2, q3, q4⟩ := h9 _ rfl
  refine ⟨L', h1, fun t ht n4 n5 => (h2 t ht n4 n5).kept (hq _ fun z => n4 (h6 t (4, k) ht v4 n5 (by simp) (by rw [e4]; exact z))), h4, fun hc => absurd hc hn, fun hc => ?_, h6, h7, h8, fun x hx => (by cases hx), h10⟩
  exact ⟨q1.kept (hq _ fun z => q4 (4, k) v4 (by simp) (by rw [e4]; exact z.symm)), q2, q4⟩
/-- the list's array is written -/
theorem LX.put5 {f' : Nat → Option Nat} (hc : cap ≠ 0) (hk : k < 11) (h : LX g L σ k mc a cap f sz sp H) (h5' : va_at g.1 vwCl (a, qa g cap f') H') (hq : ∀ q : Nat, q ≠ a → H'[q]? = H[q]?) : LX g L σ k mc a cap f' sz sp H' := by
  obtain ⟨L', h1, h2, h3, h4', h5, h6, h7, h8, h9, h10⟩ := h
  have e4 : L' (4, k) = L (4, k) := h1 (4, k) (show (4 : Nat) ≠ 5 by decide)
  have v4 := vld4 (σ := σ) hk
  obtain ⟨q1, q2, q3⟩ := h5 hc
  refine ⟨L', h1, fun t ht n4 n5 => (h2 t ht n4 n5).kept (hq _ (q3 t ht n5)), h3.kept (hq _ fun z => q3 (4, k) v4 (by simp) (by rw [e4]; exact z)), h4', fun _ => ⟨h5', q2, q3⟩, h6, h7, h8, fun x hx => ?_, h10⟩
  obtain ⟨r1, r2, r3, r4⟩ := h9 x hx
  exact ⟨r1.kept (hq _ fun z => r3 hc z.symm), r2, r3, r4⟩
theorem LX.putS {b n : Nat} {fb fb' : Nat → Option Nat} (hk : k < 11) (h : LX g L σ k mc a cap f sz (some (b, n, fb)) H) (hb' : va_at g.1 vwCl (b, qa g n fb') H') (hq : ∀ q : Nat, q ≠ b → H'[q]? = H[q]?) : LX g L σ k mc a cap f sz (some (b, n, fb')) H' := by
  obtain ⟨L', h1, h2, h3, h4', h5, h6, h7, h8, h9, h10⟩ := h
  have e4 : L' (4, k) = L (4, k) := h1 (4, k) (show (4 : Nat) ≠ 5 by decide)
  have v4 := vld4 (σ := σ) hk
  obtain ⟨q1, q2, q3, q4⟩ := h9 _ rfl
  refine ⟨L', h1, fun t ht n4 n5 => (h2 t ht n4 n5).kept (hq _ (q4 t ht n5)), h3.kept (hq _ fun z => q4 (4, k) v4 (by simp) (by rw [e4]; exact z)), h4', fun hc => ?_, h6, h7, h8, fun x hx => ?_, h10⟩
  · obtain ⟨r1, r2, r3⟩ := h5 hc
    exact ⟨r1.kept (hq _ (q3 hc)), r2, r3⟩
  · cases hx
    exact ⟨hb', q2, q3, q4⟩
theorem LX.new {b n : Nat} {fb : Nat → Option Nat} (h : LX g L σ k mc a cap f sz none H) (hs : H.size = b) (hg : gA g b) (hb : va_at g.1 vwCl (b, qa g n fb) H') (hq : ∀ q : Nat, q < H.size → H'[q]? = H[q]?) : LX g L σ k mc a cap f sz (some (b, n, fb)) H' := by
  obtain ⟨L', h1, h2, h3, h4', h5, h6, h7, h8, h9, h10⟩ := h
  refine ⟨L', h1, fun t ht n4 n5 => (h2 t ht n4 n5).kept (hq _ (h2 t ht n4 n5).lt), h3.kept (hq _ h3.lt), h4', fun hc => ?_, h6, h7, h8, fun x hx => ?_, h10⟩
  · obtain ⟨r1, r2, r3⟩ := h5 hc
    exact ⟨r1.kept (hq _ r1.lt), r2, r3⟩
  · cases hx
    refine ⟨hb, hg, fun hc z => ?_, fun t ht n5 z => ?_⟩
    · have := (h5 hc).1.lt
      dsimp only at this z
      omega
    · have hlt : L' t < H.size := by
        by_cases n4 : t = (4, k)
        · subst n4
          rw [h1 (4, k) (show (4 : Nat) ≠ 5 by decide)]
          exact h3.lt
        · exact (h2 t ht n4 n5).lt
      dsimp only at z
      omega
theorem LX.take0 (hk : k < 11) (h : RepX g L σ H) : ∃ a, LX g L σ k (σ.1 30 k 0) a (σ.2.2.1 (10 + k)) (lf L (σ.2.1 k)) (nI (σ.2.1 k).length) none H := by
  obtain ⟨L', hL, r1, r2, r3, r4, r5⟩ := h
  have e4 : L' (4, k) = L (4, k) := hL (4, k) (show (4 : Nat) ≠ 5 by decide)
  have h4 := r1 (4, k) (vld4 hk)
  rw [e4] at h4
  have hf : lf L (σ.2.1 k) = fun j => ((σ.2.1 k)[j]?).map (fun m => L' (6, m)) := by
    funext j
    unfold lf
    congr 1
    funext m
    rw [hL (6, m) (show (6 : Nat) ≠ 5 by decide)]
  refine ⟨L' (if σ.2.2.1 (10 + k) = 0 then (13, 0) else (5, k)), L', hL, fun t ht _ _ => r1 t ht, h4, fun hc => by rw [if_pos hc, r4], fun hc => ?_, fun t u ht hu _ _ => r2 t u ht hu, fun t ht _ => r3 t ht, r4, fun x hx => (by cases hx), fun k' hk' _ => r5 k' hk'⟩
  have v5 : vld σ (5, k) = true := by simp [vld]; exact ⟨hk, hc⟩
  rw [if_neg hc, hf]
  exact ⟨r1 (5, k) v5, r3 (5, k) v5 (show (5 : Nat) ≠ 13 by decide), fun t ht n5 z => n5 (r2 t (5, k) ht v5 z)⟩
end LXS
def setL (σ : Sg) (k : Nat) (mc : Int32) (l : List Nat) (cap : Nat) : Sg := upN (upL (upI σ 30 k 0 mc) k l) (10 + k) cap
theorem vld_setL {σ : Sg} {k cap : Nat} {mc : Int32} {l : List Nat} {t : Tg} (h5 : t ≠ (5, k)) : vld (setL σ k mc l cap) t = vld σ t := by
  obtain ⟨tk, i⟩ := t
  unfold vld
  dsimp only
  have h0 : (setL σ k mc l cap).2.2.1 0 = σ.2.2.1 0 := if_neg (by omega)
  split
  all_goals first | rfl | rw [h0] | skip
  have hi : i ≠ k := fun z => h5 (by rw [z])
  have : (setL σ k mc l cap).2.2.1 (10 + i) = σ.2.2.1 (10 + i) := if_neg (by omega)
  rw [this]
theorem cell_setL {L L' : Tg → Nat} {cy : Nat → ClassId} {σ : Sg} {k cap : Nat} {mc : Int32} {l : List Nat} {t : Tg} (h4 : t ≠ (4, k)) (h5 : t ≠ (5, k)) (hL : ∀ u : Tg, u ≠ (5, k) → L u = L' u) : cellOf L cy (setL σ k mc l cap) t = cellOf L' cy σ t := by
  have own : ∀ kc o, ownr kc o = t → ∀ j, (setL σ k mc l cap).1 kc o j = σ.1 kc o j := fun kc o ho j => if_neg fun z => h4 (by rw [← ho, z.1, z.2.1]; rfl)
  unfold cellOf
  cases ha : ash t with
  | some b =>
    dsimp only
    have : (fun j => (setL σ k mc l cap).1 b.2.2.1 b.2.2.2 j) = (fun j => σ.1 b.2.2.1 b.2.2.2 j) := funext fun j => own _ _ (ash_own ha) j
    rw [this]
  | none =>
    obtain ⟨tk, i⟩ := t
    dsimp only
    unfold cellN
    dsimp only
    split
    · have : (fun j => if j < 4 then some (L (2, j)) else none) = (fun j => if j < 4 then some (L' (2, j)) else none) := by
        funext j
        rw [hL (2, j) (by simp)]
      rw [this]
    · have hi : i ≠ k := fun z => h4 (by rw [z])
      have e1 : (setL σ k mc l cap).2.2.1 (10 + i) = σ.2.2.1 (10 + i) := if_neg (by omega)
      have e2 : (setL σ k mc l cap).2.1 i = σ.2.1 i := if_neg hi
      have e3 : (setL σ k mc l cap).1 30 i 0 = σ.1 30 i 0 := if_neg (fun z => hi z.2.1)
      rw [e1, e2, e3, hL (if σ.2.2.1 (10 + i) = 0 then (13, 0) else (5, i)) (by split <;> simp [hi])]
    · have hi : i ≠ k := fun z => h5 (by rw [z])
      have e1 : (setL σ k mc l cap).2.2.1 (10 + i) = σ.2.2.1 (10 + i) := if_neg (by omega)
      have e2 : (setL σ k mc l cap).2.1 i = σ.2.1 i := if_neg hi
      rw [e1, e2]
      have : (fun j : Nat => ((σ.2.1 i)[j]?).map (fun m => L (6, m))) = (fun j : Nat => ((σ.2.1 i)[j]?).map (fun m => L' (6, m))) := by
        funext j
        congr 1
        funext m
        exact hL (6, m) (by simp)
      rw [this]
    · rfl
    · rfl
    · congr 2
      refine List.map_congr_left fun u hu => ?_
      cases u with
      | inl kc =>
        show Value.int _ = Value.int _
        rw [own kc i (shp_own hu) 0]
      | inr u =>
        show Value.ref _ = Value.ref _
        rw [hL u (fun z => shp_5 hu (by rw [z]))]
theorem LX.close {g : Gx} {L : Tg → Nat} {σ : Sg} {k : Nat} {mc : Int32} {a cap : Nat} {l : List Nat} {f : Nat → Option Nat} {H : Heap} (hk : k < 11) (h : LX g L σ k mc a cap f (nI l.length) none H) (hf : f = lf L l) (hl : l.length ≤ cap) (hm : ∀ x ∈ l, x < σ.2.2.1 0) : RepX g L (setL σ k mc l cap) H := by
  obtain ⟨L', h1, h2, h3, h4', h5, h6, h7, h8, h9, h10⟩ := h
  have hN : (setL σ k mc l cap).2.2.1 (10 + k) = cap := if_pos rfl
  have hl9 : (setL σ k mc l cap).2.1 k = l := if_pos rfl
  have hm9 : (setL σ k mc l cap).1 30 k 0 = mc := if_pos ⟨rfl, rfl, rfl⟩
  let L2 : Tg → Nat := fun t => if t = (5, k) then a else L' t
  have e2 : ∀ t : Tg, t ≠ (5, k) → L2 t = L' t := fun t ht => if_neg ht
  have e5 : L2 (5, k) = a := if_pos rfl
  have hL2 : ∀ t : Tg, t.1 ≠ 5 → L2 t = L t := fun t ht => by
    rw [e2 t (fun z => ht (by rw [z])), h1 t ht]
  have hff : f = fun j => (l[j]?).map (fun m => L2 (6, m)) := by
    rw [hf]
    funext j
    unfold lf
    congr 1
    funext m
    rw [hL2 (6, m) (show (6 : Nat) ≠ 5 by decide)]
  have v5c : vld (setL σ k mc l cap) (5, k) = true → cap ≠ 0 := fun hv => by
    have hv' : (decide (k < 11) && decide ((setL σ k mc l cap).2.2.1 (10 + k) ≠ 0)) = true := hv
    rw [Bool.and_eq_true] at hv'
    have := of_decide_eq_true hv'.2
    rwa [hN] at this
  refine ⟨L2, hL2, fun t ht => ?_, fun t u ht hu hz => ?_, fun t ht n13 => ?_, by rw [e2 (13, 0) (by simp)]; exact h8, fun k' hk' => ?_⟩
  · by_cases n5 : t = (5, k)
    · subst n5
      have hc := v5c ht
      rw [e5]
      have : cellOf L2 g.2.1 (setL σ k mc l cap) (5, k) = qa g cap f := by
        rw [hff]
        show (Sum.inl (g.2.1 3, (setL σ k mc l cap).2.2.1 (10 + k), _) : va_E) = _
        rw [hN, hl9]
      rw [this]
      exact (h5 hc).1
    · by_cases n4 : t = (4, k)
      · subst n4
        rw [hL2 (4, k) (show (4 : Nat) ≠ 5 by decide)]
        have : cellOf L2 g.2.1 (setL σ k mc l cap) (4, k) = .inr (0, [.int mc, .ref a, .int (nI l.length)]) := by
          show (Sum.inr (0, [.int ((setL σ k mc l cap).1 30 k 0), .ref (L2 (if (setL σ k mc l cap).2.2.1 (10 + k) = 0 then (13, 0) else (5, k))), .int (nI ((setL σ k mc l cap).2.1 k).length)]) : va_E) = _
          rw [hN, hl9, hm9]
          by_cases hc : cap = 0
          · rw [if_pos hc, e2 (13, 0) (by simp), h8, h4' hc]
          · rw [if_neg hc, e5]
        rw [this]
        exact h3
      · rw [vld_setL n5] at ht
        rw [e2 t n5, cell_setL n4 n5 e2]
        exact h2 t ht n4 n5
  · by_cases t5 : t = (5, k)
    · by_cases u5 : u = (5, k)
      · rw [t5, u5]
      · subst t5
        have hc := v5c ht
        rw [vld_setL u5] at hu
        rw [e5, e2 u u5] at hz
        exact absurd hz.symm ((h5 hc).2.2 u hu u5)
    · by_cases u5 : u = (5, k)
      · subst u5
        have hc := v5c hu
        rw [vld_setL t5] at ht
        rw [e5, e2 t t5] at hz
        exact absurd hz ((h5 hc).2.2 t ht t5)
      · rw [vld_setL t5] at ht
        rw [vld_setL u5] at hu
        rw [e2 t t5, e2 u u5] at hz
        exact h6 t u ht hu t5 u5 hz
  · by_cases t5 : t = (5, k)
    · subst t5
      rw [e5]
      exact (h5 (v5c ht)).2.1
    · rw [vld_setL t5] at ht
      rw [e2 t t5]
      exact h7 t ht t5 n13
  · have h0 : (setL σ k mc l cap).2.2.1 0 = σ.2.2.1 0 := if_neg (by omega)
    rw [h0]
    by_cases hkk : k' = k
    · subst hkk
      rw [hN, hl9]
      exact ⟨hl, hm⟩
    · have e1 : (setL σ k mc l cap).2.2.1 (10 + k') = σ.2.2.1 (10 + k') := if_neg (by omega)
      have e2' : (setL σ k mc l cap).2.1 k' = σ.2.1 k' := if_neg hkk
      rw [e1, e2']
      exact h10 k' hk' hkk
