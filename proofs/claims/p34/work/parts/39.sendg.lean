/-! a clock is copied into a stamp -/
def upF (σ : Sg) (kc o : Nat) (F : Nat → Int32) : Sg := (fun k' o' j' => if k' = kc ∧ o' = o then F j' else σ.1 k' o' j', σ.2)
theorem upF_ne {σ : Sg} {k o j k' o' : Nat} {F : Nat → Int32} (h : ¬ (k' = k ∧ o' = o)) : (upF σ k o F).1 k' o' j = σ.1 k' o' j := if_neg h
theorem cellOf_neF {L : Tg → Nat} {cy : Nat → ClassId} {σ : Sg} {k o : Nat} {F : Nat → Int32} {t : Tg} (ht : ownr k o ≠ t) : cellOf L cy (upF σ k o F) t = cellOf L cy σ t := by
  unfold cellOf
  cases ha : ash t with
  | some a =>
    dsimp only
    have h1 : ¬ (a.2.2.1 = k ∧ a.2.2.2 = o) := fun q => ht (by rw [← q.1, ← q.2]; exact ash_own ha)
    have h2 : (fun j' => (upF σ k o F).1 a.2.2.1 a.2.2.2 j') = (fun j' => σ.1 a.2.2.1 a.2.2.2 j') := funext fun j' => upF_ne h1
    rw [h2]
  | none =>
    dsimp only
    unfold cellN
    split
    · rfl
    · rename_i h4
      have h1 : ¬ (30 = k ∧ t.2 = o) := fun q => ht (by
        rw [← q.1, ← q.2]
        obtain ⟨a, b⟩ := t
        simp at h4
        subst h4
        rfl)
      rw [upF_ne h1]
      rfl
    · rfl
    · rfl
    · rfl
    · congr 2
      refine List.map_congr_left fun f hf => ?_
      cases f with
      | inr u => rfl
      | inl k' =>
        have h1 : ¬ (k' = k ∧ t.2 = o) := fun q => ht (by
          rw [← q.1, ← q.2]
          exact shp_own hf)
        show Value.int _ = Value.int _
        rw [upF_ne h1]
theorem RepX.putF {g : Gx} {L : Tg → Nat} {σ : Sg} {H H' : Heap} {k o : Nat} {F : Nat → Int32} (h : RepX g L σ H) (hv : vld σ (ownr k o) = true)
    (hc : ∀ L' : Tg → Nat, (∀ t : Tg, t.1 ≠ 5 → L' t = L t) → va_at g.1 vwCl (L' (ownr k o), cellOf L' g.2.1 σ (ownr k o)) H → va_at g.1 vwCl (L' (ownr k o), cellOf L' g.2.1 (upF σ k o F) (ownr k o)) H') (oq : ∀ q : Nat, q ≠ L (ownr k o) → H'[q]? = H[q]?) : RepX g L (upF σ k o F) H' := by
  obtain ⟨L', hL, h1, h2, h3, h4, h5⟩ := h
  refine ⟨L', hL, fun t ht => ?_, h2, h3, h4, h5⟩
  have ht' : vld σ t = true := ht
  by_cases e : ownr k o = t
  · rw [← e]
    exact hc L' hL (h1 _ hv)
  · rw [cellOf_neF e]
    refine (h1 t ht').kept (oq _ fun z => e (h2 _ _ hv ht' ?_))
    show L' (ownr k o) = L' t
    rw [hL _ (ownr_5 k o)]
    exact z.symm
def cpyS (σ : Sg) (i m : Nat) : Sg := upF σ 26 m (fun j => if j < 4 then σ.1 16 i j else σ.1 26 m j)
theorem A_copyS {κ : Kx} {cc : ByteArray} {nL fX lX : Nat} {own : String} {pc : Nat} {st : List AV} {lc : LcT} {σ : Sg} (hx : Hx κ cc nL own fX lX) {i m idx : Nat} (hi : i < 4) (hm : m < σ.2.2.1 0) (hlc : lc.length = nL) (hl : Cond.methodLink own idx arraycopyName ∈ UW) (hf : 1 ≤ fX) (hw : wt st + (nativeFrameWords "java/lang/System" "arraycopy" 5 + 11) ≤ lX)
    (d : decode cc pc = .ok (.invokestatic idx, 3)) (k : Acf κ (pc + 3) st lc (cpyS σ i m)) : Acf κ pc (ai 4 :: ai 0 :: ar (7, m) :: ai 0 :: ar (3, i) :: st) lc σ := by
  obtain ⟨p, l, e, R, s, m9, args, below, meth, c, Q, g, L, c0, s0, fc, fs⟩ := κ
  obtain ⟨⟨hxe, hxb, hxl, hxo, hxw⟩, hxk, hxz, hxc, hxs, hxt, hxf, hxr⟩ := hx
  intro H locs ls h1 h2 h3 h4 h5 h6 h7 h8 T hT X
  obtain ⟨L', hL, r1, r2, r3, r4, r5⟩ := id h2
  have v7 : vld σ (7, m) = true := by simp [vld]; exact hm
  have v3 : vld σ (3, i) = true := by simp [vld]; exact hi
  have hat0 := r1 (3, i) v3
  have hat1 := r1 (7, m) v7
  rw [hL (3, i) (show (3 : Nat) ≠ 5 by decide)] at hat0
  rw [hL (7, m) (show (7 : Nat) ≠ 5 by decide)] at hat1
  have hg : gA g (L (7, m)) := by
    have := r3 (7, m) v7 (show (7 : Nat) ≠ 13 by decide)
    rwa [hL (7, m) (show (7 : Nat) ≠ 5 by decide)] at this
  have hc0 : H[L (3, i)]? = some (vp_cell (g.2.1 0) (4, .inl (fun j => σ.1 16 i j))) := hat0
  have hc1 : H[L (7, m)]? = some (vp_cell (g.2.1 0) (4, .inl (fun j => σ.1 26 m j))) := hat1
  obtain ⟨-, kA, hkA, cmA, hkkA⟩ := (h3.1.2 0 _ rfl).1 4 (fun j => .int (σ.1 16 i j))
  obtain ⟨vm', X', step⟩ := X.arraycopy hxe hxo (hxw _ hl) (hxw _ uv_java_lang_System_arraycopy__Ljava_lang_Object_ILjava_lang_Object_II_V) (hxw _ ut_java_lang_System_arraycopy__Ljava_lang_Object_ILjava_lang_Object_II_V) (hxw _ un_J10) (src := L (3, i)) (dst := L (7, m)) (cs := vp_cell (g.2.1 0) (4, .inl (fun j => σ.1 16 i j))) (cd := vp_cell (g.2.1 0) (4, .inl (fun j => σ.1 26 m j))) (srcPos := 0) (destPos := 0) (n := 4) (by rw [hT]; exact hc0) (by rw [hT]; exact hc1)
    (fun _ h => by cases h) (fun _ h => by cases h) (fun h => by cases h) (fun h => by cases h) hkA hkA hkkA hkkA rfl (by decide) (by decide) (by decide)
    (by show ¬ _ > ((arrV (g.2.1 0) 4 (fun j => .int (σ.1 16 i j))).slots.size : Int); rw [arrV_size]; decide)
    (by show ¬ _ > ((arrV (g.2.1 0) 4 (fun j => .int (σ.1 26 m j))).slots.size : Int); rw [arrV_size]; decide)
    (fun vm₁ _ q hq => by
      have hq4 : q < 4 := hq
      have e : (vp_cell (g.2.1 0) (4, .inl (fun j => σ.1 16 i j))).slots.getD ((0 : Int32).toNatClampNeg + q) .null = .int (σ.1 16 i q) := by
        show (arrV (g.2.1 0) 4 (fun j => .int (σ.1 16 i j))).slots.getD (0 + q) _ = _
        rw [Array.getD_eq_getD_getElem?, arrV_read _ _ (by omega), Nat.zero_add]
        rfl
      refine ⟨?_, ?_⟩
      · rw [e]
        rfl
      · rw [e]
        exact trivial)
    (g := F0 m9 pc ls (Value.int 4 :: .int 0 :: .ref (L (7, m)) :: .int 0 :: .ref (L (3, i)) :: st.map (cv L))) rfl (by rw [hxl]; show ls.size = nL; rw [h1.1, hlc]) (rest := st.map (cv L)) rfl (by rw [hxb]; exact d) (by rw [hxf]; exact hf) (by show 2 * 0 + _ + _ ≤ _; rw [wt_cv, hxr, Nat.mul_zero, Nat.zero_add]; exact hw)
  have e1 : copied (vp_cell (g.2.1 0) (4, .inl (fun j => σ.1 16 i j))) (vp_cell (g.2.1 0) (4, .inl (fun j => σ.1 26 m j))) 0 0 4 = vp_cell (g.2.1 0) (4, .inl (fun j => if j < 4 then σ.1 16 i j else σ.1 26 m j)) := by
    have q := va_copied (fun z => Value.int z) (g.2.1 0) (g.2.1 0) (fun j => σ.1 16 i j) (fun j => σ.1 26 m j) (n0 := 4) (n1 := 4) (sp := 0) (dp := 0) (n := 4) (by decide)
    have e9 : (fun j => if j < 4 then σ.1 16 i j else σ.1 26 m j) = va_cpy (fun j => σ.1 16 i j) (fun j => σ.1 26 m j) 0 0 4 := by
      funext j
      unfold va_cpy
      by_cases hj : j < 4
      · rw [if_pos hj, if_pos ⟨Nat.zero_le _, by omega⟩, Nat.zero_add, Nat.sub_zero]
      · rw [if_neg hj, if_neg (by omega)]
    rw [e9, vp_cell_i, vp_cell_i, vp_cell_i]
    exact q
  rw [e1] at X' step
  have hlt : L (7, m) < H.size := (Array.getElem?_eq_some_iff.mp hc1).1
  generalize hcell : vp_cell (g.2.1 0) (4, .inl (fun j => if j < 4 then σ.1 16 i j else σ.1 26 m j)) = cl1 at X' step
  have hheap : ((T.setVm vm').setCell (L (7, m)) cl1).heap = H.setIfInBounds (L (7, m)) cl1 := by rw [← hT]; rfl
  have oq : ∀ q : Nat, q ≠ L (7, m) → (H.setIfInBounds (L (7, m)) cl1)[q]? = H[q]? := fun q hq => by simp [Array.getElem?_setIfInBounds, Ne.symm hq]
  have hR : RepX g L (cpyS σ i m) (H.setIfInBounds (L (7, m)) cl1) := by
    refine h2.putF (k := 26) (o := m) v7 (fun L2 hL2 hat2 => ?_) oq
    show va_at g.1 vwCl (L2 (7, m), cellOf L2 g.2.1 (upF σ 26 m _) (7, m)) _
    have e : cellOf L2 g.2.1 (upF σ 26 m (fun j => if j < 4 then σ.1 16 i j else σ.1 26 m j)) (7, m) = .inl (g.2.1 0, 4, .inl (fun j => if j < 4 then σ.1 16 i j else σ.1 26 m j)) := by
      show (Sum.inl (g.2.1 0, 4, .inl (fun j => (upF σ 26 m _).1 26 m j)) : va_E) = _
      simp [upF]
    rw [e, hL2 (7, m) (show (7 : Nat) ≠ 5 by decide)]
    show (H.setIfInBounds (L (7, m)) cl1)[L (7, m)]? = some (vp_cell (g.2.1 0) (4, .inl (fun j => if j < 4 then σ.1 16 i j else σ.1 26 m j)))
    rw [hcell]
    simp [Array.getElem?_setIfInBounds, hlt]
  obtain ⟨t, a9, b9⟩ := k _ _ ls h1 hR (h3.kept (fun q _ ha => oq q (fun z => ha (by rw [z]; exact hg)))) ⟨by simp; exact h4.1, fun q g1 g2 => by
      rw [oq q (fun z => g2 (by rw [z]; exact hg))]
      exact h4.2.1 q g1 g2, fun q hq => by
      rcases List.mem_append.mp hq with h | h
      · exact h4.2.2 q h
      · obtain ⟨z, -, hz⟩ := List.mem_map.mp h
        rw [← hz]
        exact hg⟩ h5 h6 h7 h8 _ hheap X'
  exact ⟨t, step t a9, b9⟩
