/-! System.arraycopy between rows of objects -/
section HCOPY
variable {κ : Kx} {cc : ByteArray} {nL fX lX : Nat} {own : String} {pc : Nat} {st : List AV} {lc : LcT} {Rp Rq : Heap → Prop} {nc ns : Nat}
theorem H_copy (hx : Hx κ cc nL own fX lX) {a0 a1 n0 n1 sp dp n idx : Nat} {f0 f1 : Nat → Option Nat} (hat0 : ∀ H, Rp H → va_at (kg κ).1 vwCl (a0, .inl ((kg κ).2.1 3, n0, .inr (.inr (.inr (.inr f0))))) H) (hat1 : ∀ H, Rp H → va_at (kg κ).1 vwCl (a1, .inl ((kg κ).2.1 3, n1, .inr (.inr (.inr (.inr f1))))) H) (hel : ∀ H, Rp H → ∀ i y, f0 i = some y → ∃ fs, va_at (kg κ).1 vwCl (y, .inr (2, fs)) H) (hca : Cond.castable RX1 "java/lang/Object" ∈ FW)
    (b1 : sp < 65536) (b2 : dp < 65536) (b3 : n < 65536) (h4' : sp + n ≤ n0) (h5' : dp + n ≤ n1) (hg : gA (kg κ) a1) (hlc : lc.length = nL) (hl : Cond.methodLink own idx arraycopyName ∈ UW) (hf : 1 ≤ fX) (hw : wt st + (nativeFrameWords "java/lang/System" "arraycopy" 5 + 11) ≤ lX)
    (hput : ∀ H H', Rp H → va_at (kg κ).1 vwCl (a1, .inl ((kg κ).2.1 3, n1, .inr (.inr (.inr (.inr (va_cpy f0 f1 sp dp n)))))) H' → (∀ q : Nat, q ≠ a1 → H'[q]? = H[q]?) → Rq H') (d : decode cc pc = .ok (.invokestatic idx, 3)) (k : AcH κ Rq nc ns (pc + 3) st lc) : AcH κ Rp nc ns pc (ai (nI n) :: ai (nI dp) :: aq a1 :: ai (nI sp) :: aq a0 :: st) lc := by
  obtain ⟨p, l, e, R, s, m, args, below, meth, c, Q, g, L, c0, s0, fc, fs⟩ := κ
  obtain ⟨⟨hxe, hxb, hxl, hxo, hxw⟩, hxk, hxz, hxc, hxs, hxt, hxf, hxr⟩ := hx
  intro H locs ls h1 h2 h3 h4
  have z31 : ∀ z : Nat, z < 65536 → z < 2 ^ 31 := fun z hz => Nat.lt_trans hz (by decide)
  have tI : ∀ z : Nat, z < 65536 → (nI z).toInt = (z : Int) := fun z hz => nI_toInt (z31 z hz)
  have tC : ∀ z : Nat, z < 65536 → (nI z).toNatClampNeg = z := fun z hz => nI_clamp (z31 z hz)
  have tP : ∀ z : Nat, z < 65536 → ¬ nI z < 0 := fun z hz => nI_pos (z31 z hz)
  intro T hT X
  have hc0 : H[a0]? = some (vp_cell (g.2.1 3) (n0, .inr (.inr (.inr (.inr f0))))) := hat0 H h2
  have hc1 : H[a1]? = some (vp_cell (g.2.1 3) (n1, .inr (.inr (.inr (.inr f1))))) := hat1 H h2
  obtain ⟨-, kA, hkA, cmA, hkkA⟩ := (h3.1.2 3 _ rfl).1 n0 (fun j => va_rf (f0 j))
  obtain ⟨kB, comp, r1, r2, r3, -⟩ := (h3.1.2 3 _ rfl).2
  obtain ⟨vm', X', step⟩ := X.arraycopy hxe hxo (hxw _ hl) (hxw _ uv_java_lang_System_arraycopy__Ljava_lang_Object_ILjava_lang_Object_II_V) (hxw _ ut_java_lang_System_arraycopy__Ljava_lang_Object_ILjava_lang_Object_II_V) (hxw _ un_J10) (src := a0) (dst := a1) (cs := vp_cell (g.2.1 3) (n0, .inr (.inr (.inr (.inr f0))))) (cd := vp_cell (g.2.1 3) (n1, .inr (.inr (.inr (.inr f1))))) (srcPos := nI sp) (destPos := nI dp) (n := nI n) (by rw [hT]; exact hc0) (by rw [hT]; exact hc1)
    (fun _ h => by cases h) (fun _ h => by cases h) (fun h => by cases h) (fun h => by cases h) hkA hkA hkkA hkkA rfl (tP _ b1) (tP _ b2) (tP _ b3)
    (by rw [tI _ b1, tI _ b3]; show ¬ _ > ((arrV (g.2.1 3) n0 (fun j => va_rf (f0 j))).slots.size : Int); rw [arrV_size]; omega)
    (by rw [tI _ b2, tI _ b3]; show ¬ _ > ((arrV (g.2.1 3) n1 (fun j => va_rf (f1 j))).slots.size : Int); rw [arrV_size]; omega)
    (fun vm₁ hal i hi => by
      rw [tC _ b3] at hi
      have hq : (vp_cell (g.2.1 3) (n0, .inr (.inr (.inr (.inr f0))))).slots.getD ((nI sp).toNatClampNeg + i) .null = va_rf (f0 (sp + i)) := by
        rw [tC _ b1]
        show (arrV (g.2.1 3) n0 (fun j => va_rf (f0 j))).slots.getD _ _ = _
        rw [Array.getD_eq_getD_getElem?, arrV_read _ _ (by omega)]
        rfl
      rw [hq]
      cases hy : f0 (sp + i) with
      | none => exact ⟨rfl, trivial⟩
      | some y =>
        obtain ⟨vs, r', hr', cellV, g1, g2, g3, -⟩ := hel H h2 _ y hy
        have hcls := (h3.1.1 2 _ rfl).2
        obtain ⟨c1, t1, f1', f2', f3'⟩ := Cond.castable_spec (va_Nw.use (A := args) rfl (h3.2.2.2.2.2.1 _ hca))
        cases hcls.1.symm.trans f1'
        cases hkkA.symm.trans (show kA.kind = .array comp (.object "java/lang/Object") by cases hkA.symm.trans r1; exact r2)
        cases r3.symm.trans f2'
        obtain ⟨kE, hkE, -⟩ := Vm.findClass_spec r3
        obtain ⟨kC, hkC, -⟩ := hcls.2
        obtain ⟨kC', hkC', -⟩ := hal.2.2 _ _ hkC
        obtain ⟨kE', hkE', -⟩ := hal.2.2 _ _ hkE
        refine ⟨rfl, cellV, (show T.heap[y]? = some cellV by rw [hT]; exact g1), (fun q h => by rw [g3] at h; cases h), ?_, ?_, ?_⟩
        · exact ⟨kC', by rw [g2]; exact hkC'⟩
        · exact ⟨kE', hkE'⟩
        · show vm₁.assignable _ _ = true
          rw [hal.assignable, g2]
          exact f3')
    (g := F0 m pc ls (Value.int (nI n) :: .int (nI dp) :: .ref a1 :: .int (nI sp) :: .ref a0 :: st.map (cv L))) rfl (by rw [hxl]; show ls.size = nL; rw [h1.1, hlc]) (rest := st.map (cv L)) rfl (by rw [hxb]; exact d) (by rw [hxf]; exact hf) (by show 2 * 0 + _ + _ ≤ _; rw [wt_cv, hxr, Nat.mul_zero, Nat.zero_add]; exact hw)
  have e1 : copied (vp_cell (g.2.1 3) (n0, .inr (.inr (.inr (.inr f0))))) (vp_cell (g.2.1 3) (n1, .inr (.inr (.inr (.inr f1))))) (nI sp) (nI dp) (nI n) = vp_cell (g.2.1 3) (n1, .inr (.inr (.inr (.inr (va_cpy f0 f1 sp dp n))))) := by
    have q := va_copied (fun z => va_rf z) (g.2.1 3) (g.2.1 3) f0 f1 (n0 := n0) (n1 := n1) (sp := sp) (dp := dp) (n := n) h4'
    rw [vp_cell_q, vp_cell_q, vp_cell_q]
    unfold copied
    rw [tC _ b1, tC _ b2, tC _ b3]
    exact q
  rw [e1] at X' step
  have hlt : a1 < H.size := (Array.getElem?_eq_some_iff.mp hc1).1
  generalize hcell : vp_cell (g.2.1 3) (n1, .inr (.inr (.inr (.inr (va_cpy f0 f1 sp dp n))))) = cl1 at X' step
  have hheap : ((T.setVm vm').setCell a1 cl1).heap = H.setIfInBounds a1 cl1 := by rw [← hT]; rfl
  have oq : ∀ q : Nat, q ≠ a1 → (H.setIfInBounds a1 cl1)[q]? = H[q]? := fun q hq => by simp [Array.getElem?_setIfInBounds, Ne.symm hq]
  have hself : va_at g.1 vwCl (a1, .inl (g.2.1 3, n1, .inr (.inr (.inr (.inr (va_cpy f0 f1 sp dp n)))))) (H.setIfInBounds a1 cl1) := by
    show (H.setIfInBounds a1 cl1)[a1]? = some (vp_cell (g.2.1 3) (n1, .inr (.inr (.inr (.inr (va_cpy f0 f1 sp dp n))))))
    rw [hcell]
    simp [Array.getElem?_setIfInBounds, hlt]
  obtain ⟨t, a9, b9⟩ := k _ _ ls h1 (hput H (H.setIfInBounds a1 cl1) h2 hself oq) (h3.kept (fun q _ ha => oq q (fun z => ha (by rw [z]; exact hg)))) ⟨by simp; exact h4.1, fun q g1 g2 => by
      rw [oq q (fun z => g2 (by rw [z]; exact hg))]
      exact h4.2.1 q g1 g2, fun q hq => by
      rcases List.mem_append.mp hq with h | h
      · exact h4.2.2 q h
      · obtain ⟨z, -, hz⟩ := List.mem_map.mp h
        rw [← hz]
        exact hg⟩ _ hheap X'
  exact ⟨t, step t a9, b9⟩
end HCOPY
