/-! the JDK's members that write no list: size, get, checkIndex, Arrays.fill -/
section JDK
variable {κ : Kx} {cc : ByteArray} {nL fX lX : Nat} {own : String} {pc : Nat} {st : List AV} {lc : LcT} {σ : Sg}
theorem A_lsz (hx : Hx κ cc nL RJx4a65c fX lX) {k : Nat} (hk : k < 11) (d : decode cc pc = .ok (.getfield 48, 3)) (kk : Acf κ (pc + 3) (ai (nI (σ.2.1 k).length) :: st) lc σ) : Acf κ pc (ar (4, k) :: st) lc σ := by
  obtain ⟨p, l, e, R, s, m, args, below, meth, c, Q, g, L, c0, s0, fc, fs⟩ := κ
  obtain ⟨⟨hxe, hxb, hxl, hxo, hxw⟩, hxk, hxz, hxc, hxs, hxt, hxf, hxr⟩ := hx
  intro H locs ls h1 h2 h3 h4 h5 h6 h7 h8
  obtain ⟨L', hL, r1, r2, r3, r4, r5⟩ := id h2
  have hat : va_at g.1 vwCl (L' (4, k), .inr (0, [.int (σ.1 30 k 0), .ref (L' (if σ.2.2.1 (10 + k) = 0 then (13, 0) else (5, k))), .int (nI (σ.2.1 k).length)])) H := r1 (4, k) (by simp [vld]; exact hk)
  rw [hL (4, k) (show (4 : Nat) ≠ 5 by decide)] at hat
  exact va_get (a := L (4, k)) (own := RJx4a65c) (ref := RJx4a65c) hxe hxb hxw in_JA hxo h3.1 (vP1 hat) 0 rfl rfl 2 (by decide) (hxw _ uf_Jx4a65c_48) (fun x h => h) (v := .int (nI (σ.2.1 k).length)) rfl d (kk H locs ls h1 h2 h3 h4 h5 h6 h7 h8)
/-- elementData, an index, an element -/
theorem A_lel (hx : Hx κ cc nL RJx4a65c fX lX) {k m : Nat} {i : Fin 4} {x : Int32} (hk : k < 11) (hi : lc[(i : Nat)]? = some (some (ai x))) (hin : inB x (σ.2.1 k).length = true) (hm : (σ.2.1 k)[x.toNatClampNeg]? = some m) (d : decode cc pc = .ok (.getfield 9, 3)) (d1 : decode cc (pc + 3) = .ok (.iload_n i, 1)) (d2 : decode cc (pc + 3 + 1) = .ok (.aaload, 1)) (kk : Acf κ (pc + 3 + 1 + 1) (ar (6, m) :: st) lc σ) : Acf κ pc (ar (4, k) :: st) lc σ := by
  obtain ⟨p, l, e, R, s, m9, args, below, meth, c, Q, g, L, c0, s0, fc, fs⟩ := κ
  obtain ⟨⟨hxe, hxb, hxl, hxo, hxw⟩, hxk, hxz, hxc, hxs, hxt, hxf, hxr⟩ := hx
  intro H locs ls h1 h2 h3 h4 h5 h6 h7 h8
  obtain ⟨L', hL, r1, r2, r3, r4, r5⟩ := id h2
  have hlen : 0 < (σ.2.1 k).length := by
    have := (List.getElem?_eq_some_iff.mp hm).1
    omega
  have hcap := (r5 k hk).1
  have hn0 : σ.2.2.1 (10 + k) ≠ 0 := by omega
  have hat : va_at g.1 vwCl (L' (4, k), .inr (0, [.int (σ.1 30 k 0), .ref (L' (if σ.2.2.1 (10 + k) = 0 then (13, 0) else (5, k))), .int (nI (σ.2.1 k).length)])) H := r1 (4, k) (by simp [vld]; exact hk)
  have hat5 : va_at g.1 vwCl (L' (5, k), .inl (g.2.1 3, σ.2.2.1 (10 + k), .inr (.inr (.inr (.inr (fun j => ((σ.2.1 k)[j]?).map (fun m => L' (6, m)))))))) H := r1 (5, k) (by simp [vld]; exact ⟨hk, hn0⟩)
  rw [hL (4, k) (show (4 : Nat) ≠ 5 by decide), if_neg hn0] at hat
  refine va_get (a := L (4, k)) (own := RJx4a65c) (ref := RJx4a65c) hxe hxb hxw in_JA hxo h3.1 (vP1 hat) 0 rfl rfl 1 (by decide) (hxw _ uf_Jx4a65c_9) (fun x h => h) (v := .ref (L' (5, k))) rfl d ?_
  refine lv_iload_n hxe hxb d1 rfl (h1.2.2 _ _ hi (Or.inl rfl)) ?_
  have hv : vp_in x (σ.2.2.1 (10 + k)) := by
    have q := inB_in hin
    intro z
    rcases z with z | z
    · exact q (Or.inl z)
    · exact q (Or.inr (by omega))
  refine va_aldq (C := "java/lang/Object") hxe hxb h3.1 (vP1 hat5) 0 3 rfl rfl hv d2 ?_
  have hr := kk H locs ls h1 h2 h3 h4 h5 h6 h7 h8
  rw [hm]
  show W p l e R s m9 args below meth c H locs _ _ Q (F0 m9 _ ls (Value.ref (L' (6, m)) :: _))
  rw [hL (6, m) (show (6 : Nat) ≠ 5 by decide)]
  exact hr
theorem A_alen (hx : Hx κ cc nL own fX lX) {t : Tg} {n kc o : Nat} (ha : ash t = some (false, n, kc, o)) (hv : vld σ t = true) (d : decode cc pc = .ok (.arraylength, 1)) (kk : Acf κ (pc + 1) (ai (nI n) :: st) lc σ) : Acf κ pc (ar t :: st) lc σ := by
  obtain ⟨p, l, e, R, s, m, args, below, meth, c, Q, g, L, c0, s0, fc, fs⟩ := κ
  obtain ⟨⟨hxe, hxb, hxl, hxo, hxw⟩, hxk, hxz, hxc, hxs, hxt, hxf, hxr⟩ := hx
  intro H locs ls h1 h2 h3 h4 h5 h6 h7 h8
  obtain ⟨L', hL, r1, r2, r3, r4, r5⟩ := id h2
  have hat := r1 t hv
  rw [cell_ar ha, hL t (ash_5 ha).1] at hat
  exact va_alen hxe hxb h3.1 (vP1 hat) 0 0 rfl rfl rfl d (kk H locs ls h1 h2 h3 h4 h5 h6 h7 h8)
end JDK
theorem sle_r {σ : Sg} : sle σ σ := sle.refl σ
theorem c_lsize {l : Launch} {g : Gx} (hl : l.stackTraces = false) : CtX l g yJx4a65c_size_8abf5 cJx4a65c_size_8abf5 1 (some .int) 1 20 f_lsize := by
  refine CtX.of (by decide) hl (fun κ h1 h2 hx hr as σ σF r hs hsem => ?_)
  unfold f_lsize at hsem
  split at hsem
  · rename_i k
    obtain ⟨hk, h⟩ := ite_s hsem
    cases h
    refine ⟨Nat.le_refl _, sle.refl _, fun k9 => ?_⟩
    exact A_aload_n (i := 0) hx dJx4a65c_size_8abf5_0 rfl (A_lsz hx hk dJx4a65c_size_8abf5_1 (A_iret hx hr rfl dJx4a65c_size_8abf5_4 k9))
  · cases hsem
def f_ck3 : Sem := fun as σ => match as with
  | [.inl (.int i), .inl (.int n), .inl .null] => if ¬ i < 0 ∧ i < n then some (.inl (some (ai i)), σ) else none
  | _ => none
def f_ck : Sem := fun as σ => match as with
  | [.inl (.int i), .inl (.int n)] => if ¬ i < 0 ∧ i < n then some (.inl (some (ai i)), σ) else none
  | _ => none
theorem c_ck3 {l : Launch} {g : Gx} (hl : l.stackTraces = false) : CtX l g yJ3_checkIndex_8e157 cJ3_checkIndex_8e157 3 (some .int) 1 20 f_ck3 := by
  refine CtX.of (by decide) hl (fun κ h1 h2 hx hr as σ σF r hs hsem => ?_)
  unfold f_ck3 at hsem
  split at hsem
  · rename_i i n
    obtain ⟨⟨c1, c2⟩, h⟩ := ite_s hsem
    cases h
    refine ⟨Nat.le_refl _, sle.refl _, fun k9 => ?_⟩
    exact A_iload_n (i := 0) hx dJ3_checkIndex_8e157_0 rfl (A_if_lt (tgt := 9) hx dJ3_checkIndex_8e157_1 (by decide) (fun q => absurd q c1) (fun _ => A_iload_n (i := 0) hx dJ3_checkIndex_8e157_4 rfl (A_iload_n (i := 1) hx dJ3_checkIndex_8e157_5 rfl (A_icmp_lt (tgt := 16) hx dJ3_checkIndex_8e157_6 (by decide) (fun _ => A_iload_n (i := 0) hx dJ3_checkIndex_8e157_16 rfl (A_iret hx hr rfl dJ3_checkIndex_8e157_17 k9)) (fun q => absurd c2 q)))))
  · cases hsem
theorem c_ck {l : Launch} {g : Gx} (hl : l.stackTraces = false) : CtX l g yJ15_checkIndex_7cf53 cJ15_checkIndex_7cf53 2 (some .int) 2 45 f_ck := by
  refine CtX.of (by decide) hl (fun κ h1 h2 hx hr as σ σF r hs hsem => ?_)
  subst h1
  subst h2
  unfold f_ck at hsem
  split at hsem
  · rename_i i n
    obtain ⟨⟨c1, c2⟩, h⟩ := ite_s hsem
    cases h
    refine ⟨Nat.le_refl _, sle.refl _, fun k9 => ?_⟩
    refine A_iload_n (i := 0) hx dJ15_checkIndex_7cf53_0 rfl (A_iload_n (i := 1) hx dJ15_checkIndex_7cf53_1 rfl (A_null hx dJ15_checkIndex_7cf53_2 ?_))
    exact A_callS (as := [ai i, ai n, an]) (rest := []) hx hr rfl (c_ck3 hl) (σF := σ) (r := .inl (some (ai i))) (by simp only [f_ck3]; rw [if_pos ⟨c1, c2⟩]) (sle.refl _) (fun v hv => by simp at hv; rcases hv with rfl | rfl | rfl; exact Or.inl ⟨_, rfl⟩; exact Or.inl ⟨_, rfl⟩; exact Or.inr (Or.inr (Or.inl rfl))) uc_J3_checkIndex_8e157 um_J15_105 ut_J3_checkIndex_8e157 un_J3 ⟨by decide, by decide, rfl⟩ (by decide) (by decide) (by decide) dJ15_checkIndex_7cf53_3 k9.fit (fun v hv => by cases hv; exact A_iret hx hr rfl dJ15_checkIndex_7cf53_6 k9) (fun n hn => by cases hn)
  · cases hsem
theorem c_lel {l : Launch} {g : Gx} (hl : l.stackTraces = false) : CtX l g yJx4a65c_elementData_915e3 cJx4a65c_elementData_915e3 2 (some (.object "java/lang/Object")) 1 20 f_lget := by
  refine CtX.of (by decide) hl (fun κ h1 h2 hx hr as σ σF r hs hsem => ?_)
  unfold f_lget at hsem
  split at hsem
  · rename_i k i
    split at hsem
    · rename_i hc
      obtain ⟨m, hm, h⟩ := Option.map_eq_some_iff.mp hsem
      cases h
      refine ⟨Nat.le_refl _, sle.refl _, fun k9 => ?_⟩
      exact A_aload_n (i := 0) hx dJx4a65c_elementData_915e3_0 rfl (A_lel (i := 1) hx hc.1 rfl hc.2.1 hm dJx4a65c_elementData_915e3_1 dJx4a65c_elementData_915e3_4 dJx4a65c_elementData_915e3_5 (A_aret hx hr (Or.inl ⟨_, rfl⟩) dJx4a65c_elementData_915e3_6 k9))
    · cases hsem
  · cases hsem
theorem inB_lt {i : Int32} {n : Nat} (hn : n < 2147483648) (h : inB i n = true) : ¬ i < 0 ∧ i < nI n := by
  have q := inB_in h
  refine ⟨fun z => q (Or.inl z), ?_⟩
  obtain ⟨j, hj, rfl⟩ := vp_in_of q hn
  exact nI_lt hj hn
theorem c_lget {l : Launch} {g : Gx} (hl : l.stackTraces = false) : CtX l g yJx4a65c_get_915e3 cJx4a65c_get_915e3 2 (some (.object "java/lang/Object")) 3 70 f_lget := by
  refine CtX.of (by decide) hl (fun κ h1 h2 hx hr as σ σF r hs hsem => ?_)
  subst h1
  subst h2
  have hsem0 := hsem
  unfold f_lget at hsem
  split at hsem
  · rename_i k i
    split at hsem
    · rename_i hc
      obtain ⟨m, hm, h⟩ := Option.map_eq_some_iff.mp hsem
      cases h
      refine ⟨Nat.le_refl _, sle.refl _, fun k9 => ?_⟩
      refine A_iload_n (i := 1) hx dJx4a65c_get_915e3_0 rfl (A_aload_n (i := 0) hx dJx4a65c_get_915e3_1 rfl (A_lsz hx hc.1 dJx4a65c_get_915e3_2 ?_))
      obtain ⟨c1, c2⟩ := inB_lt (Nat.lt_trans hc.2.2 (by decide)) hc.2.1
      refine A_callS (as := [ai i, ai (nI (σ.2.1 k).length)]) (rest := []) hx hr rfl (c_ck hl) (σF := σ) (r := .inl (some (ai i))) (by simp only [f_ck]; rw [if_pos ⟨c1, c2⟩]) (sle.refl _) (fun v hv => by simp at hv; rcases hv with rfl | rfl; exact Or.inl ⟨_, rfl⟩; exact Or.inl ⟨_, rfl⟩) uc_J15_checkIndex_7cf53 um_Jx4a65c_118 ut_J15_checkIndex_7cf53 un_J15 ⟨by decide, by decide, rfl⟩ (by decide) (by decide) (by decide) dJx4a65c_get_915e3_5 k9.fit (fun v hv => ?_) (fun n hn => by cases hn)
      cases hv
      refine A_pop hx (Or.inl ⟨_, rfl⟩) dJx4a65c_get_915e3_8 (A_aload_n (i := 0) hx dJx4a65c_get_915e3_9 rfl (A_iload_n (i := 1) hx dJx4a65c_get_915e3_10 rfl ?_))
      exact A_callV (as := [ai i]) (rest := []) (b := (4, k)) hx hr rfl (c_lel hl) (σF := σ) (r := .inl (some (ar (6, m)))) hsem0 (sle.refl _) (fun v hv => by simp at hv; subst hv; exact Or.inl ⟨_, rfl⟩) uc_Jx4a65c_elementData_915e3 um_Jx4a65c_123 ui_Jx4a65c_elementData_915e3 us_Jx4a65c_elementData_915e3 un_Jx4a65c ⟨rfl, by decide, by decide, rfl⟩ rfl rfl (by simp [vld]; exact hc.1) (by decide) (by decide) (by decide) dJx4a65c_get_915e3_11 k9.fit (fun v hv => by cases hv; exact A_aret hx hr (Or.inl ⟨_, rfl⟩) dJx4a65c_get_915e3_14 k9) (fun n hn => by cases hn)
    · cases hsem
  · cases hsem
