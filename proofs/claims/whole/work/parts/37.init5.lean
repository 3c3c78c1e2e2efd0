/-! constructors: of the model (laid by wip/whole/gen/init5.py) -/
section INZ
variable {κ : Kx} {cc : ByteArray} {nL fX lX : Nat} {own : String} {pc : Nat} {st : List AV} {lc : LcT} {Rp : Heap → Prop} {nc ns : Nat} {Pw : Heap → Prop} {ws : va_W}
theorem H_sipush (hx : Hx κ cc nL own fX lX) {n : Int} {v : Int32} (d : decode cc pc = .ok (.sipush n, 3)) (hv : (Int16.ofInt n).toInt32 = v) (k : AcH κ Rp nc ns (pc + 3) (ai v :: st) lc) : AcH κ Rp nc ns pc st lc := by
  obtain ⟨p, l, e, R, s, m, args, below, meth, c, Q, g, L, c0, s0, fc, fs⟩ := κ
  obtain ⟨⟨hxe, hxb, hxl, hxo, hxw⟩, hxk, hxz, hxc, hxs, hxt, hxf, hxr⟩ := hx
  intro H locs ls h1 h2 h3 h4
  exact lv_sipush hxe hxb d hv (k H locs ls h1 h2 h3 h4)
theorem H_newz (hx : Hx κ cc nL own fX lX) {n : Nat} (hn : n < 65536) (hc : nc + 1 ≤ (kr κ).1) (hs : ns + n ≤ (kr κ).2)
    (d : decode cc pc = .ok (.newarray .boolean, 2)) (k : ∀ a : Nat, AcH κ (fun H' => ∃ H : Heap, Rp H ∧ H.size = a ∧ va_at (kg κ).1 vwCl (a, .inl ((kg κ).2.1 1, n, .inl (fun _ => 0))) H' ∧ ∀ q : Nat, q < H.size → H'[q]? = H[q]?) (nc + 1) (ns + n) (pc + 2) (aq a :: st) lc) : AcH κ Rp nc ns pc (ai (nI n) :: st) lc := by
  obtain ⟨p, l, e, R, s, m, args, below, meth, c, Q, g, L, c0, s0, fc, fs0⟩ := κ
  obtain ⟨⟨hxe, hxb, hxl, hxo, hxw⟩, hxk, hxz, hxc, hxs, hxt, hxf, hxr⟩ := hx
  intro H locs ls h1 h2 h3 h4
  have h31 : n < 2 ^ 31 := Nat.lt_trans hn (by decide)
  refine va_newaK hxe hxb (atype := .boolean) (hxw _ uz_arrayClass_4_50) rfl d rfl (nI_pos h31) (nI_clamp h31) (by show n * 1 ≤ _; omega) (by rw [hxc]; exact hc) (by rw [hxs]; exact hs) rfl fun H1 cA e1 z1 o1 hAr hNm => ?_
  have k4 : s.vm.findClass ("[" ++ FieldType.boolean.toString) = some (g.2.1 1) := (h3.1.2 1 _ rfl).2
  have hcA : cA = g.2.1 1 := Option.some.inj (hNm.symm.trans k4)
  subst hcA
  refine k H.size H1 locs ls h1 ⟨H, h2, rfl, ?_, o1⟩ (h3.kept (fun q hq _ => o1 q hq)) ⟨by rw [z1]; exact Nat.le_trans h4.1 (Nat.le_succ _), fun q hq1 hq2 => (o1 q (Nat.lt_of_lt_of_le hq1 h4.1)).trans (h4.2.1 q hq1 hq2), h4.2.2⟩
  show H1[H.size]? = some (vp_cell _ _)
  rw [e1, vp_cell_i]
  rfl
theorem N_newz (hx : Hx κ cc nL own fX lX) {n : Nat} (hn : n < 65536) (hc : nc + 1 ≤ (kr κ).1) (hs : ns + n ≤ (kr κ).2) (d : decode cc pc = .ok (.newarray .boolean, 2)) (k : ∀ a : Nat, AcH κ (NX (kg κ) Pw (ws ++ [(a, .inl ((kg κ).2.1 1, n, .inl (fun _ => 0)))])) (nc + 1) (ns + n) (pc + 2) (aq a :: st) lc) : AcH κ (NX (kg κ) Pw ws) nc ns pc (ai (nI n) :: st) lc :=
  H_newz hx hn hc hs d (fun a => AcH.mono (fun H h => by obtain ⟨H0, q1, q2, q3, q4⟩ := h; exact q1.push q2 q3 q4) (k a))
end INZ
section MDS
variable {κ : Kx} {nL fX lX : Nat} {pc pc1 slot idx nc ns n b : Nat} {Pw : Heap → Prop} {fs : List Value} {rest : va_W} {dn : FieldType}
theorem md_i (hx : Hx κ cX3_init nL RX3 fX lX) (hnm : (km κ).name = "<init>") (hn : n < 65536) (hc : nc + 1 ≤ (kr κ).1) (hs : ns + n ≤ (kr κ).2) (d : decode cX3_init pc = .ok (.newarray .int, 2)) (hr : (TX3 slot).1 = RX3) (hk : slot < 23) (hl : Cond.fieldLink RX3 idx RX3 (TX3 slot).2.1 (TX3 slot).2.2.1 ∈ UW) (hfin : (TX3 slot).2.2.2 = true) (hd : parseFieldDescriptor (TX3 slot).2.2.1 = some (.array .int)) (hfs : fs.length = 23) (d2 : decode cX3_init (pc + 2) = .ok (.putfield idx, 3))
    (k : ∀ a : Nat, AcH κ (NX (kg κ) Pw ((b, .inr (4, fs.set slot (.ref a))) :: (rest ++ [(a, .inl ((kg κ).2.1 0, n, .inl (fun _ => 0)))]))) (nc + 1) (ns + n) (pc + 2 + 3) [] [some (aq b)]) : AcH κ (NX (kg κ) Pw ((b, .inr (4, fs)) :: rest)) nc ns pc [ai (nI n), aq b] [some (aq b)] :=
  N_newi hx hn hc hs d (fun a => N_putF hx hnm 0 (ws := (b, .inr (4, fs)) :: (rest ++ [(a, .inl ((kg κ).2.1 0, n, .inl (fun _ => 0)))])) rfl in_X3 (C := RX3) (T := TX3) (N := 23) tyX3 tyX3_ok nmX3 rfl hr hk hl hfin hd rfl rfl (by omega) d2 (k a))
theorem md_z (hx : Hx κ cX3_init nL RX3 fX lX) (hnm : (km κ).name = "<init>") (hn : n < 65536) (hc : nc + 1 ≤ (kr κ).1) (hs : ns + n ≤ (kr κ).2) (d : decode cX3_init pc = .ok (.newarray .boolean, 2)) (hr : (TX3 slot).1 = RX3) (hk : slot < 23) (hl : Cond.fieldLink RX3 idx RX3 (TX3 slot).2.1 (TX3 slot).2.2.1 ∈ UW) (hfin : (TX3 slot).2.2.2 = true) (hd : parseFieldDescriptor (TX3 slot).2.2.1 = some (.array .boolean)) (hfs : fs.length = 23) (d2 : decode cX3_init (pc + 2) = .ok (.putfield idx, 3))
    (k : ∀ a : Nat, AcH κ (NX (kg κ) Pw ((b, .inr (4, fs.set slot (.ref a))) :: (rest ++ [(a, .inl ((kg κ).2.1 1, n, .inl (fun _ => 0)))]))) (nc + 1) (ns + n) (pc + 2 + 3) [] [some (aq b)]) : AcH κ (NX (kg κ) Pw ((b, .inr (4, fs)) :: rest)) nc ns pc [ai (nI n), aq b] [some (aq b)] :=
  N_newz hx hn hc hs d (fun a => N_putF hx hnm 0 (ws := (b, .inr (4, fs)) :: (rest ++ [(a, .inl ((kg κ).2.1 1, n, .inl (fun _ => 0)))])) rfl in_X3 (C := RX3) (T := TX3) (N := 23) tyX3 tyX3_ok nmX3 rfl hr hk hl hfin hd rfl rfl (by omega) d2 (k a))
end MDS
/-- what a new model consists of -/
def mdW (g : Gx) (b : Nat) (q : Nat → Nat) : va_W := [(b, .inr (4, [.int 0, .int 0, .ref (q 0), .ref (q 1), .ref (q 2), .ref (q 3), .ref (q 4), .ref (q 5), .ref (q 6), .int 0, .int 0, .ref (q 7), .ref (q 8), .ref (q 9), .ref (q 10), .ref (q 11), .ref (q 12), .ref (q 13), .ref (q 14), .ref (q 15), .ref (q 16), .int 0, .int 0])), (q 0, .inl (g.2.1 0, 48, .inl (fun _ => 0))), (q 1, .inl (g.2.1 0, 192, .inl (fun _ => 0))), (q 2, .inl (g.2.1 0, 192, .inl (fun _ => 0))), (q 3, .inl (g.2.1 0, 192, .inl (fun _ => 0))), (q 4, .inl (g.2.1 1, 48, .inl (fun _ => 0))), (q 5, .inl (g.2.1 0, 48, .inl (fun _ => 0))), (q 6, .inl (g.2.1 0, 48, .inl (fun _ => 0))), (q 7, .inl (g.2.1 1, 4, .inl (fun _ => 0))), (q 8, .inl (g.2.1 1, 4, .inl (fun _ => 0))), (q 9, .inl (g.2.1 0, 16, .inl (fun _ => 0))), (q 10, .inl (g.2.1 0, 4, .inl (fun _ => 0))), (q 11, .inl (g.2.1 0, 192, .inl (fun _ => 0))), (q 12, .inl (g.2.1 0, 4, .inl (fun _ => 0))), (q 13, .inl (g.2.1 0, 192, .inl (fun _ => 0))), (q 14, .inl (g.2.1 0, 4, .inl (fun _ => 0))), (q 15, .inl (g.2.1 0, 4, .inl (fun _ => 0))), (q 16, .inl (g.2.1 0, 4, .inl (fun _ => 0)))]
theorem c_iMd {l : Launch} {g : Gx} {Pw : Heap → Prop} {b : Nat} (hl : l.stackTraces = false) : CtH (fun _ => True) l g yX3_init cX3_init 1 none 1 20 17 1196 [.ref b] (NX g Pw [(b, .inr (4, [.int 0, .int 0, .null, .null, .null, .null, .null, .null, .null, .int 0, .int 0, .null, .null, .null, .null, .null, .null, .null, .null, .null, .null, .int 0, .int 0]))]) (fun v H => v = none ∧ ∃ q : Nat → Nat, NX g Pw (mdW g b q) H) := by
  refine CtH.ofN (by decide) hl (by simp [Value.category]) (by simp) (fun κ h1 h2 _ hx hr hkk hl9 hnm => ?_)
  subst h1
  refine H_aload_n (i := 0) (t := b) hx dX3_init_0 rfl (H_objInit (v := .null) hx rfl um_X3_1 ui_java_lang_Object__init____V uc_java_lang_Object__init____V (by decide) (by decide) dX3_init_1 ?_)
  refine H_aload_n (i := 0) (t := b) hx dX3_init_4 rfl (H_bipush (v := nI 48) hx dX3_init_5 (by decide) (md_i (slot := 2) hx hnm (by decide) (by rw [h2]; decide) (by rw [h2]; decide) dX3_init_7 rfl (by decide) uf_X3_7 rfl rfl rfl dX3_init_9 (fun a0 => ?_)))
  simp only [List.set_cons_succ, List.set_cons_zero, List.cons_append, List.nil_append]
  refine H_aload_n (i := 0) (t := b) hx dX3_init_12 rfl (H_sipush (v := nI 192) hx dX3_init_13 (by decide) (md_i (slot := 3) hx hnm (by decide) (by rw [h2]; decide) (by rw [h2]; decide) dX3_init_16 rfl (by decide) uf_X3_13 rfl rfl rfl dX3_init_18 (fun a1 => ?_)))
  simp only [List.set_cons_succ, List.set_cons_zero, List.cons_append, List.nil_append]
  refine H_aload_n (i := 0) (t := b) hx dX3_init_21 rfl (H_sipush (v := nI 192) hx dX3_init_22 (by decide) (md_i (slot := 4) hx hnm (by decide) (by rw [h2]; decide) (by rw [h2]; decide) dX3_init_25 rfl (by decide) uf_X3_16 rfl rfl rfl dX3_init_27 (fun a2 => ?_)))
  simp only [List.set_cons_succ, List.set_cons_zero, List.cons_append, List.nil_append]
  refine H_aload_n (i := 0) (t := b) hx dX3_init_30 rfl (H_sipush (v := nI 192) hx dX3_init_31 (by decide) (md_i (slot := 5) hx hnm (by decide) (by rw [h2]; decide) (by rw [h2]; decide) dX3_init_34 rfl (by decide) uf_X3_19 rfl rfl rfl dX3_init_36 (fun a3 => ?_)))
  simp only [List.set_cons_succ, List.set_cons_zero, List.cons_append, List.nil_append]
  refine H_aload_n (i := 0) (t := b) hx dX3_init_39 rfl (H_bipush (v := nI 48) hx dX3_init_40 (by decide) (md_z (slot := 6) hx hnm (by decide) (by rw [h2]; decide) (by rw [h2]; decide) dX3_init_42 rfl (by decide) uf_X3_22 rfl rfl rfl dX3_init_44 (fun a4 => ?_)))
  simp only [List.set_cons_succ, List.set_cons_zero, List.cons_append, List.nil_append]
  refine H_aload_n (i := 0) (t := b) hx dX3_init_47 rfl (H_bipush (v := nI 48) hx dX3_init_48 (by decide) (md_i (slot := 7) hx hnm (by decide) (by rw [h2]; decide) (by rw [h2]; decide) dX3_init_50 rfl (by decide) uf_X3_26 rfl rfl rfl dX3_init_52 (fun a5 => ?_)))
  simp only [List.set_cons_succ, List.set_cons_zero, List.cons_append, List.nil_append]
  refine H_aload_n (i := 0) (t := b) hx dX3_init_55 rfl (H_bipush (v := nI 48) hx dX3_init_56 (by decide) (md_i (slot := 8) hx hnm (by decide) (by rw [h2]; decide) (by rw [h2]; decide) dX3_init_58 rfl (by decide) uf_X3_29 rfl rfl rfl dX3_init_60 (fun a6 => ?_)))
  simp only [List.set_cons_succ, List.set_cons_zero, List.cons_append, List.nil_append]
  refine H_aload_n (i := 0) (t := b) hx dX3_init_63 rfl (H_iconst (v := nI 4) hx dX3_init_64 (by decide) (md_z (slot := 11) hx hnm (by decide) (by rw [h2]; decide) (by rw [h2]; decide) dX3_init_65 rfl (by decide) uf_X3_32 rfl rfl rfl dX3_init_67 (fun a7 => ?_)))
  simp only [List.set_cons_succ, List.set_cons_zero, List.cons_append, List.nil_append]
  refine H_aload_n (i := 0) (t := b) hx dX3_init_70 rfl (H_iconst (v := nI 4) hx dX3_init_71 (by decide) (md_z (slot := 12) hx hnm (by decide) (by rw [h2]; decide) (by rw [h2]; decide) dX3_init_72 rfl (by decide) uf_X3_35 rfl rfl rfl dX3_init_74 (fun a8 => ?_)))
  simp only [List.set_cons_succ, List.set_cons_zero, List.cons_append, List.nil_append]
  refine H_aload_n (i := 0) (t := b) hx dX3_init_77 rfl (H_bipush (v := nI 16) hx dX3_init_78 (by decide) (md_i (slot := 13) hx hnm (by decide) (by rw [h2]; decide) (by rw [h2]; decide) dX3_init_80 rfl (by decide) uf_X3_38 rfl rfl rfl dX3_init_82 (fun a9 => ?_)))
  simp only [List.set_cons_succ, List.set_cons_zero, List.cons_append, List.nil_append]
  refine H_aload_n (i := 0) (t := b) hx dX3_init_85 rfl (H_iconst (v := nI 4) hx dX3_init_86 (by decide) (md_i (slot := 14) hx hnm (by decide) (by rw [h2]; decide) (by rw [h2]; decide) dX3_init_87 rfl (by decide) uf_X3_41 rfl rfl rfl dX3_init_89 (fun a10 => ?_)))
  simp only [List.set_cons_succ, List.set_cons_zero, List.cons_append, List.nil_append]
  refine H_aload_n (i := 0) (t := b) hx dX3_init_92 rfl (H_sipush (v := nI 192) hx dX3_init_93 (by decide) (md_i (slot := 15) hx hnm (by decide) (by rw [h2]; decide) (by rw [h2]; decide) dX3_init_96 rfl (by decide) uf_X3_44 rfl rfl rfl dX3_init_98 (fun a11 => ?_)))
  simp only [List.set_cons_succ, List.set_cons_zero, List.cons_append, List.nil_append]
  refine H_aload_n (i := 0) (t := b) hx dX3_init_101 rfl (H_iconst (v := nI 4) hx dX3_init_102 (by decide) (md_i (slot := 16) hx hnm (by decide) (by rw [h2]; decide) (by rw [h2]; decide) dX3_init_103 rfl (by decide) uf_X3_47 rfl rfl rfl dX3_init_105 (fun a12 => ?_)))
  simp only [List.set_cons_succ, List.set_cons_zero, List.cons_append, List.nil_append]
  refine H_aload_n (i := 0) (t := b) hx dX3_init_108 rfl (H_sipush (v := nI 192) hx dX3_init_109 (by decide) (md_i (slot := 17) hx hnm (by decide) (by rw [h2]; decide) (by rw [h2]; decide) dX3_init_112 rfl (by decide) uf_X3_50 rfl rfl rfl dX3_init_114 (fun a13 => ?_)))
  simp only [List.set_cons_succ, List.set_cons_zero, List.cons_append, List.nil_append]
  refine H_aload_n (i := 0) (t := b) hx dX3_init_117 rfl (H_iconst (v := nI 4) hx dX3_init_118 (by decide) (md_i (slot := 18) hx hnm (by decide) (by rw [h2]; decide) (by rw [h2]; decide) dX3_init_119 rfl (by decide) uf_X3_53 rfl rfl rfl dX3_init_121 (fun a14 => ?_)))
  simp only [List.set_cons_succ, List.set_cons_zero, List.cons_append, List.nil_append]
  refine H_aload_n (i := 0) (t := b) hx dX3_init_124 rfl (H_iconst (v := nI 4) hx dX3_init_125 (by decide) (md_i (slot := 19) hx hnm (by decide) (by rw [h2]; decide) (by rw [h2]; decide) dX3_init_126 rfl (by decide) uf_X3_56 rfl rfl rfl dX3_init_128 (fun a15 => ?_)))
  simp only [List.set_cons_succ, List.set_cons_zero, List.cons_append, List.nil_append]
  refine H_aload_n (i := 0) (t := b) hx dX3_init_131 rfl (H_iconst (v := nI 4) hx dX3_init_132 (by decide) (md_i (slot := 20) hx hnm (by decide) (by rw [h2]; decide) (by rw [h2]; decide) dX3_init_133 rfl (by decide) uf_X3_59 rfl rfl rfl dX3_init_135 (fun a16 => ?_)))
  simp only [List.set_cons_succ, List.set_cons_zero, List.cons_append, List.nil_append]
  exact H_vret hx hr dX3_init_138 hkk (by rw [h2]; decide) (by rw [h2]; decide) (fun H h9 => ⟨rfl, fun n' => [a0, a1, a2, a3, a4, a5, a6, a7, a8, a9, a10, a11, a12, a13, a14, a15, a16].getD n' 0, h9⟩)
