/-! the law's start: what the claim gives, as the world of the walk -/
def R_law : String := "CausewaymailLaw"
def lw_P (b : Addr) (xs : List Int32) (args : Array Value) (s : State) : Prop := args = #[.ref b] ∧ s.IntsAt b xs ∧ xs.length ≤ 260 ∧ (Jvm.Cond.and given_1 narrow_1).before args s = true
def lw_Q (_ : Array Value) (s : State) (o : Outcome) (t : State) : Prop := o = .returned (some (.int 1)) ∧ Framed s o t [] 600172 7300668
def lw_Z (below : List Frame) (a : Array Value) (s : State) : State → Prop := fun t => ∃ o, t.status = .running ∧ Ended t below o ∧ lw_Q a s o t
/-- the law's own end, with 1 on the stack, nothing written that was there before, its room as the claim has it -/
theorem lw_ret {p : Program} {l : Launch} {e : Env} {s : State} {m : MethodId} {below : List Frame} {meth : Method} {c : Code} {b : Nat} (hx : p.tables.exec = Jvm.exec) (hb : c.code = code) (hr : meth.sig.returnType = ret) (hlocks : meth.locks = false) {pc : Nat} {H : Heap} {ls : Array Slot} (hdg : decode code pc = .ok (.ireturn, 1)) : W p l e room_1 s m #[Value.ref b] below meth c H [] 600172 7300668 (lw_Z below #[Value.ref b] s) (F0 m pc ls [.int 1]) := by
  intro T hT X
  obtain ⟨fs, hret, hrun, hended, hW, hframe⟩ := X.leave (v := some (.int 1)) (hlocks := hlocks) (fun h => by rw [hr] at h; cases h)
  have hmeth' : T.vm.method? m = some meth := X.method'
  refine ⟨T.setFrames fs, ?_, .returned (some (.int 1)), hrun, hended, rfl, ⟨_, rfl⟩, hW, hframe⟩
  jvm_step X.here [X.here.top, hx, hb, hdg, hmeth', hr, ret, narrow_b1]
  (try refine ⟨rfl, ?_⟩); (try refine ⟨rfl, ?_⟩)
  first | (intro acts; rw [hret _ acts rfl rfl rfl]) | rw [hret _ _ rfl rfl rfl]
  exact Steps.refl _
/-- what holds at the law's entry: the machine, the code, the tables' words (any of lw_tbl by 'hts w (by decide +kernel)'), the script of L ints xs at the cell b, what the Statement gives of the start (any of its parts by flat_of_before) -/
def lw_At (p : Program) (s : State) (m : MethodId) (meth : Method) (c : Code) (b L : Nat) (xs : Nat → Int32) : Prop :=
  p.tables.exec = Jvm.exec ∧ c.code = code ∧ meth.sig.returnType = ret ∧ c.maxLocals = 15 ∧ s.vm.findClass R_law = some m.cls ∧ (∀ w ∈ lw_tbl, w.before #[Value.ref b] s = true) ∧ va_X b L xs s s.heap ∧ b < s.heap.size ∧ meth.locks = false ∧ (Jvm.Cond.and given_1 narrow_1).before #[Value.ref b] s = true

theorem start_K {s : State} {av : Array Value} (hts : ∀ w ∈ UW, w.before av s = true) (hob : (Cond.arrayOver (.object "java/lang/Object")).before av s = true) (hmb : (Cond.arrayOver (.object RX0)).before av s = true) : ∃ (D : va_G) (cy : Nat → ClassId), va_K D vwCl (tyl cy) s := by
  obtain ⟨c0, i0, k0⟩ := u_known hts in_JA (hts _ ux_Jx4a65c)
  obtain ⟨c1, i1, k1⟩ := u_known hts in_X0 (hts _ ux_X0)
  obtain ⟨c2, i2, k2⟩ := u_known hts in_X1 (hts _ ux_X1)
  obtain ⟨c3, i3, k3⟩ := u_known hts in_X2 (hts _ ux_X2)
  obtain ⟨a0, q0, p0, f0, g0, h0⟩ := Cond.arrayClass_spec (hts _ uz_arrayClass_1_59)
  obtain ⟨a1, q1, p1, f1, g1, h1⟩ := Cond.arrayClass_spec (hts _ uz_arrayClass_1_59)
  obtain ⟨a4, q4, p4, f4, g4, h4⟩ := Cond.arrayClass_spec (hts _ uz_arrayClass_3_224)
  obtain ⟨p2, a2, q2, e2, -, g2, h2, f2⟩ := Cond.arrayOver_spec hmb
  obtain ⟨p3, a3, q3, e3, -, g3, h3, f3⟩ := Cond.arrayOver_spec hob
  refine ⟨(fun c => match c with | 0 => c0 | 1 => c1 | 2 => c2 | _ => c3, fun c => match c with | 0 => i0 | 1 => i1 | 2 => i2 | _ => i3), fun k => match k with | 0 => a0 | 1 => a1 | 2 => a2 | 3 => a3 | _ => a4, fun c q hq => ?_, fun k q hq => ?_⟩
  · match c, hq with
    | 0, hq => cases hq; exact k0
    | 1, hq => cases hq; exact k1
    | 2, hq => cases hq; exact k2
    | 3, hq => cases hq; exact k3
    | c + 4, hq => cases hq
  · match k, hq with
    | 0, hq => cases hq; exact ⟨fun N z => ⟨(fun k h => by cases h), q0, g0, p0, h0⟩, f0⟩
    | 1, hq => cases hq; exact ⟨fun N z => ⟨(fun k h => by cases h), q1, g1, p1, h1⟩, f1⟩
    | 2, hq => cases hq; exact ⟨fun N z => ⟨(fun k h => by cases h), q2, g2, p2, h2⟩, q2, p2, g2, h2, e2, f2⟩
    | 3, hq => cases hq; exact ⟨fun N z => ⟨(fun k h => by cases h), q3, g3, p3, h3⟩, q3, p3, g3, h3, e3, f3⟩
    | 4, hq => cases hq; exact ⟨fun N z => ⟨(fun k h => by cases h), q4, g4, p4, h4⟩, f4⟩
    | k + 5, hq => cases hq
theorem len_of {args : Array Value} {s : State} {t : Term} {a : Nat} {cell : Cell} {ty : FieldType} (he : Term.eval args s none [] s t = some (.ref a)) (hc : s.heap[a]? = some cell) (ho : s.isArrayOf cell ty) (hk : cell.vm ≠ .unknown) (hs : cell.vm.isStatics = false) : Term.eval args s none [] s t.length = if cell.slots.size < 2147483648 then some (.int cell.slots.size.toInt32) else none := by
  obtain ⟨h1, k, h2, comp, h3⟩ := ho
  have e1 : s.arrayAt? a = some cell := by
    unfold State.arrayAt?
    simp [hc, h2, h3, hk, hs]
  simp [Term.eval] at he ⊢
  simp [he, e1]
theorem start_GF {s : State} {b : Nat} (hts : ∀ w ∈ lw_tbl, w.before #[Value.ref b] s = true) (hgv : (Jvm.Cond.and given_1 narrow_1).before #[Value.ref b] s = true) : ∃ g : Gx, g.2.2.1 = s.heap.size ∧ GF g s s.heap := by
  have hs := flat_of_before _ hgv
  have hU : ∀ w ∈ UW, w.before #[Value.ref b] s = true := fun w hw => hts w (List.mem_filter.mp hw).1
  obtain ⟨D, cy, hK⟩ := start_K hU (hts _ (by decide +kernel)) (hts _ (by decide +kernel))
  have hA : ∀ a : Nat, a < s.heap.size → ¬ s.heap.size ≤ a := fun a h => Nat.not_le.mpr h
  have hex : (Cond.exactly (.static "java/util/ArrayList" "DEFAULTCAPACITY_EMPTY_ELEMENTDATA" "[Ljava/lang/Object;") "[Ljava/lang/Object;").before #[Value.ref b] s = true := hs _ (by decide +kernel)
  have hof : (Cond.arrayOf (.static "java/util/ArrayList" "DEFAULTCAPACITY_EMPTY_ELEMENTDATA" "[Ljava/lang/Object;") (.object "java/lang/Object")).before #[Value.ref b] s = true := hs _ (by decide +kernel)
  have hln : (Cond.eq (.length (.static "java/util/ArrayList" "DEFAULTCAPACITY_EMPTY_ELEMENTDATA" "[Ljava/lang/Object;")) (.int 0)).before #[Value.ref b] s = true := hs _ (by decide +kernel)
  obtain ⟨d, c, cell, k, ev, -, hcell, -, hst, -, -⟩ := Cond.exactly_spec hex
  obtain ⟨hio, hun⟩ := Cond.arrayOf_spec hof ev hcell
  have hlen := len_of ev hcell hio hun hst
  have h0 : cell.slots.size.toInt32 = 0 := by
    by_cases hz : cell.slots.size < 2147483648
    · rw [if_pos hz] at hlen
      have := Cond.eq_ints (first := s) (o := none) (s := s) (idx := []) hlen (show Term.eval #[Value.ref b] s none [] s (.int 0) = some (.int 0) from rfl)
      simpa [Cond.before, Cond.holds, this] using hln
    · rw [if_neg hz] at hlen
      simp [Cond.before, Cond.holds, Cond.value, hlen] at hln
  have hlt : d < s.heap.size := (Array.getElem?_eq_some_iff.mp hcell).1
  refine ⟨(D, cy, s.heap.size, d), rfl, hK, ⟨va_Zof (hts _ (by decide +kernel)) (hts _ (by decide +kernel)) ev hA, cell, hcell, hio, h0, hA d hlt⟩, vx_Zqof (hts _ (by decide +kernel)) (hts _ (by decide +kernel)) (hs _ (by decide +kernel)) hA, vx_Zqof (hts _ (by decide +kernel)) (hts _ (by decide +kernel)) (hs _ (by decide +kernel)) hA, ?_, ?_, va_AO.of (hts _ (by decide +kernel)), va_Mi.of (hs _ (by decide +kernel)), va_Dc.of (hts _ (by decide +kernel)), va_Nc.of (hs (.not (.castable "java/lang/IllegalStateException" "java/lang/IndexOutOfBoundsException")) (by decide +kernel))⟩
  · have hstr : ∀ own k tx, (Cond.stringRef own k tx).before #[Value.ref b] s = true → (Cond.exactly (.string own k) "java/lang/String").before #[Value.ref b] s = true → ∃ sa, vk_R own k tx sa s := fun own k tx h1 h2 => by
      obtain ⟨a, c, cell, k, ev, -⟩ := Cond.exactly_spec h2
      exact ⟨a, vk_R.of h1 ev⟩
    intro q hq
    simp only [strs, List.mem_cons, List.not_mem_nil, or_false] at hq
    rcases hq with rfl | rfl | rfl | rfl | rfl | rfl | rfl | rfl | rfl | rfl | rfl <;> exact hstr _ _ _ (hts _ (by decide +kernel)) (hs _ (by decide +kernel))
  · intro w hw
    exact va_any (FW_face hw).1 (hts w (List.mem_filter.mp hw).1)
def lcS (bs : Nat) : LcT := [some (aq bs), some (ar (0, 0)), some (ar (12, 0)), some (ar (14, 0)), some (ar (14, 1)), some (ar (14, 2)), some (ar (14, 3)), some (ar (14, 4)), some (ar (12, 1)), some (ar (12, 2)), some (ar (12, 3)), some (ar (12, 4)), none, none, none]
/-- from the entry, for every script of at most 260 ints, the law comes to its end with true -/
theorem whole_start {p : Program} {e : Env} {s : State} {m : MethodId} {below : List Frame} {meth : Method} {c : Code} (l : Launch) (hflags : l.flags = flags0) {b L : Nat} {xs : Nat → Int32} (hL : L ≤ 260) (C0 : lw_At p s m meth c b L xs) (hex : ∀ x ∈ c.exceptionTable.toList, False) : W p l e room_1 s m #[Value.ref b] below meth c s.heap [] 0 0 (lw_Z below #[Value.ref b] s) (entryFrame m ([Value.ref b] : List Value).toArray 15) := by
  obtain ⟨hx, hb, hr, hml, hown, hts, hscr, hbl, hlk, hgv⟩ := C0
  obtain ⟨g, hg, hGF⟩ := start_GF hts hgv
  have hst : l.stackTraces = false := by
    unfold Launch.stackTraces
    rw [hflags]
    decide
  have hx0 : Hx (p, l, e, room_1, s, m, #[Value.ref b], below, meth, c, lw_Z below #[Value.ref b] s, g, (fun _ => 0), 0, 0, 600172, 7300668) cL_law 15 RL 17 712 := ⟨⟨hx, hb, hml, hown, fun w hw => hts w (List.mem_filter.mp hw).1⟩, hlk, Nat.le_of_eq hg, rfl, rfl, hst, rfl, rfl⟩
  have hr0 : Hr (p, l, e, room_1, s, m, #[Value.ref b], below, meth, c, lw_Z below #[Value.ref b] s, g, (fun _ => 0), 0, 0, 600172, 7300668) (some .boolean) := ⟨hr, hex⟩
  have hS0 : Scr (p, l, e, room_1, s, m, #[Value.ref b], below, meth, c, lw_Z below #[Value.ref b] s, g, (fun _ => 0), 0, 0, 600172, 7300668) b L xs := ⟨hscr, hbl, fun z => by
    have z' : g.2.2.1 ≤ b := z
    rw [hg] at z'
    exact absurd z' (Nat.not_le.mpr hbl)⟩
  have kend : ∀ (L2 : Tg → Nat) (lc : LcT) (σF : Sg), Acf (wL (p, l, e, room_1, s, m, #[Value.ref b], below, meth, c, lw_Z below #[Value.ref b] s, g, (fun _ => 0), 0, 0, 600172, 7300668) L2) 207 [] lc σF := fun L2 lc σF => by
    refine A_iconst (v := 1) hx0.wL dL_law_207 (by decide) ?_
    intro H locs ls h1 h2 h3 h4 h5 h6 h7 h8
    have c9 : sC σF ≤ 600172 := h7
    have s9 : sS σF ≤ 7300668 := h8
    refine va_forget (fun q hq => by have := h4.2.2 q hq; unfold gA at this; rw [hg] at this; exact this) (W.widen (by omega) (by omega) (lw_ret hx hb hr hlk dL_law_208))
  have hA : AcH (p, l, e, room_1, s, m, #[Value.ref b], below, meth, c, lw_Z below #[Value.ref b] s, g, (fun _ => 0), 0, 0, 600172, 7300668) (fun H => H = s.heap) 0 0 0 [] [some (aq b), none, none, none, none, none, none, none, none, none, none, none, none, none, none] := by
    refine L_entry hx0 (va_AO.of (hts _ (by decide +kernel))) hst (show 31 ≤ 600172 by decide) (show 460 ≤ 7300668 by decide) (fun b1 q r => ?_)
    refine AcH.ofA2 (L2 := L0 g.2.2.2 b1 q r) (st' := []) (lc' := lcS b) (σ := σ0) (fun H h => RepX.first h) rfl rfl (show 0 + 31 ≤ 31 by decide) (show 0 + 460 ≤ 460 by decide) ?_ ?_
    · exact ⟨show 31 ≤ 600172 by decide, show 460 ≤ 7300668 by decide⟩
    · have hrd := e_read (y := 0) (z_RK.rd (by decide) (by decide))
      have slx : sle σ0 (gx σ0 12) := sleB_sle (sl_gx 12)
      have hf := z_Jv.fit (by decide)
      have hf1 : sC (gx σ0 12) ≤ 31 + 5000 := hf.1
      have hf2 : sS (gx σ0 12) ≤ 460 + 30000 := hf.2
      have fitx : Fit (p, l, e, room_1, s, m, #[Value.ref b], below, meth, c, lw_Z below #[Value.ref b] s, g, (fun _ => 0), 0, 0, 600172, 7300668) (gx σ0 12) := ⟨show sC (gx σ0 12) ≤ 600172 by omega, show sS (gx σ0 12) ≤ 7300668 by omega⟩
      refine A_aload_n (i := 1) hx0.wL dL_law_66 rfl (A_iconst (v := 0) hx0.wL dL_law_67 (by decide) (A_aload_n (i := 2) hx0.wL dL_law_68 rfl (A_aload_n (i := 3) hx0.wL dL_law_69 rfl (A_aload (i := 4) hx0.wL dL_law_70 rfl (A_aload (i := 5) hx0.wL dL_law_72 rfl (A_aload (i := 6) hx0.wL dL_law_74 rfl (A_aload (i := 7) hx0.wL dL_law_76 rfl (A_aload (i := 8) hx0.wL dL_law_78 rfl (A_aload (i := 9) hx0.wL dL_law_80 rfl (A_aload (i := 10) hx0.wL dL_law_82 rfl (A_aload (i := 11) hx0.wL dL_law_84 rfl ?_)))))))))))
      refine A_callS (as := [ar (0, 0), ai 0, ar (12, 0), ar (14, 0), ar (14, 1), ar (14, 2), ar (14, 3), ar (14, 4), ar (12, 1), ar (12, 2), ar (12, 3), ar (12, 4)]) (rest := []) hx0.wL hr0.wL rfl (c_L_isRead hst) hrd slx sgr uc_L_isRead um_L_205 ut_L_isRead un_L ⟨by decide, by decide, rfl⟩ (by decide) (by decide) (by decide) dL_law_86 (fit_wL fitx) (fun v hv => ?_) (fun n9 hn9 => by cases hn9)
      cases hv
      refine A_if_ne (tgt := 94) hx0.wL dL_law_89 (by decide) (fun _ => ?_) (fun q => absurd q (by decide))
      refine A_iconst (v := nI 0) hx0.wL dL_law_94 (by decide) (A_istore (i := 12) hx0.wL dL_law_95 (by show 12 < 15; decide) ?_)
      exact L_loop (n := L) (by omega) 160 _ hx0.wL hr0.wL hst hS0.wL (by rw [fcs_wL]; show 31 + 5000 ≤ 600172; decide) (by rw [fcs_wL]; show 460 + 30000 ≤ 7300668; decide) (fun L3 lc σ9 => by rw [wL_wL]; exact kend L3 lc σ9) 0 (gx σ0 12) none none (by decide) z_Jv
  rw [lg_entry_eq]
  have hls := lv_entry [Value.ref b] (n := 15) (show 1 ≤ 15 by decide)
  generalize (lg_sl [Value.ref b] ++ List.replicate (15 - (lg_sl [Value.ref b]).length) Slot.unset).toArray = ls at hls ⊢
  refine hA s.heap [] ls ⟨hls.1, hls.2.1, fun i v hi _ => ?_⟩ rfl hGF va_S.rf
  match i, hi with
  | 0, hi => cases hi; exact hls.2.2 (0, .ref b) List.mem_cons_self
  | 1, hi => cases hi
  | 2, hi => cases hi
  | 3, hi => cases hi
  | 4, hi => cases hi
  | 5, hi => cases hi
  | 6, hi => cases hi
  | 7, hi => cases hi
  | 8, hi => cases hi
  | 9, hi => cases hi
  | 10, hi => cases hi
  | 11, hi => cases hi
  | 12, hi => cases hi
  | 13, hi => cases hi
  | 14, hi => cases hi
  | i + 15, hi => cases hi
set_option maxHeartbeats 4000000 in
theorem lw_walk (l : Launch) (hflags : l.flags = flags0) (b : Addr) (xs : List Int32) : MetFree l x (headSpec (Jvm.Cond.code x code maxLocals ret :: tables_1) room_1) (lw_P b xs) (fun _ _ _ _ _ => True) lw_Q := by
  refine MetFree.of_bodyS (code := code) (maxLocals := maxLocals) (ret := ret) (by decide) ?_ ?_
  · intro args s m h hn
    obtain ⟨meth, c, h1, h2, h3, h4, h5, h6, -, -⟩ := Cond.code_spec hn (atoms_spec (ws := Jvm.Cond.code x code maxLocals ret :: tables_1) h _ List.mem_cons_self)
    exact ⟨meth, c, h1, h2, h3, h4, h5, h6⟩
  · intro p e s m args below meth c s₁ B hml0 hP _
    obtain ⟨rfl, hx, hbd, hgv⟩ := hP
    obtain ⟨scr, harrAt, hlist, hof, hsmall⟩ := hx
    obtain ⟨hcb, hkn, -, -⟩ := State.arrayAt?_spec harrAt
    have hown : s.vm.findClass R_law = some m.cls := findClass_of_methodNamed B.named
    have hts0 : ∀ c ∈ (Jvm.Cond.code x code maxLocals ret :: tables_1), c.before #[Value.ref b] s = true := atoms_spec (ws := Jvm.Cond.code x code maxLocals ret :: tables_1) B.pre
    have hts : ∀ w ∈ lw_tbl, w.before #[Value.ref b] s = true := k2_hts_sels lw_privs (fun w hw => hts0 w (List.mem_cons_of_mem _ hw)) lw_privs_ok
    have hml : c.maxLocals = 15 := B.maxLocals_eq (hts0 _ List.mem_cons_self)
    have X₀ : Stand p l e room_1 s m #[Value.ref b] below meth c s₁ [] 0 0 := Stand.of_body B
    have hh0 : s₁.heap = s.heap := by rw [B.state]; rfl
    have hsz : scr.slots.size = xs.length := by rw [← Array.length_toList, hlist, List.length_map]
    have hval : ∀ j : Nat, j < xs.length → scr.slots[j]? = some (.int (xs.getD j 0)) := fun j hj => by
      rw [← Array.getElem?_toList, hlist]
      simp [hj]
    have hbl : b < s.heap.size := (Array.getElem?_eq_some_iff.mp hcb).1
    have hX : va_X b xs.length (fun j => xs.getD j 0) s s.heap := ⟨scr, hcb, hof, hkn, hsz, hval⟩
    have hex : ∀ x ∈ c.exceptionTable.toList, False := by
      obtain ⟨meth9, c9, h1, h2, -, -, -, -, h7, -⟩ := Cond.code_spec B.named (hts0 _ List.mem_cons_self)
      cases Option.some.inj (h1.symm.trans B.method)
      cases Option.some.inj (h2.symm.trans X₀.code)
      intro x hx
      rw [Array.isEmpty_iff.mp h7] at hx
      cases hx
    have K : W p l e room_1 s m #[Value.ref b] below meth c s₁.heap [] 0 0 (lw_Z below #[Value.ref b] s) (entryFrame m ([Value.ref b] : List Value).toArray 15) := by
      rw [hh0]
      exact whole_start l hflags hbd ⟨B.exec, B.bytes, B.returns, hml, hown, hts, hX, hbl, B.notSynchronized, hgv⟩ hex
    obtain ⟨t, a1, o, b1, b2, b3⟩ := K s₁ rfl X₀
    exact ⟨t, o, a1, b1, b2, b3⟩
theorem lw_pre_spec {args : Array Value} {s : State} (h : (Jvm.Cond.and given_1 narrow_1).before args s = true) (hr : rest_1_c.before args s = true) : ∃ (b : Addr) (xs : List Int32), lw_P b xs args s := by
  have hs := flat_of_before _ h
  have hq := flat_of_before _ hr
  have hc : (Cond.count 1).before args s = true := hs _ (by decide +kernel)
  have harr : (Cond.arrayOf (.arg 0) .int).before args s = true := hs _ (by decide +kernel)
  have hle : (Cond.le (.length (.arg 0)) (.int 260)).before args s = true := hs _ (by decide +kernel)
  have hlen : (Cond.isInt (.length (.arg 0))).before args s = true := hq _ (by decide +kernel)
  have hall : (Cond.all (.arg 0) (.isInt (.elem (.arg 0) (.index 0)))).before args s = true := hq _ (by decide +kernel)
  obtain ⟨b, xs, hb, hx⟩ := State.ints_of_pre rfl harr hlen hall
  have hsm : xs.length < 2 ^ 31 := hx.choose_spec.2.2.2
  have hev : (Term.length (.arg 0)).eval args s none [] s = some (.int xs.length.toInt32) := hx.length_eval hb
  have hv := Cond.le_ints hev (show (Term.int 260).eval args s none [] s = some (.int 260) from rfl)
  have hd : xs.length.toInt32 ≤ 260 := by
    simpa [Cond.before, Cond.holds, hv] using hle
  have hN : xs.length ≤ 260 := (Int32.ofNat_le_ofNat hsm (by decide)).mp (show Int32.ofNat xs.length ≤ Int32.ofNat 260 from hd)
  exact ⟨b, xs, Cond.one_arg hc (show args[0]? = some (.ref b) from hb), hx, hN, h⟩
theorem lw_comes (l : Launch) (hflags : l.flags = flags0) : Comes l x (Jvm.Cond.code x code maxLocals ret :: tables_1) room_1 (fun tb e args s => Calls_1 tb e args s ∧ rest_1 tb e args s ∧ Pre_1 tb e args s)
    (fun _ _ args s o t => lw_Q args s o t) := by
  intro p e ha hc hk s m args below hf hfit hheap happ hpre
  obtain ⟨b, xs, hP⟩ := lw_pre_spec hpre.2.2 hpre.2.1
  obtain ⟨k, o, h1, h2, h3, hQ⟩ := lw_walk l hflags b xs p e ha hc hk s m args below hf ((Spec.applies_iff_loose hf).mp happ).1 hP trivial
  exact ⟨k, o, h1, h2, h3, hQ⟩
theorem lw_frame {s t : State} {o : Outcome} {args : Array Value} (h : Framed s o t [] 600172 7300668) :
    Framed s o t (fieldLocs frame_1_writes args s ++ arrayLocs frame_1_arrays args s ++ staticLocs frame_1_statics s) 600172 7300668 := h
theorem lw_limb (L : Cond) (hL : ∀ (args : Array Value) (s t : State), L.after args s (.returned (some (.int 1))) t = true) :
    ArmFor flags0 classFile x code maxLocals ret World_1 tables_1 room_1 Calls_1 rest_1 Pre_1
      (fun tb e a s o t => postC L tb e a s o t ∧ Framed s o t (fieldLocs frame_1_writes a s ++ arrayLocs frame_1_arrays a s ++ staticLocs frame_1_statics s) 600172 7300668) := by
  intro l hflags _ _ p e ha hc hk s m args below hf hfit hheap happ hpre
  obtain ⟨k, o, h1, h2, h3, rfl, hF⟩ := lw_comes l hflags p e ha hc hk s m args below hf hfit hheap happ hpre
  exact ⟨k, _, h1, h2, h3, hL args s _, lw_frame hF⟩
theorem i_vc : Claimed_1_1 ∧ Claimed_1_2 := ⟨lw_limb limb_1_1 (fun args s t => by simp [limb_1_1, Cond.after, Cond.holds, Cond.value]), lw_limb limb_1_2 (fun args s t => Cond.after_iff.mpr (by
  first | (rw [show limb_1_2 = Cond.eq .result (.int 1) from rfl, Cond.eq_ints (x := 1) (y := 1) rfl rfl]; simp; done) | (simp [limb_1_2, Cond.value, Term.eval]; done)))⟩
