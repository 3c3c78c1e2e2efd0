/-! the law's start: what the claim gives, as the world of the walk -/
def R_law : String := "CausewaymailLaw"
def lw_P (b : Addr) (xs : List Int32) (args : Array Value) (s : State) : Prop := args = #[.ref b] ∧ s.IntsAt b xs ∧ xs.length ≤ 1536 ∧ (Jvm.Cond.and given_1 narrow_1).before args s = true
def lw_Q (_ : Array Value) (s : State) (o : Outcome) (t : State) : Prop := o = .returned (some (.int 1)) ∧ Framed s o t [] 601024 7293034
def lw_Z (below : List Frame) (a : Array Value) (s : State) : State → Prop := fun t => ∃ o, t.status = .running ∧ Ended t below o ∧ lw_Q a s o t
/-- the law's own end, with 1 on the stack, nothing written that was there before, its room as the claim has it -/
theorem lw_ret {p : Program} {l : Launch} {e : Env} {s : State} {m : MethodId} {below : List Frame} {meth : Method} {c : Code} {b : Nat} (hx : p.tables.exec = Jvm.exec) (hb : c.code = code) (hr : meth.sig.returnType = ret) (hlocks : meth.locks = false) {pc : Nat} {H : Heap} {ls : Array Slot} (hdg : decode code pc = .ok (.ireturn, 1)) : W p l e room_1 s m #[Value.ref b] below meth c H [] 601024 7293034 (lw_Z below #[Value.ref b] s) (F0 m pc ls [.int 1]) := by
  intro T hT X
  obtain ⟨fs, hret, hrun, hended, hW, hframe⟩ := X.leave (v := some (.int 1)) (hlocks := hlocks) (fun h => by rw [hr] at h; cases h)
  have hmeth' : T.vm.method? m = some meth := X.method'
  refine ⟨T.setFrames fs, ?_, .returned (some (.int 1)), hrun, hended, rfl, ⟨_, rfl⟩, hW, hframe⟩
  jvm_step X.here [X.here.top, hx, hb, hdg, hmeth', hr, ret, narrow_b1]
  (try refine ⟨rfl, ?_⟩); (try refine ⟨rfl, ?_⟩)
  first | (intro acts; rw [hret _ acts rfl rfl rfl]) | rw [hret _ _ rfl rfl rfl]
  exact Steps.refl _
/-- what holds at the law's entry: the machine, the code, the tables' words (any of lw_tbl by 'hts w (by decide +kernel)'), the script of L ints xs at the cell b, what the Statement gives of the start (any of its parts by flat_of_before) -/
def lw_At (p : Program) (s : State) (m : MethodId) (meth : Method) (c : Code) (b L : Nat) (xs : Nat → Int32) : Prop :=
  p.tables.exec = Jvm.exec ∧ c.code = code ∧ meth.sig.returnType = ret ∧ c.maxLocals = 7 ∧ s.vm.findClass R_law = some m.cls ∧ (∀ w ∈ lw_tbl, w.before #[Value.ref b] s = true) ∧ va_X b L xs s s.heap ∧ b < s.heap.size ∧ meth.locks = false ∧ (Jvm.Cond.and given_1 narrow_1).before #[Value.ref b] s = true

theorem start_K {s : State} {av : Array Value} (hts : ∀ w ∈ UW, w.before av s = true) (hob : (Cond.arrayOver (.object "java/lang/Object")).before av s = true) (hmb : (Cond.arrayOver (.object RX0)).before av s = true) : ∃ (D : va_G) (cy : Nat → ClassId), va_K D vwCl (tyl cy) s := by
  obtain ⟨c0, i0, k0⟩ := u_known hts in_JA (hts _ ux_Jx4a65c)
  obtain ⟨c1, i1, k1⟩ := u_known hts in_X0 (hts _ ux_X0)
  obtain ⟨c2, i2, k2⟩ := u_known hts in_X1 (hts _ ux_X1)
  obtain ⟨c3, i3, k3⟩ := u_known hts in_X2 (hts _ ux_X2)
  obtain ⟨c4, i4, k4⟩ := u_known hts in_X3 (hts _ ux_X3)
  obtain ⟨a0, q0, p0, f0, g0, h0⟩ := Cond.arrayClass_spec (hts _ uz_arrayClass_1_60)
  obtain ⟨a1, q1, p1, f1, g1, h1⟩ := Cond.arrayClass_spec (hts _ uz_arrayClass_4_50)
  obtain ⟨a4, q4, p4, f4, g4, h4⟩ := Cond.arrayClass_spec (hts _ uz_arrayClass_5_45)
  obtain ⟨p2, a2, q2, e2, -, g2, h2, f2⟩ := Cond.arrayOver_spec hmb
  obtain ⟨p3, a3, q3, e3, -, g3, h3, f3⟩ := Cond.arrayOver_spec hob
  refine ⟨(fun c => match c with | 0 => c0 | 1 => c1 | 2 => c2 | 3 => c3 | _ => c4, fun c => match c with | 0 => i0 | 1 => i1 | 2 => i2 | 3 => i3 | _ => i4), fun k => match k with | 0 => a0 | 1 => a1 | 2 => a2 | 3 => a3 | _ => a4, fun c q hq => ?_, fun k q hq => ?_⟩
  · match c, hq with
    | 0, hq => cases hq; exact k0
    | 1, hq => cases hq; exact k1
    | 2, hq => cases hq; exact k2
    | 3, hq => cases hq; exact k3
    | 4, hq => cases hq; exact k4
    | c + 5, hq => cases hq
  · match k, hq with
    | 0, hq => cases hq; exact ⟨fun N z => ⟨(fun k h => by cases h), q0, g0, p0, h0⟩, f0⟩
    | 1, hq => cases hq; exact ⟨fun N z => ⟨(fun k h => by cases h), q1, g1, p1, h1⟩, f1⟩
    | 2, hq => cases hq; exact ⟨fun N z => ⟨(fun k h => by cases h), q2, g2, p2, h2⟩, q2, p2, g2, h2, e2, f2⟩
    | 3, hq => cases hq; exact ⟨fun N z => ⟨(fun k h => by cases h), q3, g3, p3, h3⟩, q3, p3, g3, h3, e3, f3⟩
    | 4, hq => cases hq; exact ⟨fun N z => ⟨(fun k h => by cases h), q4, g4, p4, h4⟩, f4⟩
    | k + 5, hq => cases hq
theorem len_of {args : Array Value} {s : State} {t : Term} {a : Nat} {cell : Cell} {ty : FieldType} (he : Term.eval args s none [] s t = some (.ref a)) (hc : s.heap[a]? = some cell) (ho : s.isArrayOf cell ty) (hk : cell.vm ≠ .unknown) (hs : cell.vm.isStatics = false) : Term.eval args s none [] s t.length = if cell.slots.size < 2147483648 then some (.int cell.slots.size.toInt32) else none := by
  obtain ⟨h1, k, h2, comp, h3⟩ := ho
  have e1 : s.arrayAt? a = some cell := by
    unfold State.arrayAt?
    simp [hc, h2, h3, hk, hs]
  simp [Term.eval] at he ⊢
  simp [he, e1]
theorem start_GF {s : State} {b : Nat} (hts : ∀ w ∈ lw_tbl, w.before #[Value.ref b] s = true) (hgv : (Jvm.Cond.and given_1 narrow_1).before #[Value.ref b] s = true) : ∃ g : Gx, g.2.2.1 = s.heap.size ∧ GF g s s.heap := by
  have hs := flat_of_before _ hgv
  have hU : ∀ w ∈ UW, w.before #[Value.ref b] s = true := fun w hw => hts w (List.mem_filter.mp hw).1
  obtain ⟨D, cy, hK⟩ := start_K hU (hts _ (by decide +kernel)) (hts _ (by decide +kernel))
  have hA : ∀ a : Nat, a < s.heap.size → ¬ s.heap.size ≤ a := fun a h => Nat.not_le.mpr h
  have hex : (Cond.exactly (.static "java/util/ArrayList" "DEFAULTCAPACITY_EMPTY_ELEMENTDATA" "[Ljava/lang/Object;") "[Ljava/lang/Object;").before #[Value.ref b] s = true := hs _ (by decide +kernel)
  have hof : (Cond.arrayOf (.static "java/util/ArrayList" "DEFAULTCAPACITY_EMPTY_ELEMENTDATA" "[Ljava/lang/Object;") (.object "java/lang/Object")).before #[Value.ref b] s = true := hs _ (by decide +kernel)
  have hln : (Cond.eq (.length (.static "java/util/ArrayList" "DEFAULTCAPACITY_EMPTY_ELEMENTDATA" "[Ljava/lang/Object;")) (.int 0)).before #[Value.ref b] s = true := hs _ (by decide +kernel)
  obtain ⟨d, c, cell, k, ev, -, hcell, -, hst, -, -⟩ := Cond.exactly_spec hex
  obtain ⟨hio, hun⟩ := Cond.arrayOf_spec hof ev hcell
  have hlen := len_of ev hcell hio hun hst
  have h0 : cell.slots.size.toInt32 = 0 := by
    by_cases hz : cell.slots.size < 2147483648
    · rw [if_pos hz] at hlen
      have := Cond.eq_ints (first := s) (o := none) (s := s) (idx := []) hlen (show Term.eval #[Value.ref b] s none [] s (.int 0) = some (.int 0) from rfl)
      simpa [Cond.before, Cond.holds, this] using hln
    · rw [if_neg hz] at hlen
      simp [Cond.before, Cond.holds, Cond.value, hlen] at hln
  have hlt : d < s.heap.size := (Array.getElem?_eq_some_iff.mp hcell).1
  refine ⟨(D, cy, s.heap.size, d), rfl, hK, ⟨va_Zof (hts _ (by decide +kernel)) (hts _ (by decide +kernel)) ev hA, cell, hcell, hio, h0, hA d hlt⟩, vx_Zqof (hts _ (by decide +kernel)) (hts _ (by decide +kernel)) (hs _ (by decide +kernel)) hA, vx_Zqof (hts _ (by decide +kernel)) (hts _ (by decide +kernel)) (hs _ (by decide +kernel)) hA, ?_, ?_, va_AO.of (hts _ (by decide +kernel)), va_Mi.of (hs _ (by decide +kernel)), va_Dc.of (hts _ (by decide +kernel))⟩
  · have hstr : ∀ own k tx, (Cond.stringRef own k tx).before #[Value.ref b] s = true → (Cond.exactly (.string own k) "java/lang/String").before #[Value.ref b] s = true → ∃ sa, vk_R own k tx sa s := fun own k tx h1 h2 => by
      obtain ⟨a, c, cell, k, ev, -⟩ := Cond.exactly_spec h2
      exact ⟨a, vk_R.of h1 ev⟩
    intro q hq
    simp only [strs, List.mem_cons, List.not_mem_nil, or_false] at hq
    rcases hq with rfl | rfl | rfl | rfl | rfl | rfl | rfl | rfl | rfl | rfl | rfl <;> exact hstr _ _ _ (hts _ (by decide +kernel)) (hs _ (by decide +kernel))
  · intro w hw
    exact va_any (FW_face hw).1 (hts w (List.mem_filter.mp hw).1)
/-- the law's walk, out of the meanings of its rounds -/
theorem whole_run {p : Program} {e : Env} {s : State} {m : MethodId} {below : List Frame} {meth : Method} {c : Code} (l : Launch) (hflags : l.flags = flags0) {b L : Nat} {xs : Nat → Int32} (hL : L ≤ 1536) (C0 : lw_At p s m meth c b L xs) (hex : ∀ x ∈ c.exceptionTable.toList, False) {σF : Sg} (hgo : goL xs L 512 0 σ0 = some σF) (hc : sC σF ≤ 601024) (hs : sS σF ≤ 7293034) : W p l e room_1 s m #[Value.ref b] below meth c s.heap [] 0 0 (lw_Z below #[Value.ref b] s) (entryFrame m ([Value.ref b] : List Value).toArray 7) := by
  obtain ⟨hx, hb, hr, hml, hown, hts, hscr, hbl, hlk, hgv⟩ := C0
  obtain ⟨g, hg, hGF⟩ := start_GF hts hgv
  have hnar := flat_of_before _ hgv
  have hst : l.stackTraces = false := by
    unfold Launch.stackTraces
    rw [hflags]
    decide
  have hx0 : Hx (p, l, e, room_1, s, m, #[Value.ref b], below, meth, c, lw_Z below #[Value.ref b] s, g, (fun _ => 0), 0, 0, 601024, 7293034) cL_law 7 RL 16 620 := ⟨⟨hx, hb, hml, hown, fun w hw => hts w (List.mem_filter.mp hw).1⟩, hlk, Nat.le_of_eq hg, rfl, rfl, hst, rfl, rfl⟩
  have hr0 : Hr (p, l, e, room_1, s, m, #[Value.ref b], below, meth, c, lw_Z below #[Value.ref b] s, g, (fun _ => 0), 0, 0, 601024, 7293034) (some .boolean) := ⟨hr, hex⟩
  have hX0 : xNI s := va_Nc.of (hnar (.not (.castable "java/lang/IllegalStateException" "java/lang/IndexOutOfBoundsException")) (by decide +kernel))
  have hS0 : Scr (p, l, e, room_1, s, m, #[Value.ref b], below, meth, c, lw_Z below #[Value.ref b] s, g, (fun _ => 0), 0, 0, 601024, 7293034) b L xs := ⟨hscr, hbl, fun z => by
    have z' : g.2.2.1 ≤ b := z
    rw [hg] at z'
    exact absurd z' (Nat.not_le.mpr hbl)⟩
  have kend : ∀ (L2 : Tg → Nat) (lc : LcT), Acf (wL (p, l, e, room_1, s, m, #[Value.ref b], below, meth, c, lw_Z below #[Value.ref b] s, g, (fun _ => 0), 0, 0, 601024, 7293034) L2) 1870 [] lc σF := fun L2 lc => by
    refine A_iconst (v := 1) hx0.wL dL_law_1870 (by decide) ?_
    intro H locs ls h1 h2 h3 h4 h5 h6 h7 h8
    refine va_forget (fun q hq => by have := h4.2.2 q hq; unfold gA at this; rw [hg] at this; exact this) (W.widen (by omega) (by omega) (lw_ret hx hb hr hlk dL_law_1871))
  have hA : AcH (p, l, e, room_1, s, m, #[Value.ref b], below, meth, c, lw_Z below #[Value.ref b] s, g, (fun _ => 0), 0, 0, 601024, 7293034) (fun H => H = s.heap) 0 0 0 [] [some (aq b), none, none, none, none, none, none] := by
    refine L_entry hx0 (va_AO.of (hts _ (by decide +kernel))) hst (show 40 ≤ 601024 by decide) (show 1316 ≤ 7293034 by decide) (fun b1 q m1 r o => ?_)
    refine AcH.ofA2 (L2 := L0 g.2.2.2 b1 q m1 r o) (st' := []) (lc' := lcL b 0 none none) (σ := σ0) (fun H h => RepX.first h) rfl rfl (show 0 + 40 ≤ 40 by decide) (show 0 + 1316 ≤ 1316 by decide) ?_ ?_
    · have h9 := (L_loop (by omega) 512 _ hx0 hr0 hX0 hS0 0 σ0 σF none none (by omega) (by omega) hgo ⟨hc, hs⟩ kend).1
      exact ⟨Nat.le_trans h9.1 hc, Nat.le_trans h9.2 hs⟩
    · exact (L_loop (by omega) 512 _ hx0.wL hr0.wL (xNI_wL hX0) hS0.wL 0 σ0 σF none none (by omega) (by omega) hgo (fit_wL ⟨hc, hs⟩) (fun L3 lc => by rw [wL_wL]; exact kend L3 lc)).2
  rw [lg_entry_eq]
  have hls := lv_entry [Value.ref b] (n := 7) (show 1 ≤ 7 by decide)
  generalize (lg_sl [Value.ref b] ++ List.replicate (7 - (lg_sl [Value.ref b]).length) Slot.unset).toArray = ls at hls ⊢
  refine hA s.heap [] ls ⟨hls.1, hls.2.1, fun i v hi => ?_⟩ rfl hGF va_S.rf
  match i, hi with
  | 0, hi => cases hi; exact ⟨hls.2.2 (0, .ref b) List.mem_cons_self, rfl⟩
  | 1, hi => cases hi
  | 2, hi => cases hi
  | 3, hi => cases hi
  | 4, hi => cases hi
  | 5, hi => cases hi
  | 6, hi => cases hi
  | i + 7, hi => cases hi
