/-! the heap holds the abstract state; what every method may take as given; the abstract configuration -/
abbrev Gx : Type := va_G × (Nat → ClassId) × Nat × Nat
def tyl (cy : Nat → ClassId) : List (ClassId × FieldType) := [(cy 0, .int), (cy 1, .int), (cy 2, .object "Causewaymail$Member"), (cy 3, .object "java/lang/Object"), (cy 4, .long)]
def gA (g : Gx) : Nat → Prop := fun q => g.2.2.1 ≤ q
def RepF (g : Gx) (L : Tg → Nat) (σ : Sg) (H : Heap) : Prop :=
  (∀ t, vld σ t = true → va_at g.1 vwCl (L t, cellOf L g.2.1 σ t) H) ∧ (∀ t u, vld σ t = true → vld σ u = true → L t = L u → t = u) ∧ (∀ t, vld σ t = true → t.1 ≠ 13 → gA g (L t)) ∧ L (13, 0) = g.2.2.2 ∧ ∀ k, k < 11 → (σ.2.1 k).length ≤ σ.2.2.1 (10 + k) ∧ ∀ x ∈ σ.2.1 k, x < σ.2.2.1 0
def RepX (g : Gx) (L : Tg → Nat) (σ : Sg) (H : Heap) : Prop := ∃ L', (∀ t : Tg, t.1 ≠ 5 → L' t = L t) ∧ RepF g L' σ H
/-- table words that stand for a class's face: they move with the tables -/
def FW : List Cond := lw_tbl.filter (fun w => w.onTables && w.faceAtom)
def strs : List (String × Nat × String) := [(RX2, 195, "no such member"), (RX2, 48, "nothing can be sent by this member now"), (RX2, 198, "no such message"), (RX2, 104, "the copy can't arrive"), (RX2, 110, "the copy is not on its way"), (RX2, 112, "the copy is not lost"), (RX2, 200, "no such place"), (RX2, 145, "the token can't go to this member now"), (RX2, 151, "the member has failed"), (RX2, 174, "the member has failed, or is the only one alive"), (RX2, 176, "no member of the view has failed")]
/-- of the tables alone -/
def GT (U : State) : Prop := (∀ q ∈ strs, ∃ sa, vk_R q.1 q.2.1 q.2.2 sa U) ∧ (∀ w ∈ FW, va_Nw w U) ∧ va_AO "java/lang/Object" U ∧ (∃ mi, va_Mi "[Ljava/lang/Object;" mi U) ∧ va_Dc U ∧ va_Nc "java/lang/IllegalStateException" "java/lang/IndexOutOfBoundsException" U
/-- the static empty array: an array of no element, whatever else its cell holds -/
def Z0 (g : Gx) (U : State) (H : Heap) : Prop := ∃ cell : Cell, H[g.2.2.2]? = some cell ∧ U.isArrayOf cell (.object "java/lang/Object") ∧ cell.slots.size.toInt32 = 0 ∧ ¬ gA g g.2.2.2
theorem Z0.kept {g : Gx} {U : State} {H H1 : Heap} (h : Z0 g U H) (hq : ∀ a : Nat, a < H.size → ¬ gA g a → H1[a]? = H[a]?) : Z0 g U H1 := by
  obtain ⟨cell, h1, h2, h3, h4⟩ := h
  exact ⟨cell, by rw [hq _ (Array.getElem?_eq_some_iff.mp h1).1 h4]; exact h1, h2, h3, h4⟩
theorem Z0.moved {g : Gx} {u U : State} {H : Heap} (hvm : u.vm.Alike U.vm) (h : Z0 g u H) : Z0 g U H := by
  obtain ⟨cell, h1, h2, h3, h4⟩ := h
  exact ⟨cell, h1, State.isArrayOf_alike hvm h2, h3, h4⟩
def GF (g : Gx) (U : State) (H : Heap) : Prop := va_K g.1 vwCl (tyl g.2.1) U ∧ (va_Z "java/util/ArrayList" "DEFAULTCAPACITY_EMPTY_ELEMENTDATA" "[Ljava/lang/Object;" (.ref g.2.2.2) (gA g) U H ∧ Z0 g U H) ∧ vx_Zq Bundle.tN "UNASSIGNED_STACK" Bundle.steD (gA g) U H ∧ vx_Zq Bundle.tN "SUPPRESSED_SENTINEL" Bundle.listD (gA g) U H ∧ GT U
theorem FW_face {w : Cond} (h : w ∈ FW) : w.onTables = true ∧ w.faceAtom = true := by
  have := (List.mem_filter.mp h).2
  simpa using this
theorem GT.warm {s U : State} (h : GT s) (hW : s.WarmedH U.vm) : GT U := by
  obtain ⟨h1, h2, h3, ⟨mi, h4⟩, h5, h6⟩ := h
  refine ⟨fun q hq => ?_, fun w hw => ?_, h3.moved hW.alike, ⟨mi, h4.moved hW.alike⟩, h5.moved hW.alike, h6.moved hW.alike⟩
  · obtain ⟨sa, hs⟩ := h1 q hq
    exact ⟨sa, vk_R.warm hW hs⟩
  · obtain ⟨f1, f2⟩ := FW_face hw
    exact va_tabs f1 (rfl : (s.setVm U.vm).vm = U.vm) (Cond.faceAtom_setVm hW.alike w f2 (h2 w hw))
theorem GF.warm {g : Gx} {s U : State} {H : Heap} (h : GF g s H) (hW : s.WarmedH U.vm) : GF g U H := ⟨va_K.moved hW.alike h.1, ⟨va_Z.moved hW.alike h.2.1.1, h.2.1.2.moved hW.alike⟩, vx_Zq.moved hW.alike h.2.2.1, vx_Zq.moved hW.alike h.2.2.2.1, h.2.2.2.2.warm hW⟩
theorem GF.same {g : Gx} {s U : State} {H : Heap} (h : GF g s H) (hv : U.vm = s.vm) : GF g U H := h.warm (by rw [hv]; exact State.WarmedH.refl s)
theorem GF.kept {g : Gx} {U : State} {H H1 : Heap} (h : GF g U H) (hq : ∀ a : Nat, a < H.size → ¬ gA g a → H1[a]? = H[a]?) : GF g U H1 := ⟨h.1, ⟨h.2.1.1.kept hq, h.2.1.2.kept hq⟩, h.2.2.1.kept hq, h.2.2.2.1.kept hq, h.2.2.2.2⟩
theorem RepX.put {g : Gx} {L : Tg → Nat} {σ : Sg} {H H' : Heap} {k o j : Nat} {x : Int32} (h : RepX g L σ H) (hv : vld σ (ownr k o) = true)
    (hc : ∀ L' : Tg → Nat, (∀ t : Tg, t.1 ≠ 5 → L' t = L t) → va_at g.1 vwCl (L' (ownr k o), cellOf L' g.2.1 σ (ownr k o)) H → va_at g.1 vwCl (L' (ownr k o), cellOf L' g.2.1 (upI σ k o j x) (ownr k o)) H') (oq : ∀ q : Nat, q ≠ L (ownr k o) → H'[q]? = H[q]?) : RepX g L (upI σ k o j x) H' := by
  obtain ⟨L', hL, h1, h2, h3, h4, h5⟩ := h
  refine ⟨L', hL, fun t ht => ?_, h2, h3, h4, h5⟩
  have ht' : vld σ t = true := ht
  by_cases e : ownr k o = t
  · rw [← e]
    exact hc L' hL (h1 _ hv)
  · rw [cellOf_ne e]
    refine (h1 t ht').kept (oq _ fun z => e (h2 _ _ hv ht' ?_))
    show L' (ownr k o) = L' t
    rw [hL _ (ownr_5 k o)]
    exact z.symm
/-- the walk's fixed things: program, launch, environment, room, state, method, arguments, callers, method, code, goal; world, layout; cells and slots: at the start, at the end -/
abbrev Kx : Type := Program × Launch × Env × Room × State × MethodId × Array Value × List Frame × Method × Code × (State → Prop) × Gx × (Tg → Nat) × Nat × Nat × Nat × Nat
abbrev LcT : Type := List (Option AV)
/-- the locals: a value of two slots counts while nothing is said of the place behind it -/
def isNo : Option (Option AV) → Bool
  | some none => true
  | _ => false
def lvA (L : Tg → Nat) (lc : LcT) (ls : Array Slot) : Prop := ls.size = lc.length ∧ lv_wf ls ∧ ∀ (i : Nat) (v : AV), lc[i]? = some (some v) → ((cv L v).category = 1 ∨ isNo lc[i + 1]? = true) → ls[i]? = some (.val (cv L v))
def Acf (κ : Kx) (pc : Nat) (st : List AV) (lc : LcT) (σ : Sg) : Prop := match κ with
  | (p, l, e, R, s, m, args, below, meth, c, Q, g, L, c0, s0, fc, fs) => ∀ (H : Heap) (locs : List Loc) (ls : Array Slot), lvA L lc ls → RepX g L σ H → GF g s H → va_S (gA g) s.heap H locs → c0 ≤ sC σ → s0 ≤ sS σ → sC σ ≤ fc → sS σ ≤ fs → W p l e R s m args below meth c H locs (sC σ - c0) (sS σ - s0) Q (F0 m pc ls (st.map (cv L)))
/-- what a walk stands on: the code, its locals' size, the class that it stands in -/
def Hx (κ : Kx) (cc : ByteArray) (nL : Nat) (own : String) (fX lX : Nat) : Prop := match κ with
  | (p, l, e, R, s, m, args, below, meth, c, Q, g, L, c0, s0, fc, fs) => (p.tables.exec = Jvm.exec ∧ c.code = cc ∧ c.maxLocals = nL ∧ s.vm.findClass own = some m.cls ∧ ∀ w ∈ UW, w.before args s = true) ∧ meth.locks = false ∧ g.2.2.1 ≤ s.heap.size ∧ R.cells = fc - c0 ∧ R.slots = fs - s0 ∧ l.stackTraces = false ∧ R.frames = fX ∧ R.locals = lX
def lvl (L : Tg → Nat) (lc : LcT) : List (Nat × Value) := (List.range lc.length).filterMap (fun i => match lc[i]? with
  | some (some v) => if (cv L v).category = 1 ∨ isNo lc[i + 1]? = true then some (i, cv L v) else none
  | _ => none)
theorem lvl_mem {L : Tg → Nat} {lc : LcT} {q : Nat × Value} (h : q ∈ lvl L lc) : ∃ v, lc[q.1]? = some (some v) ∧ q.2 = cv L v ∧ ((cv L v).category = 1 ∨ isNo lc[q.1 + 1]? = true) := by
  obtain ⟨i, -, hi⟩ := List.mem_filterMap.mp h
  split at hi
  · rename_i v hv
    split at hi
    · rename_i hc
      cases hi
      exact ⟨v, hv, rfl, hc⟩
    · cases hi
  · cases hi
theorem lvl_in {L : Tg → Nat} {lc : LcT} {i : Nat} {v : AV} (h : lc[i]? = some (some v)) (hc : (cv L v).category = 1 ∨ isNo lc[i + 1]? = true) : (i, cv L v) ∈ lvl L lc :=
  List.mem_filterMap.mpr ⟨i, List.mem_range.mpr (List.getElem?_eq_some_iff.mp h).1, by rw [h]; exact if_pos hc⟩
theorem lvA.has {L : Tg → Nat} {lc : LcT} {ls : Array Slot} (h : lvA L lc ls) : lv_has ls lc.length (lvl L lc) := by
  refine ⟨h.1, h.2.1, fun q hq => ?_⟩
  obtain ⟨v, hv, e, hc⟩ := lvl_mem hq
  rw [e]
  exact h.2.2 _ _ hv hc
theorem lvA.set {L : Tg → Nat} {lc : LcT} {ls ls' : Array Slot} {i : Nat} {v : AV} (h : lvA L lc ls) (hi : i < lc.length) (_ : (cv L v).category = 1)
    (h' : lv_has ls' lc.length ((i, cv L v) :: (lvl L lc).filter (fun q => !(q.1 == i) && !(q.1 + 1 == i && q.2.category == 2)))) : lvA L (lc.set i (some v)) ls' := by
  refine ⟨by rw [List.length_set]; exact h'.1, h'.2.1, fun j w hw ho => ?_⟩
  by_cases e : j = i
  · subst e
    rw [List.getElem?_set_self hi] at hw
    cases hw
    exact h'.2.2 _ List.mem_cons_self
  · rw [List.getElem?_set_ne (Ne.symm e)] at hw
    have h1 : (cv L w).category = 1 ∨ (isNo lc[j + 1]? = true ∧ ¬ j + 1 = i) := by
      rcases ho with q | q
      · exact Or.inl q
      · by_cases c : i = j + 1
        · rw [← c, List.getElem?_set_self hi] at q
          cases q
        · rw [List.getElem?_set_ne c] at q
          exact Or.inr ⟨q, fun z => c z.symm⟩
    refine h'.2.2 (j, cv L w) (List.mem_cons_of_mem _ (List.mem_filter.mpr ⟨lvl_in hw (h1.imp id And.left), ?_⟩))
    rcases h1 with q | ⟨-, q⟩ <;> simp [e, q]
theorem lvA.setJ {L : Tg → Nat} {lc : LcT} {ls ls' : Array Slot} {i : Nat} {x : Int64} (h : lvA L lc ls) (hi : i + 1 < lc.length)
    (h' : lv_has ls' lc.length ((i, Value.long x) :: (lvl L lc).filter (fun q => !(q.1 == i) && (!(q.1 == i + 1) && !(q.1 + 1 == i && q.2.category == 2))))) : lvA L ((lc.set i (some (.inl (.long x)))).set (i + 1) none) ls' := by
  refine ⟨by rw [List.length_set, List.length_set]; exact h'.1, h'.2.1, fun j w hw ho => ?_⟩
  by_cases e1 : j = i + 1
  · subst e1
    rw [List.getElem?_set_self (by rw [List.length_set]; exact hi)] at hw
    cases hw
  · rw [List.getElem?_set_ne (Ne.symm e1)] at hw
    by_cases e : j = i
    · subst e
      rw [List.getElem?_set_self (by omega)] at hw
      cases hw
      exact h'.2.2 _ List.mem_cons_self
    · rw [List.getElem?_set_ne (Ne.symm e)] at hw
      have h1 : (cv L w).category = 1 ∨ (isNo lc[j + 1]? = true ∧ ¬ j + 1 = i) := by
        rcases ho with q | q
        · exact Or.inl q
        · by_cases c : i = j + 1
          · rw [← c, List.getElem?_set_ne (by omega), List.getElem?_set_self (by omega)] at q
            cases q
          · rw [List.getElem?_set_ne (by omega), List.getElem?_set_ne c] at q
            exact Or.inr ⟨q, fun z => c z.symm⟩
      refine h'.2.2 (j, cv L w) (List.mem_cons_of_mem _ (List.mem_filter.mpr ⟨lvl_in hw (h1.imp id And.left), ?_⟩))
      rcases h1 with q | ⟨-, q⟩ <;> simp [e, e1, q]
theorem isNo_map {f g : AV → Value} {lc lc' : LcT} (h : lc.map (Option.map f) = lc'.map (Option.map g)) (i : Nat) : isNo lc[i]? = isNo lc'[i]? := by
  have e := congrArg (fun l => l[i]?) h
  simp only [List.getElem?_map] at e
  rcases h1 : lc[i]? with _ | (_ | a) <;> rcases h2 : lc'[i]? with _ | (_ | b) <;> first | rfl | (rw [h1, h2] at e; cases e)
