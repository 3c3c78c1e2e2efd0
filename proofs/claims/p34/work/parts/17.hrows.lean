/-! the walk over raw references, over any predicate of the heap (its plain rows are laid by wip/p34/gen/rowsh.py) -/
abbrev aq (a : Nat) : AV := .inl (.ref a)
def AcH (κ : Kx) (Rp : Heap → Prop) (nc ns pc : Nat) (st : List AV) (lc : LcT) : Prop := match κ with
  | (p, l, e, R, s, m, args, below, meth, c, Q, g, L, c0, s0, fc, fs) => ∀ (H : Heap) (locs : List Loc) (ls : Array Slot), lvA L lc ls → Rp H → GF g s H → va_S (gA g) s.heap H locs → W p l e R s m args below meth c H locs nc ns Q (F0 m pc ls (st.map (cv L)))
/-- the room that is left for cells and slots -/
def kr (κ : Kx) : Nat × Nat := match κ with
  | (p, l, e, R, s, m, args, below, meth, c, Q, g, L, c0, s0, fc, fs) => (fc - c0, fs - s0)
def kL (κ : Kx) : Tg → Nat := κ.2.2.2.2.2.2.2.2.2.2.2.2.1
theorem H_iadd {κ : Kx} {cc : ByteArray} {nL fX lX : Nat} {own : String} (hx : Hx κ cc nL own fX lX) {pc : Nat} {st : List AV} {lc : LcT} {Rp : Heap → Prop} {nc ns : Nat} {x y : Int32} (d : decode cc pc = .ok (.iadd, 1)) (k : AcH κ Rp nc ns (pc + 1) (ai (x + y) :: st) lc) : AcH κ Rp nc ns pc (ai y :: ai x :: st) lc := by
  obtain ⟨p, l, e, R, s, m, args, below, meth, c, Q, g, L, c0, s0, fc, fs⟩ := κ
  obtain ⟨⟨hxe, hxb, hxl, hxo, hxw⟩, hxk, hxz, hxc, hxs, hxt, hxf, hxr⟩ := hx
  intro H locs ls h1 h2 h3 h4
  exact lv_iadd hxe hxb d (k H locs ls h1 h2 h3 h4)
theorem H_isub {κ : Kx} {cc : ByteArray} {nL fX lX : Nat} {own : String} (hx : Hx κ cc nL own fX lX) {pc : Nat} {st : List AV} {lc : LcT} {Rp : Heap → Prop} {nc ns : Nat} {x y : Int32} (d : decode cc pc = .ok (.isub, 1)) (k : AcH κ Rp nc ns (pc + 1) (ai (x - y) :: st) lc) : AcH κ Rp nc ns pc (ai y :: ai x :: st) lc := by
  obtain ⟨p, l, e, R, s, m, args, below, meth, c, Q, g, L, c0, s0, fc, fs⟩ := κ
  obtain ⟨⟨hxe, hxb, hxl, hxo, hxw⟩, hxk, hxz, hxc, hxs, hxt, hxf, hxr⟩ := hx
  intro H locs ls h1 h2 h3 h4
  exact lv_isub hxe hxb d (k H locs ls h1 h2 h3 h4)
theorem H_imul {κ : Kx} {cc : ByteArray} {nL fX lX : Nat} {own : String} (hx : Hx κ cc nL own fX lX) {pc : Nat} {st : List AV} {lc : LcT} {Rp : Heap → Prop} {nc ns : Nat} {x y : Int32} (d : decode cc pc = .ok (.imul, 1)) (k : AcH κ Rp nc ns (pc + 1) (ai (x * y) :: st) lc) : AcH κ Rp nc ns pc (ai y :: ai x :: st) lc := by
  obtain ⟨p, l, e, R, s, m, args, below, meth, c, Q, g, L, c0, s0, fc, fs⟩ := κ
  obtain ⟨⟨hxe, hxb, hxl, hxo, hxw⟩, hxk, hxz, hxc, hxs, hxt, hxf, hxr⟩ := hx
  intro H locs ls h1 h2 h3 h4
  exact lv_imul hxe hxb d (k H locs ls h1 h2 h3 h4)
theorem H_iand {κ : Kx} {cc : ByteArray} {nL fX lX : Nat} {own : String} (hx : Hx κ cc nL own fX lX) {pc : Nat} {st : List AV} {lc : LcT} {Rp : Heap → Prop} {nc ns : Nat} {x y : Int32} (d : decode cc pc = .ok (.iand, 1)) (k : AcH κ Rp nc ns (pc + 1) (ai (x &&& y) :: st) lc) : AcH κ Rp nc ns pc (ai y :: ai x :: st) lc := by
  obtain ⟨p, l, e, R, s, m, args, below, meth, c, Q, g, L, c0, s0, fc, fs⟩ := κ
  obtain ⟨⟨hxe, hxb, hxl, hxo, hxw⟩, hxk, hxz, hxc, hxs, hxt, hxf, hxr⟩ := hx
  intro H locs ls h1 h2 h3 h4
  exact lv_iand hxe hxb d (k H locs ls h1 h2 h3 h4)
theorem H_iconst {κ : Kx} {cc : ByteArray} {nL fX lX : Nat} {own : String} (hx : Hx κ cc nL own fX lX) {pc : Nat} {st : List AV} {lc : LcT} {Rp : Heap → Prop} {nc ns : Nat} {n : Int} {v : Int32} (d : decode cc pc = .ok (.iconst n, 1)) (hv : Int32.ofInt n = v) (k : AcH κ Rp nc ns (pc + 1) (ai v :: st) lc) : AcH κ Rp nc ns pc st lc := by
  obtain ⟨p, l, e, R, s, m, args, below, meth, c, Q, g, L, c0, s0, fc, fs⟩ := κ
  obtain ⟨⟨hxe, hxb, hxl, hxo, hxw⟩, hxk, hxz, hxc, hxs, hxt, hxf, hxr⟩ := hx
  intro H locs ls h1 h2 h3 h4
  exact lv_iconst hxe hxb d hv (k H locs ls h1 h2 h3 h4)
theorem H_bipush {κ : Kx} {cc : ByteArray} {nL fX lX : Nat} {own : String} (hx : Hx κ cc nL own fX lX) {pc : Nat} {st : List AV} {lc : LcT} {Rp : Heap → Prop} {nc ns : Nat} {n : Int} {v : Int32} (d : decode cc pc = .ok (.bipush n, 2)) (hv : (Int8.ofInt n).toInt32 = v) (k : AcH κ Rp nc ns (pc + 2) (ai v :: st) lc) : AcH κ Rp nc ns pc st lc := by
  obtain ⟨p, l, e, R, s, m, args, below, meth, c, Q, g, L, c0, s0, fc, fs⟩ := κ
  obtain ⟨⟨hxe, hxb, hxl, hxo, hxw⟩, hxk, hxz, hxc, hxs, hxt, hxf, hxr⟩ := hx
  intro H locs ls h1 h2 h3 h4
  exact lv_bipush hxe hxb d hv (k H locs ls h1 h2 h3 h4)
theorem H_null {κ : Kx} {cc : ByteArray} {nL fX lX : Nat} {own : String} (hx : Hx κ cc nL own fX lX) {pc : Nat} {st : List AV} {lc : LcT} {Rp : Heap → Prop} {nc ns : Nat} (d : decode cc pc = .ok (.aconst_null, 1)) (k : AcH κ Rp nc ns (pc + 1) (an :: st) lc) : AcH κ Rp nc ns pc st lc := by
  obtain ⟨p, l, e, R, s, m, args, below, meth, c, Q, g, L, c0, s0, fc, fs⟩ := κ
  obtain ⟨⟨hxe, hxb, hxl, hxo, hxw⟩, hxk, hxz, hxc, hxs, hxt, hxf, hxr⟩ := hx
  intro H locs ls h1 h2 h3 h4
  exact lv_null hxe hxb d (k H locs ls h1 h2 h3 h4)
theorem H_iload_n {κ : Kx} {cc : ByteArray} {nL fX lX : Nat} {own : String} (hx : Hx κ cc nL own fX lX) {pc : Nat} {st : List AV} {lc : LcT} {Rp : Heap → Prop} {nc ns : Nat} {i : Fin 4} {x : Int32} (d : decode cc pc = .ok (.iload_n i, 1)) (hl : lc[(i : Nat)]? = some (some (ai x))) (k : AcH κ Rp nc ns (pc + 1) (ai x :: st) lc) : AcH κ Rp nc ns pc st lc := by
  obtain ⟨p, l, e, R, s, m, args, below, meth, c, Q, g, L, c0, s0, fc, fs⟩ := κ
  obtain ⟨⟨hxe, hxb, hxl, hxo, hxw⟩, hxk, hxz, hxc, hxs, hxt, hxf, hxr⟩ := hx
  intro H locs ls h1 h2 h3 h4
  exact lv_iload_n hxe hxb d rfl (h1.2.2 _ _ hl (Or.inl rfl)) (k H locs ls h1 h2 h3 h4)
theorem H_iload {κ : Kx} {cc : ByteArray} {nL fX lX : Nat} {own : String} (hx : Hx κ cc nL own fX lX) {pc : Nat} {st : List AV} {lc : LcT} {Rp : Heap → Prop} {nc ns : Nat} {i : Nat} {x : Int32} (d : decode cc pc = .ok (.iload i, 2)) (hl : lc[i]? = some (some (ai x))) (k : AcH κ Rp nc ns (pc + 2) (ai x :: st) lc) : AcH κ Rp nc ns pc st lc := by
  obtain ⟨p, l, e, R, s, m, args, below, meth, c, Q, g, L, c0, s0, fc, fs⟩ := κ
  obtain ⟨⟨hxe, hxb, hxl, hxo, hxw⟩, hxk, hxz, hxc, hxs, hxt, hxf, hxr⟩ := hx
  intro H locs ls h1 h2 h3 h4
  exact lv_iload hxe hxb d (h1.2.2 _ _ hl (Or.inl rfl)) (k H locs ls h1 h2 h3 h4)
theorem H_aload_n {κ : Kx} {cc : ByteArray} {nL fX lX : Nat} {own : String} (hx : Hx κ cc nL own fX lX) {pc : Nat} {st : List AV} {lc : LcT} {Rp : Heap → Prop} {nc ns : Nat} {i : Fin 4} {t : Nat} (d : decode cc pc = .ok (.aload_n i, 1)) (hl : lc[(i : Nat)]? = some (some (aq t))) (k : AcH κ Rp nc ns (pc + 1) (aq t :: st) lc) : AcH κ Rp nc ns pc st lc := by
  obtain ⟨p, l, e, R, s, m, args, below, meth, c, Q, g, L, c0, s0, fc, fs⟩ := κ
  obtain ⟨⟨hxe, hxb, hxl, hxo, hxw⟩, hxk, hxz, hxc, hxs, hxt, hxf, hxr⟩ := hx
  intro H locs ls h1 h2 h3 h4
  exact lv_aload_n hxe hxb d rfl (h1.2.2 _ _ hl (Or.inl rfl)) (k H locs ls h1 h2 h3 h4)
theorem H_aload {κ : Kx} {cc : ByteArray} {nL fX lX : Nat} {own : String} (hx : Hx κ cc nL own fX lX) {pc : Nat} {st : List AV} {lc : LcT} {Rp : Heap → Prop} {nc ns : Nat} {i : Nat} {t : Nat} (d : decode cc pc = .ok (.aload i, 2)) (hl : lc[i]? = some (some (aq t))) (k : AcH κ Rp nc ns (pc + 2) (aq t :: st) lc) : AcH κ Rp nc ns pc st lc := by
  obtain ⟨p, l, e, R, s, m, args, below, meth, c, Q, g, L, c0, s0, fc, fs⟩ := κ
  obtain ⟨⟨hxe, hxb, hxl, hxo, hxw⟩, hxk, hxz, hxc, hxs, hxt, hxf, hxr⟩ := hx
  intro H locs ls h1 h2 h3 h4
  exact lv_aload hxe hxb d (h1.2.2 _ _ hl (Or.inl rfl)) (k H locs ls h1 h2 h3 h4)
theorem H_aload_nN {κ : Kx} {cc : ByteArray} {nL fX lX : Nat} {own : String} (hx : Hx κ cc nL own fX lX) {pc : Nat} {st : List AV} {lc : LcT} {Rp : Heap → Prop} {nc ns : Nat} {i : Fin 4} (d : decode cc pc = .ok (.aload_n i, 1)) (hl : lc[(i : Nat)]? = some (some an)) (k : AcH κ Rp nc ns (pc + 1) (an :: st) lc) : AcH κ Rp nc ns pc st lc := by
  obtain ⟨p, l, e, R, s, m, args, below, meth, c, Q, g, L, c0, s0, fc, fs⟩ := κ
  obtain ⟨⟨hxe, hxb, hxl, hxo, hxw⟩, hxk, hxz, hxc, hxs, hxt, hxf, hxr⟩ := hx
  intro H locs ls h1 h2 h3 h4
  exact lv_aload_nN hxe hxb d rfl (h1.2.2 _ _ hl (Or.inl rfl)) (k H locs ls h1 h2 h3 h4)
theorem H_istore_n {κ : Kx} {cc : ByteArray} {nL fX lX : Nat} {own : String} (hx : Hx κ cc nL own fX lX) {pc : Nat} {st : List AV} {lc : LcT} {Rp : Heap → Prop} {nc ns : Nat} {i : Fin 4} {x : Int32} (d : decode cc pc = .ok (.istore_n i, 1)) (hi : (i : Nat) < lc.length) (k : AcH κ Rp nc ns (pc + 1) st (lc.set (i : Nat) (some (ai x)))) : AcH κ Rp nc ns pc (ai x :: st) lc := by
  obtain ⟨p, l, e, R, s, m, args, below, meth, c, Q, g, L, c0, s0, fc, fs⟩ := κ
  obtain ⟨⟨hxe, hxb, hxl, hxo, hxw⟩, hxk, hxz, hxc, hxs, hxt, hxf, hxr⟩ := hx
  intro H locs ls h1 h2 h3 h4
  exact lv_istore_n hxe hxb d rfl h1.has hi rfl (fun ls' h' => k H locs ls' (h1.set hi rfl h') h2 h3 h4)
theorem H_istore {κ : Kx} {cc : ByteArray} {nL fX lX : Nat} {own : String} (hx : Hx κ cc nL own fX lX) {pc : Nat} {st : List AV} {lc : LcT} {Rp : Heap → Prop} {nc ns : Nat} {i : Nat} {x : Int32} (d : decode cc pc = .ok (.istore i, 2)) (hi : i < lc.length) (k : AcH κ Rp nc ns (pc + 2) st (lc.set i (some (ai x)))) : AcH κ Rp nc ns pc (ai x :: st) lc := by
  obtain ⟨p, l, e, R, s, m, args, below, meth, c, Q, g, L, c0, s0, fc, fs⟩ := κ
  obtain ⟨⟨hxe, hxb, hxl, hxo, hxw⟩, hxk, hxz, hxc, hxs, hxt, hxf, hxr⟩ := hx
  intro H locs ls h1 h2 h3 h4
  exact lv_istore hxe hxb d h1.has hi rfl (fun ls' h' => k H locs ls' (h1.set hi rfl h') h2 h3 h4)
theorem H_astore_n {κ : Kx} {cc : ByteArray} {nL fX lX : Nat} {own : String} (hx : Hx κ cc nL own fX lX) {pc : Nat} {st : List AV} {lc : LcT} {Rp : Heap → Prop} {nc ns : Nat} {i : Fin 4} {t : Nat} (d : decode cc pc = .ok (.astore_n i, 1)) (hi : (i : Nat) < lc.length) (k : AcH κ Rp nc ns (pc + 1) st (lc.set (i : Nat) (some (aq t)))) : AcH κ Rp nc ns pc (aq t :: st) lc := by
  obtain ⟨p, l, e, R, s, m, args, below, meth, c, Q, g, L, c0, s0, fc, fs⟩ := κ
  obtain ⟨⟨hxe, hxb, hxl, hxo, hxw⟩, hxk, hxz, hxc, hxs, hxt, hxf, hxr⟩ := hx
  intro H locs ls h1 h2 h3 h4
  exact lv_astore_n hxe hxb d rfl h1.has hi rfl (fun ls' h' => k H locs ls' (h1.set hi rfl h') h2 h3 h4)
theorem H_astore {κ : Kx} {cc : ByteArray} {nL fX lX : Nat} {own : String} (hx : Hx κ cc nL own fX lX) {pc : Nat} {st : List AV} {lc : LcT} {Rp : Heap → Prop} {nc ns : Nat} {i : Nat} {t : Nat} (d : decode cc pc = .ok (.astore i, 2)) (hi : i < lc.length) (k : AcH κ Rp nc ns (pc + 2) st (lc.set i (some (aq t)))) : AcH κ Rp nc ns pc (aq t :: st) lc := by
  obtain ⟨p, l, e, R, s, m, args, below, meth, c, Q, g, L, c0, s0, fc, fs⟩ := κ
  obtain ⟨⟨hxe, hxb, hxl, hxo, hxw⟩, hxk, hxz, hxc, hxs, hxt, hxf, hxr⟩ := hx
  intro H locs ls h1 h2 h3 h4
  exact lv_astore hxe hxb d h1.has hi rfl (fun ls' h' => k H locs ls' (h1.set hi rfl h') h2 h3 h4)
theorem H_astore_nN {κ : Kx} {cc : ByteArray} {nL fX lX : Nat} {own : String} (hx : Hx κ cc nL own fX lX) {pc : Nat} {st : List AV} {lc : LcT} {Rp : Heap → Prop} {nc ns : Nat} {i : Fin 4} (d : decode cc pc = .ok (.astore_n i, 1)) (hi : (i : Nat) < lc.length) (k : AcH κ Rp nc ns (pc + 1) st (lc.set (i : Nat) (some an))) : AcH κ Rp nc ns pc (an :: st) lc := by
  obtain ⟨p, l, e, R, s, m, args, below, meth, c, Q, g, L, c0, s0, fc, fs⟩ := κ
  obtain ⟨⟨hxe, hxb, hxl, hxo, hxw⟩, hxk, hxz, hxc, hxs, hxt, hxf, hxr⟩ := hx
  intro H locs ls h1 h2 h3 h4
  exact lv_astore_nN hxe hxb d rfl h1.has hi rfl (fun ls' h' => k H locs ls' (h1.set hi rfl h') h2 h3 h4)
theorem H_iinc {κ : Kx} {cc : ByteArray} {nL fX lX : Nat} {own : String} (hx : Hx κ cc nL own fX lX) {pc : Nat} {st : List AV} {lc : LcT} {Rp : Heap → Prop} {nc ns : Nat} {i : Nat} {n : Int} {x v : Int32} (d : decode cc pc = .ok (.iinc i n, 3)) (hl : lc[i]? = some (some (ai x))) (hv : x + Int32.ofInt n = v) (k : AcH κ Rp nc ns (pc + 3) st (lc.set i (some (ai v)))) : AcH κ Rp nc ns pc st lc := by
  obtain ⟨p, l, e, R, s, m, args, below, meth, c, Q, g, L, c0, s0, fc, fs⟩ := κ
  obtain ⟨⟨hxe, hxb, hxl, hxo, hxw⟩, hxk, hxz, hxc, hxs, hxt, hxf, hxr⟩ := hx
  intro H locs ls h1 h2 h3 h4
  obtain ⟨j, hj⟩ := List.getElem?_of_mem (lvl_in (L := L) hl (Or.inl rfl))
  have hi := (List.getElem?_eq_some_iff.mp hl).1
  exact lv_iinc hxe hxb d h1.has hj hv hi rfl (fun ls' h' => k H locs ls' (h1.set hi rfl h') h2 h3 h4)
theorem H_dup {κ : Kx} {cc : ByteArray} {nL fX lX : Nat} {own : String} (hx : Hx κ cc nL own fX lX) {pc : Nat} {st : List AV} {lc : LcT} {Rp : Heap → Prop} {nc ns : Nat} {v : AV} (hc : (∃ x, v = ai x) ∨ ∃ t, v = aq t) (d : decode cc pc = .ok (.dup, 1)) (k : AcH κ Rp nc ns (pc + 1) (v :: v :: st) lc) : AcH κ Rp nc ns pc (v :: st) lc := by
  obtain ⟨p, l, e, R, s, m, args, below, meth, c, Q, g, L, c0, s0, fc, fs⟩ := κ
  obtain ⟨⟨hxe, hxb, hxl, hxo, hxw⟩, hxk, hxz, hxc, hxs, hxt, hxf, hxr⟩ := hx
  intro H locs ls h1 h2 h3 h4
  have hcat : (cv L v).category = 1 := by rcases hc with ⟨x, rfl⟩ | ⟨t, rfl⟩ <;> rfl
  exact lv_dup hxe hxb d hcat (k H locs ls h1 h2 h3 h4)
theorem H_pop {κ : Kx} {cc : ByteArray} {nL fX lX : Nat} {own : String} (hx : Hx κ cc nL own fX lX) {pc : Nat} {st : List AV} {lc : LcT} {Rp : Heap → Prop} {nc ns : Nat} {v : AV} (hc : (∃ x, v = ai x) ∨ ∃ t, v = aq t) (d : decode cc pc = .ok (.pop, 1)) (k : AcH κ Rp nc ns (pc + 1) st lc) : AcH κ Rp nc ns pc (v :: st) lc := by
  obtain ⟨p, l, e, R, s, m, args, below, meth, c, Q, g, L, c0, s0, fc, fs⟩ := κ
  obtain ⟨⟨hxe, hxb, hxl, hxo, hxw⟩, hxk, hxz, hxc, hxs, hxt, hxf, hxr⟩ := hx
  intro H locs ls h1 h2 h3 h4
  have hcat : (cv L v).category = 1 := by rcases hc with ⟨x, rfl⟩ | ⟨t, rfl⟩ <;> rfl
  exact lv_pop hxe hxb d hcat (k H locs ls h1 h2 h3 h4)
theorem H_dup2 {κ : Kx} {cc : ByteArray} {nL fX lX : Nat} {own : String} (hx : Hx κ cc nL own fX lX) {pc : Nat} {st : List AV} {lc : LcT} {Rp : Heap → Prop} {nc ns : Nat} {x : Int32} {t : Nat} (d : decode cc pc = .ok (.dup2, 1)) (k : AcH κ Rp nc ns (pc + 1) (ai x :: aq t :: ai x :: aq t :: st) lc) : AcH κ Rp nc ns pc (ai x :: aq t :: st) lc := by
  obtain ⟨p, l, e, R, s, m, args, below, meth, c, Q, g, L, c0, s0, fc, fs⟩ := κ
  obtain ⟨⟨hxe, hxb, hxl, hxo, hxw⟩, hxk, hxz, hxc, hxs, hxt, hxf, hxr⟩ := hx
  intro H locs ls h1 h2 h3 h4
  exact lv_dup2_11 hxe hxb d rfl rfl (k H locs ls h1 h2 h3 h4)
theorem H_if_eq {κ : Kx} {cc : ByteArray} {nL fX lX : Nat} {own : String} (hx : Hx κ cc nL own fX lX) {pc : Nat} {st : List AV} {lc : LcT} {Rp : Heap → Prop} {nc ns : Nat} {x : Int32} {off : Int} {tgt : Nat} (d : decode cc pc = .ok (.ifCond .eq off, 3)) (ht : (pc : Int) + off = (tgt : Int)) (kt : x = 0 → AcH κ Rp nc ns tgt st lc) (kf : ¬ x = 0 → AcH κ Rp nc ns (pc + 3) st lc) : AcH κ Rp nc ns pc (ai x :: st) lc := by
  obtain ⟨p, l, e, R, s, m, args, below, meth, c, Q, g, L, c0, s0, fc, fs⟩ := κ
  obtain ⟨⟨hxe, hxb, hxl, hxo, hxw⟩, hxk, hxz, hxc, hxs, hxt, hxf, hxr⟩ := hx
  intro H locs ls h1 h2 h3 h4
  exact lv_if_eq hxe hxb d ht (fun q => kt q H locs ls h1 h2 h3 h4) (fun q => kf q H locs ls h1 h2 h3 h4)
theorem H_icmp_eq {κ : Kx} {cc : ByteArray} {nL fX lX : Nat} {own : String} (hx : Hx κ cc nL own fX lX) {pc : Nat} {st : List AV} {lc : LcT} {Rp : Heap → Prop} {nc ns : Nat} {x y : Int32} {off : Int} {tgt : Nat} (d : decode cc pc = .ok (.if_icmp .eq off, 3)) (ht : (pc : Int) + off = (tgt : Int)) (kt : x = y → AcH κ Rp nc ns tgt st lc) (kf : ¬ x = y → AcH κ Rp nc ns (pc + 3) st lc) : AcH κ Rp nc ns pc (ai y :: ai x :: st) lc := by
  obtain ⟨p, l, e, R, s, m, args, below, meth, c, Q, g, L, c0, s0, fc, fs⟩ := κ
  obtain ⟨⟨hxe, hxb, hxl, hxo, hxw⟩, hxk, hxz, hxc, hxs, hxt, hxf, hxr⟩ := hx
  intro H locs ls h1 h2 h3 h4
  exact lv_icmp_eq hxe hxb d ht (fun q => kt q H locs ls h1 h2 h3 h4) (fun q => kf q H locs ls h1 h2 h3 h4)
theorem H_if_ne {κ : Kx} {cc : ByteArray} {nL fX lX : Nat} {own : String} (hx : Hx κ cc nL own fX lX) {pc : Nat} {st : List AV} {lc : LcT} {Rp : Heap → Prop} {nc ns : Nat} {x : Int32} {off : Int} {tgt : Nat} (d : decode cc pc = .ok (.ifCond .ne off, 3)) (ht : (pc : Int) + off = (tgt : Int)) (kt : ¬ x = 0 → AcH κ Rp nc ns tgt st lc) (kf : x = 0 → AcH κ Rp nc ns (pc + 3) st lc) : AcH κ Rp nc ns pc (ai x :: st) lc := by
  obtain ⟨p, l, e, R, s, m, args, below, meth, c, Q, g, L, c0, s0, fc, fs⟩ := κ
  obtain ⟨⟨hxe, hxb, hxl, hxo, hxw⟩, hxk, hxz, hxc, hxs, hxt, hxf, hxr⟩ := hx
  intro H locs ls h1 h2 h3 h4
  exact lv_if_ne hxe hxb d ht (fun q => kt q H locs ls h1 h2 h3 h4) (fun q => kf q H locs ls h1 h2 h3 h4)
theorem H_icmp_ne {κ : Kx} {cc : ByteArray} {nL fX lX : Nat} {own : String} (hx : Hx κ cc nL own fX lX) {pc : Nat} {st : List AV} {lc : LcT} {Rp : Heap → Prop} {nc ns : Nat} {x y : Int32} {off : Int} {tgt : Nat} (d : decode cc pc = .ok (.if_icmp .ne off, 3)) (ht : (pc : Int) + off = (tgt : Int)) (kt : ¬ x = y → AcH κ Rp nc ns tgt st lc) (kf : x = y → AcH κ Rp nc ns (pc + 3) st lc) : AcH κ Rp nc ns pc (ai y :: ai x :: st) lc := by
  obtain ⟨p, l, e, R, s, m, args, below, meth, c, Q, g, L, c0, s0, fc, fs⟩ := κ
  obtain ⟨⟨hxe, hxb, hxl, hxo, hxw⟩, hxk, hxz, hxc, hxs, hxt, hxf, hxr⟩ := hx
  intro H locs ls h1 h2 h3 h4
  exact lv_icmp_ne hxe hxb d ht (fun q => kt q H locs ls h1 h2 h3 h4) (fun q => kf q H locs ls h1 h2 h3 h4)
theorem H_if_lt {κ : Kx} {cc : ByteArray} {nL fX lX : Nat} {own : String} (hx : Hx κ cc nL own fX lX) {pc : Nat} {st : List AV} {lc : LcT} {Rp : Heap → Prop} {nc ns : Nat} {x : Int32} {off : Int} {tgt : Nat} (d : decode cc pc = .ok (.ifCond .lt off, 3)) (ht : (pc : Int) + off = (tgt : Int)) (kt : x < 0 → AcH κ Rp nc ns tgt st lc) (kf : ¬ x < 0 → AcH κ Rp nc ns (pc + 3) st lc) : AcH κ Rp nc ns pc (ai x :: st) lc := by
  obtain ⟨p, l, e, R, s, m, args, below, meth, c, Q, g, L, c0, s0, fc, fs⟩ := κ
  obtain ⟨⟨hxe, hxb, hxl, hxo, hxw⟩, hxk, hxz, hxc, hxs, hxt, hxf, hxr⟩ := hx
  intro H locs ls h1 h2 h3 h4
  exact lv_if_lt hxe hxb d ht (fun q => kt q H locs ls h1 h2 h3 h4) (fun q => kf q H locs ls h1 h2 h3 h4)
theorem H_icmp_lt {κ : Kx} {cc : ByteArray} {nL fX lX : Nat} {own : String} (hx : Hx κ cc nL own fX lX) {pc : Nat} {st : List AV} {lc : LcT} {Rp : Heap → Prop} {nc ns : Nat} {x y : Int32} {off : Int} {tgt : Nat} (d : decode cc pc = .ok (.if_icmp .lt off, 3)) (ht : (pc : Int) + off = (tgt : Int)) (kt : x < y → AcH κ Rp nc ns tgt st lc) (kf : ¬ x < y → AcH κ Rp nc ns (pc + 3) st lc) : AcH κ Rp nc ns pc (ai y :: ai x :: st) lc := by
  obtain ⟨p, l, e, R, s, m, args, below, meth, c, Q, g, L, c0, s0, fc, fs⟩ := κ
  obtain ⟨⟨hxe, hxb, hxl, hxo, hxw⟩, hxk, hxz, hxc, hxs, hxt, hxf, hxr⟩ := hx
  intro H locs ls h1 h2 h3 h4
  exact lv_icmp_lt hxe hxb d ht (fun q => kt q H locs ls h1 h2 h3 h4) (fun q => kf q H locs ls h1 h2 h3 h4)
theorem H_if_ge {κ : Kx} {cc : ByteArray} {nL fX lX : Nat} {own : String} (hx : Hx κ cc nL own fX lX) {pc : Nat} {st : List AV} {lc : LcT} {Rp : Heap → Prop} {nc ns : Nat} {x : Int32} {off : Int} {tgt : Nat} (d : decode cc pc = .ok (.ifCond .ge off, 3)) (ht : (pc : Int) + off = (tgt : Int)) (kt : 0 ≤ x → AcH κ Rp nc ns tgt st lc) (kf : ¬ 0 ≤ x → AcH κ Rp nc ns (pc + 3) st lc) : AcH κ Rp nc ns pc (ai x :: st) lc := by
  obtain ⟨p, l, e, R, s, m, args, below, meth, c, Q, g, L, c0, s0, fc, fs⟩ := κ
  obtain ⟨⟨hxe, hxb, hxl, hxo, hxw⟩, hxk, hxz, hxc, hxs, hxt, hxf, hxr⟩ := hx
  intro H locs ls h1 h2 h3 h4
  exact lv_if_ge hxe hxb d ht (fun q => kt q H locs ls h1 h2 h3 h4) (fun q => kf q H locs ls h1 h2 h3 h4)
theorem H_icmp_ge {κ : Kx} {cc : ByteArray} {nL fX lX : Nat} {own : String} (hx : Hx κ cc nL own fX lX) {pc : Nat} {st : List AV} {lc : LcT} {Rp : Heap → Prop} {nc ns : Nat} {x y : Int32} {off : Int} {tgt : Nat} (d : decode cc pc = .ok (.if_icmp .ge off, 3)) (ht : (pc : Int) + off = (tgt : Int)) (kt : y ≤ x → AcH κ Rp nc ns tgt st lc) (kf : ¬ y ≤ x → AcH κ Rp nc ns (pc + 3) st lc) : AcH κ Rp nc ns pc (ai y :: ai x :: st) lc := by
  obtain ⟨p, l, e, R, s, m, args, below, meth, c, Q, g, L, c0, s0, fc, fs⟩ := κ
  obtain ⟨⟨hxe, hxb, hxl, hxo, hxw⟩, hxk, hxz, hxc, hxs, hxt, hxf, hxr⟩ := hx
  intro H locs ls h1 h2 h3 h4
  exact lv_icmp_ge hxe hxb d ht (fun q => kt q H locs ls h1 h2 h3 h4) (fun q => kf q H locs ls h1 h2 h3 h4)
theorem H_if_gt {κ : Kx} {cc : ByteArray} {nL fX lX : Nat} {own : String} (hx : Hx κ cc nL own fX lX) {pc : Nat} {st : List AV} {lc : LcT} {Rp : Heap → Prop} {nc ns : Nat} {x : Int32} {off : Int} {tgt : Nat} (d : decode cc pc = .ok (.ifCond .gt off, 3)) (ht : (pc : Int) + off = (tgt : Int)) (kt : 0 < x → AcH κ Rp nc ns tgt st lc) (kf : ¬ 0 < x → AcH κ Rp nc ns (pc + 3) st lc) : AcH κ Rp nc ns pc (ai x :: st) lc := by
  obtain ⟨p, l, e, R, s, m, args, below, meth, c, Q, g, L, c0, s0, fc, fs⟩ := κ
  obtain ⟨⟨hxe, hxb, hxl, hxo, hxw⟩, hxk, hxz, hxc, hxs, hxt, hxf, hxr⟩ := hx
  intro H locs ls h1 h2 h3 h4
  exact lv_if_gt hxe hxb d ht (fun q => kt q H locs ls h1 h2 h3 h4) (fun q => kf q H locs ls h1 h2 h3 h4)
theorem H_icmp_gt {κ : Kx} {cc : ByteArray} {nL fX lX : Nat} {own : String} (hx : Hx κ cc nL own fX lX) {pc : Nat} {st : List AV} {lc : LcT} {Rp : Heap → Prop} {nc ns : Nat} {x y : Int32} {off : Int} {tgt : Nat} (d : decode cc pc = .ok (.if_icmp .gt off, 3)) (ht : (pc : Int) + off = (tgt : Int)) (kt : y < x → AcH κ Rp nc ns tgt st lc) (kf : ¬ y < x → AcH κ Rp nc ns (pc + 3) st lc) : AcH κ Rp nc ns pc (ai y :: ai x :: st) lc := by
  obtain ⟨p, l, e, R, s, m, args, below, meth, c, Q, g, L, c0, s0, fc, fs⟩ := κ
  obtain ⟨⟨hxe, hxb, hxl, hxo, hxw⟩, hxk, hxz, hxc, hxs, hxt, hxf, hxr⟩ := hx
  intro H locs ls h1 h2 h3 h4
  exact lv_icmp_gt hxe hxb d ht (fun q => kt q H locs ls h1 h2 h3 h4) (fun q => kf q H locs ls h1 h2 h3 h4)
theorem H_if_le {κ : Kx} {cc : ByteArray} {nL fX lX : Nat} {own : String} (hx : Hx κ cc nL own fX lX) {pc : Nat} {st : List AV} {lc : LcT} {Rp : Heap → Prop} {nc ns : Nat} {x : Int32} {off : Int} {tgt : Nat} (d : decode cc pc = .ok (.ifCond .le off, 3)) (ht : (pc : Int) + off = (tgt : Int)) (kt : x ≤ 0 → AcH κ Rp nc ns tgt st lc) (kf : ¬ x ≤ 0 → AcH κ Rp nc ns (pc + 3) st lc) : AcH κ Rp nc ns pc (ai x :: st) lc := by
  obtain ⟨p, l, e, R, s, m, args, below, meth, c, Q, g, L, c0, s0, fc, fs⟩ := κ
  obtain ⟨⟨hxe, hxb, hxl, hxo, hxw⟩, hxk, hxz, hxc, hxs, hxt, hxf, hxr⟩ := hx
  intro H locs ls h1 h2 h3 h4
  exact lv_if_le hxe hxb d ht (fun q => kt q H locs ls h1 h2 h3 h4) (fun q => kf q H locs ls h1 h2 h3 h4)
theorem H_icmp_le {κ : Kx} {cc : ByteArray} {nL fX lX : Nat} {own : String} (hx : Hx κ cc nL own fX lX) {pc : Nat} {st : List AV} {lc : LcT} {Rp : Heap → Prop} {nc ns : Nat} {x y : Int32} {off : Int} {tgt : Nat} (d : decode cc pc = .ok (.if_icmp .le off, 3)) (ht : (pc : Int) + off = (tgt : Int)) (kt : x ≤ y → AcH κ Rp nc ns tgt st lc) (kf : ¬ x ≤ y → AcH κ Rp nc ns (pc + 3) st lc) : AcH κ Rp nc ns pc (ai y :: ai x :: st) lc := by
  obtain ⟨p, l, e, R, s, m, args, below, meth, c, Q, g, L, c0, s0, fc, fs⟩ := κ
  obtain ⟨⟨hxe, hxb, hxl, hxo, hxw⟩, hxk, hxz, hxc, hxs, hxt, hxf, hxr⟩ := hx
  intro H locs ls h1 h2 h3 h4
  exact lv_icmp_le hxe hxb d ht (fun q => kt q H locs ls h1 h2 h3 h4) (fun q => kf q H locs ls h1 h2 h3 h4)
theorem H_goto {κ : Kx} {cc : ByteArray} {nL fX lX : Nat} {own : String} (hx : Hx κ cc nL own fX lX) {pc : Nat} {st : List AV} {lc : LcT} {Rp : Heap → Prop} {nc ns : Nat} {off : Int} {tgt : Nat} (d : decode cc pc = .ok (.goto off, 3)) (ht : (pc : Int) + off = (tgt : Int)) (k : AcH κ Rp nc ns tgt st lc) : AcH κ Rp nc ns pc st lc := by
  obtain ⟨p, l, e, R, s, m, args, below, meth, c, Q, g, L, c0, s0, fc, fs⟩ := κ
  obtain ⟨⟨hxe, hxb, hxl, hxo, hxw⟩, hxk, hxz, hxc, hxs, hxt, hxf, hxr⟩ := hx
  intro H locs ls h1 h2 h3 h4
  exact lv_goto hxe hxb d ht (k H locs ls h1 h2 h3 h4)
theorem H_ifnull {κ : Kx} {cc : ByteArray} {nL fX lX : Nat} {own : String} (hx : Hx κ cc nL own fX lX) {pc : Nat} {st : List AV} {lc : LcT} {Rp : Heap → Prop} {nc ns : Nat} {t : Nat} {off : Int} (d : decode cc pc = .ok (.ifnull off, 3)) (k : AcH κ Rp nc ns (pc + 3) st lc) : AcH κ Rp nc ns pc (aq t :: st) lc := by
  obtain ⟨p, l, e, R, s, m, args, below, meth, c, Q, g, L, c0, s0, fc, fs⟩ := κ
  obtain ⟨⟨hxe, hxb, hxl, hxo, hxw⟩, hxk, hxz, hxc, hxs, hxt, hxf, hxr⟩ := hx
  intro H locs ls h1 h2 h3 h4
  exact lv_ifnull hxe hxb d (k H locs ls h1 h2 h3 h4)
theorem H_ifnullN {κ : Kx} {cc : ByteArray} {nL fX lX : Nat} {own : String} (hx : Hx κ cc nL own fX lX) {pc : Nat} {st : List AV} {lc : LcT} {Rp : Heap → Prop} {nc ns : Nat} {off : Int} {tgt : Nat} (d : decode cc pc = .ok (.ifnull off, 3)) (ht : (pc : Int) + off = (tgt : Int)) (k : AcH κ Rp nc ns tgt st lc) : AcH κ Rp nc ns pc (an :: st) lc := by
  obtain ⟨p, l, e, R, s, m, args, below, meth, c, Q, g, L, c0, s0, fc, fs⟩ := κ
  obtain ⟨⟨hxe, hxb, hxl, hxo, hxw⟩, hxk, hxz, hxc, hxs, hxt, hxf, hxr⟩ := hx
  intro H locs ls h1 h2 h3 h4
  exact lv_ifnullN hxe hxb d ht (k H locs ls h1 h2 h3 h4)
theorem H_ifnonnull {κ : Kx} {cc : ByteArray} {nL fX lX : Nat} {own : String} (hx : Hx κ cc nL own fX lX) {pc : Nat} {st : List AV} {lc : LcT} {Rp : Heap → Prop} {nc ns : Nat} {t : Nat} {off : Int} {tgt : Nat} (d : decode cc pc = .ok (.ifnonnull off, 3)) (ht : (pc : Int) + off = (tgt : Int)) (k : AcH κ Rp nc ns tgt st lc) : AcH κ Rp nc ns pc (aq t :: st) lc := by
  obtain ⟨p, l, e, R, s, m, args, below, meth, c, Q, g, L, c0, s0, fc, fs⟩ := κ
  obtain ⟨⟨hxe, hxb, hxl, hxo, hxw⟩, hxk, hxz, hxc, hxs, hxt, hxf, hxr⟩ := hx
  intro H locs ls h1 h2 h3 h4
  exact lv_ifnonnull hxe hxb d ht (k H locs ls h1 h2 h3 h4)
theorem H_ifnonnullN {κ : Kx} {cc : ByteArray} {nL fX lX : Nat} {own : String} (hx : Hx κ cc nL own fX lX) {pc : Nat} {st : List AV} {lc : LcT} {Rp : Heap → Prop} {nc ns : Nat} {off : Int} (d : decode cc pc = .ok (.ifnonnull off, 3)) (k : AcH κ Rp nc ns (pc + 3) st lc) : AcH κ Rp nc ns pc (an :: st) lc := by
  obtain ⟨p, l, e, R, s, m, args, below, meth, c, Q, g, L, c0, s0, fc, fs⟩ := κ
  obtain ⟨⟨hxe, hxb, hxl, hxo, hxw⟩, hxk, hxz, hxc, hxs, hxt, hxf, hxr⟩ := hx
  intro H locs ls h1 h2 h3 h4
  exact lv_ifnonnullN hxe hxb d (k H locs ls h1 h2 h3 h4)
