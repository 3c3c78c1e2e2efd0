/-! the hoare layer: natives, returns, contracts, calls; in and out of it -/
def ks (κ : Kx) : State := κ.2.2.2.2.1
def k0 (κ : Kx) : Nat × Nat := match κ with
  | (p, l, e, R, s, m, args, below, meth, c, Q, g, L, c0, s0, fc, fs) => (c0, s0)
def QcH (g : Gx) (R' : Option Value → Heap → Prop) : Array Value → State → Outcome → State → Prop := fun _ st o t => (∃ v, o = .returned v ∧ R' v t.heap) ∧ va_F (gA g) st t
def RtH (κ : Kx) (R' : Option Value → Heap → Prop) : Prop := match κ with
  | (p, l, e, R, s, m, args, below, meth, c, Q, g, L, c0, s0, fc, fs) => ∃ Qc XC, Q = vx_MQ below Qc XC args s (fc - c0) (fs - s0) (gA g) ∧ ∀ st o t, QcH g R' args st o t → Qc args st o t
/-- facts of the tables that move with them -/
def XT (X : State → Prop) : Prop := ∀ s U, X s → s.WarmedH U.vm → X U
def CtH (X : State → Prop) (l : Launch) (g : Gx) (y : MethodName) (cc : ByteArray) (maxL : Nat) (ret : Option FieldType) (fr lo mc ms : Nat) (as : List Value) (P : Heap → Prop) (R' : Option Value → Heap → Prop) : Prop :=
  vx_Met l y (Cond.code y cc maxL ret :: UW) { frames := fr, cells := mc, slots := ms, locals := lo } (va_Pc as (fun U => X U ∧ P U.heap ∧ GF g U U.heap ∧ g.2.2.1 ≤ U.heap.size)) (QcH g R') (fun _ _ _ => False) mc ms (gA g)
section HCALL
variable {κ : Kx} {cc : ByteArray} {nL fX lX : Nat} {own : String} {pc : Nat} {st : List AV} {lc : LcT} {Rp Rq : Heap → Prop} {nc ns : Nat} {ret : Option FieldType}
theorem AcH.mono (h : ∀ H, Rp H → Rq H) (k : AcH κ Rq nc ns pc st lc) : AcH κ Rp nc ns pc st lc := by
  obtain ⟨p, l, e, R, s, m, args, below, meth, c, Q, g, L, c0, s0, fc, fs⟩ := κ
  intro H locs ls h1 h2 h3 h4
  exact k H locs ls h1 (h H h2) h3 h4
theorem AcH.ex {α : Sort _} {P : α → Heap → Prop} (k : ∀ x, AcH κ (P x) nc ns pc st lc) : AcH κ (fun H => ∃ x, P x H) nc ns pc st lc := by
  obtain ⟨p, l, e, R, s, m, args, below, meth, c, Q, g, L, c0, s0, fc, fs⟩ := κ
  intro H locs ls h1 h2 h3 h4
  obtain ⟨x, hx⟩ := h2
  exact k x H locs ls h1 hx h3 h4
theorem AcH.pure {P : Prop} (k : P → AcH κ Rp nc ns pc st lc) (h : ∀ H, Rp H → P) : AcH κ Rp nc ns pc st lc := by
  obtain ⟨p, l, e, R, s, m, args, below, meth, c, Q, g, L, c0, s0, fc, fs⟩ := κ
  intro H locs ls h1 h2 h3 h4
  exact k (h H h2) H locs ls h1 h2 h3 h4
theorem Acf.ofH {σ : Sg} (h : (k0 κ).1 ≤ sC σ → (k0 κ).2 ≤ sS σ → Fit κ σ → AcH κ (RepX (kg κ) (kL κ) σ) (sC σ - (k0 κ).1) (sS σ - (k0 κ).2) pc st lc) : Acf κ pc st lc σ := by
  obtain ⟨p, l, e, R, s, m, args, below, meth, c, Q, g, L, c0, s0, fc, fs⟩ := κ
  intro H locs ls h1 h2 h3 h4 h5 h6 h7 h8
  exact h h5 h6 ⟨h7, h8⟩ H locs ls h1 h2 h3 h4
theorem AcH.ofA {σ : Sg} (h : ∀ H, Rp H → RepX (kg κ) (kL κ) σ H) (hc : (k0 κ).1 + nc ≤ sC σ) (hs : (k0 κ).2 + ns ≤ sS σ) (hf : Fit κ σ) (k : Acf κ pc st lc σ) : AcH κ Rp nc ns pc st lc := by
  obtain ⟨p, l, e, R, s, m, args, below, meth, c, Q, g, L, c0, s0, fc, fs⟩ := κ
  intro H locs ls h1 h2 h3 h4
  have hc' : c0 + nc ≤ sC σ := hc
  have hs' : s0 + ns ≤ sS σ := hs
  exact W.widen (show nc ≤ sC σ - c0 by omega) (show ns ≤ sS σ - s0 by omega) (k H locs ls h1 (h H h2) h3 h4 (by omega) (by omega) hf.1 hf.2)
theorem H_mmax (hx : Hx κ cc nL own fX lX) (hcr : nc ≤ (kr κ).1) (hsr : ns ≤ (kr κ).2) {x y : Int32} {idx : Nat} (hlc : lc.length = nL) (hl : Cond.methodLink own idx Lib.Math.max.name ∈ UW) (h1' : Cond.static Lib.Math.max.name ∈ UW) (h2' : Cond.initialized "java/lang/Math" ∈ UW) (h3' : Cond.code Lib.Math.max.name Lib.Math.max.code 2 (some .int) ∈ UW) (hf : 1 ≤ fX) (hw : wt st + 13 ≤ lX) (d : decode cc pc = .ok (.invokestatic idx, 3)) (k : AcH κ Rp nc ns (pc + 3) (ai (if x < y then y else x) :: st) lc) : AcH κ Rp nc ns pc (ai y :: ai x :: st) lc := by
  obtain ⟨p, l, e, R, s, m, args, below, meth, c, Q, g, L, c0, s0, fc, fs⟩ := κ
  obtain ⟨⟨hxe, hxb, hxl, hxo, hxw⟩, hxk, hxz, hxc, hxs, hxt, hxf, hxr⟩ := hx
  intro H locs ls h1 h2 h3 h4
  exact va_mmax hxe hxb (by rw [hxl, h1.1, hlc]) hxo (hxw _ hl) (hxw _ h1') (hxw _ h2') (hxw _ h3') (by rw [hxf]; exact hf) (by rw [wt_cv, hxr]; exact hw) (by rw [hxc]; exact hcr) (by rw [hxs]; exact hsr) d (k H locs ls h1 h2 h3 h4)
theorem H_mmin (hx : Hx κ cc nL own fX lX) (hcr : nc ≤ (kr κ).1) (hsr : ns ≤ (kr κ).2) {x y : Int32} {idx : Nat} (hlc : lc.length = nL) (hl : Cond.methodLink own idx Lib.Math.min.name ∈ UW) (h1' : Cond.static Lib.Math.min.name ∈ UW) (h2' : Cond.initialized "java/lang/Math" ∈ UW) (h3' : Cond.code Lib.Math.min.name Lib.Math.min.code 2 (some .int) ∈ UW) (hf : 1 ≤ fX) (hw : wt st + 13 ≤ lX) (d : decode cc pc = .ok (.invokestatic idx, 3)) (k : AcH κ Rp nc ns (pc + 3) (ai (if y < x then y else x) :: st) lc) : AcH κ Rp nc ns pc (ai y :: ai x :: st) lc := by
  obtain ⟨p, l, e, R, s, m, args, below, meth, c, Q, g, L, c0, s0, fc, fs⟩ := κ
  obtain ⟨⟨hxe, hxb, hxl, hxo, hxw⟩, hxk, hxz, hxc, hxs, hxt, hxf, hxr⟩ := hx
  intro H locs ls h1 h2 h3 h4
  exact va_mmin hxe hxb (by rw [hxl, h1.1, hlc]) hxo (hxw _ hl) (hxw _ h1') (hxw _ h2') (hxw _ h3') (by rw [hxf]; exact hf) (by rw [wt_cv, hxr]; exact hw) (by rw [hxc]; exact hcr) (by rw [hxs]; exact hsr) d (k H locs ls h1 h2 h3 h4)
theorem H_gets (hx : Hx κ cc nL own fX lX) {idx : Nat} (hl : Cond.fieldLink own idx "java/util/ArrayList" "DEFAULTCAPACITY_EMPTY_ELEMENTDATA" "[Ljava/lang/Object;" ∈ UW) (d : decode cc pc = .ok (.getstatic idx, 3)) (k : AcH κ Rp nc ns (pc + 3) (aq (kg κ).2.2.2 :: st) lc) : AcH κ Rp nc ns pc st lc := by
  obtain ⟨p, l, e, R, s, m, args, below, meth, c, Q, g, L, c0, s0, fc, fs⟩ := κ
  obtain ⟨⟨hxe, hxb, hxl, hxo, hxw⟩, hxk, hxz, hxc, hxs, hxt, hxf, hxr⟩ := hx
  intro H locs ls h1 h2 h3 h4
  have h3' : GF g s s.heap := h3.kept (fun a _ ha => (h4.2.1 a (Nat.lt_of_lt_of_le (Nat.lt_of_not_le ha) hxz) ha).symm)
  exact va_gets hxe hxb h3'.2.1.1 h4 hxo (hxw _ hl) (fun x h => h) d (k H locs ls h1 h2 h3 h4)
theorem H_ldcM (hx : Hx κ cc nL own fX lX) {idx mi : Nat} (hM : va_Mi "[Ljava/lang/Object;" mi (ks κ)) (hl : Cond.classLink own idx "[Ljava/lang/Object;" ∈ UW) (d : decode cc pc = .ok (.ldc idx, 2)) (k : AcH κ Rp nc ns (pc + 2) (aq mi :: st) lc) : AcH κ Rp nc ns pc st lc := by
  obtain ⟨p, l, e, R, s, m, args, below, meth, c, Q, g, L, c0, s0, fc, fs⟩ := κ
  obtain ⟨⟨hxe, hxb, hxl, hxo, hxw⟩, hxk, hxz, hxc, hxs, hxt, hxf, hxr⟩ := hx
  intro H locs ls h1 h2 h3 h4
  exact va_ldcM hxe hxb hxo (hxw _ hl) hM d (k H locs ls h1 h2 h3 h4)
theorem H_getC (hx : Hx κ cc nL own fX lX) {idx a : Nat} {x : vp_A} (hat : ∀ H, Rp H → va_at (kg κ).1 vwCl (a, .inl ((kg κ).2.1 3, x)) H) (hlc : lc.length = nL) (hl : Cond.methodLink own idx ⟨"java/lang/Object", "getClass", "()Ljava/lang/Class;"⟩ ∈ UW) (hf : 1 ≤ fX) (hw : wt st + 14 ≤ lX) (d : decode cc pc = .ok (.invokevirtual idx, 3)) (k : ∀ mi, va_Mi "[Ljava/lang/Object;" mi (ks κ) → AcH κ Rp nc ns (pc + 3) (aq mi :: st) lc) : AcH κ Rp nc ns pc (aq a :: st) lc := by
  obtain ⟨p, l, e, R, s, m, args, below, meth, c, Q, g, L, c0, s0, fc, fs⟩ := κ
  obtain ⟨⟨hxe, hxb, hxl, hxo, hxw⟩, hxk, hxz, hxc, hxs, hxt, hxf, hxr⟩ := hx
  intro H locs ls h1 h2 h3 h4
  obtain ⟨mi, hmi⟩ := h3.2.2.2.2.2.2.2.1
  obtain ⟨kA3, comp3, k1, k2, k3, k4⟩ := (h3.1.2 3 _ rfl).2
  refine va_getC hxe hxb (by rw [hxl, h1.1, hlc]) hxo (hxw _ hl) (va_Dc.use h3.2.2.2.2.2.2.2.2.1) (hxw _ us_java_lang_Object_getClass___Ljava_lang_Class___Ljava_lang_Object_) (hxw _ ui_java_lang_Object_getClass___Ljava_lang_Class_) (hxw _ uv_java_lang_Object_getClass___Ljava_lang_Class_) hmi ⟨_, hat H h2, ?_, ?_⟩ (by rw [hxf]; exact hf) (by rw [wt_cv, hxr]; exact hw) d (k mi hmi H locs ls h1 h2 h3 h4)
  · obtain ⟨n, f | f | f | f | f⟩ := x <;> rfl
  · obtain ⟨n, f | f | f | f | f⟩ := x <;> exact k4
theorem H_iret (hx : Hx κ cc nL own fX lX) {ty : FieldType} {x : Int32} {R' : Option Value → Heap → Prop} (hr : Hr κ (some ty)) (hn : narrow ty (.int x) = .int x) (d : decode cc pc = .ok (.ireturn, 1)) (k : RtH κ R') (hc : nc ≤ (kr κ).1) (hs : ns ≤ (kr κ).2) (hR : ∀ H, Rp H → R' (some (.int x)) H) : AcH κ Rp nc ns pc [ai x] lc := by
  obtain ⟨p, l, e, R, s, m, args, below, meth, c, Q, g, L, c0, s0, fc, fs⟩ := κ
  obtain ⟨⟨hxe, hxb, hxl, hxo, hxw⟩, hxk, hxz, hxc, hxs, hxt, hxf, hxr⟩ := hx
  obtain ⟨Qc, XC, rfl, kq⟩ := k
  intro H locs ls h1 h2 h3 h4
  exact W.widen hc hs (vx_ret (W.zret hxe hxb hr.1 hn (fun t ht _ => kq _ _ _ ⟨⟨_, rfl, by rw [ht]; exact hR H h2⟩, h4.F ht⟩) h4.2.2 d hxk))
theorem H_aret (hx : Hx κ cc nL own fX lX) {ty : FieldType} {a : Nat} {R' : Option Value → Heap → Prop} (hr : Hr κ (some ty)) (hty : (∃ C, ty = .object C) ∨ ∃ t, ty = .array t) (d : decode cc pc = .ok (.areturn, 1)) (k : RtH κ R') (hc : nc ≤ (kr κ).1) (hs : ns ≤ (kr κ).2) (hR : ∀ H, Rp H → R' (some (.ref a)) H) : AcH κ Rp nc ns pc [aq a] lc := by
  obtain ⟨p, l, e, R, s, m, args, below, meth, c, Q, g, L, c0, s0, fc, fs⟩ := κ
  obtain ⟨⟨hxe, hxb, hxl, hxo, hxw⟩, hxk, hxz, hxc, hxs, hxt, hxf, hxr⟩ := hx
  obtain ⟨Qc, XC, rfl, kq⟩ := k
  intro H locs ls h1 h2 h3 h4
  exact W.widen hc hs (vx_ret (W.aret hxe hxb hr.1 hty (Or.inr ⟨_, rfl⟩) (fun t ht _ => kq _ _ _ ⟨⟨_, rfl, by rw [ht]; exact hR H h2⟩, h4.F ht⟩) h4.2.2 d hxk))
theorem H_vret (hx : Hx κ cc nL own fX lX) {R' : Option Value → Heap → Prop} (hr : Hr κ none) (d : decode cc pc = .ok (.return_, 1)) (k : RtH κ R') (hc : nc ≤ (kr κ).1) (hs : ns ≤ (kr κ).2) (hR : ∀ H, Rp H → R' none H) : AcH κ Rp nc ns pc [] lc := by
  obtain ⟨p, l, e, R, s, m, args, below, meth, c, Q, g, L, c0, s0, fc, fs⟩ := κ
  obtain ⟨⟨hxe, hxb, hxl, hxo, hxw⟩, hxk, hxz, hxc, hxs, hxt, hxf, hxr⟩ := hx
  obtain ⟨Qc, XC, rfl, kq⟩ := k
  intro H locs ls h1 h2 h3 h4
  exact W.widen hc hs (vx_ret (W.vret hxe hxb hr.1 (fun t ht _ => kq _ _ _ ⟨⟨_, rfl, by rw [ht]; exact hR H h2⟩, h4.F ht⟩) h4.2.2 d hxk))
end HCALL
