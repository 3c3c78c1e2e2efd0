/-! calls and statements: how they run -/
section STMT
variable {κ : Kx} {cc : ByteArray} {nL fX lX : Nat} {own : String} {w pc pc1 pc2 pc3 pT pF pE pX pH : Nat} {ret : Option FieldType}
theorem A_cast (hx : Hx κ cc nL own fX lX) {st : List AV} {lc : LcT} {σ : Sg} {t : Tg} {idx N : Nat} {C : String} {T : u_T} (hcl : vwCl[cix t.1]? = some (C, T, N)) (ho : isOb t.1 = true) (hv : vld σ t = true) (hl : Cond.classLink own idx C ∈ UW) (d : decode cc pc = .ok (.checkcast idx, 3)) (k : Acf κ (pc + 3) (ar t :: st) lc σ) : Acf κ pc (ar t :: st) lc σ := by
  obtain ⟨p, l, e, R, s, m, args, below, meth, c, Q, g, L, c0, s0, fc, fs⟩ := κ
  obtain ⟨⟨hxe, hxb, hxl, hxo, hxw⟩, hxk, hxz, hxc, hxs, hxt, hxf, hxr⟩ := hx
  intro H locs ls h1 h2 h3 h4 h5 h6 h7 h8
  obtain ⟨L', hL, r1, r2, r3, r4, r5⟩ := id h2
  have hat := r1 t hv
  rw [cell_ob ho, hL t (isOb_5 ho).1] at hat
  obtain ⟨hS, hfc, kC, hkC, hkind⟩ := h3.1.1 _ _ hcl
  exact va_castS hxe hxb hxo (hxw _ hl) ⟨hfc, kC, hkC, hkind⟩ (va_recv h3.1 (vP1 hat) hcl (q0 := 0) rfl) d (k H locs ls h1 h2 h3 h4 h5 h6 h7 h8)
theorem A_mmax (hx : Hx κ cc nL own fX lX) {st : List AV} {lc : LcT} {σ : Sg} {x y : Int32} {idx : Nat} (hlc : lc.length = nL) (hl : Cond.methodLink own idx Lib.Math.max.name ∈ UW) (h1' : Cond.static Lib.Math.max.name ∈ UW) (h2' : Cond.initialized "java/lang/Math" ∈ UW) (h3' : Cond.code Lib.Math.max.name Lib.Math.max.code 2 (some .int) ∈ UW) (hf : 1 ≤ fX) (hw : wt st + 13 ≤ lX) (d : decode cc pc = .ok (.invokestatic idx, 3)) (k : Acf κ (pc + 3) (ai (if x < y then y else x) :: st) lc σ) : Acf κ pc (ai y :: ai x :: st) lc σ := by
  obtain ⟨p, l, e, R, s, m, args, below, meth, c, Q, g, L, c0, s0, fc, fs⟩ := κ
  obtain ⟨⟨hxe, hxb, hxl, hxo, hxw⟩, hxk, hxz, hxc, hxs, hxt, hxf, hxr⟩ := hx
  intro H locs ls h1 h2 h3 h4 h5 h6 h7 h8
  exact va_mmax hxe hxb (by rw [hxl, h1.1, hlc]) hxo (hxw _ hl) (hxw _ h1') (hxw _ h2') (hxw _ h3') (by rw [hxf]; exact hf) (by rw [wt_cv, hxr]; exact hw) (by omega) (by omega) d (k H locs ls h1 h2 h3 h4 h5 h6 h7 h8)
theorem A_mmin (hx : Hx κ cc nL own fX lX) {st : List AV} {lc : LcT} {σ : Sg} {x y : Int32} {idx : Nat} (hlc : lc.length = nL) (hl : Cond.methodLink own idx Lib.Math.min.name ∈ UW) (h1' : Cond.static Lib.Math.min.name ∈ UW) (h2' : Cond.initialized "java/lang/Math" ∈ UW) (h3' : Cond.code Lib.Math.min.name Lib.Math.min.code 2 (some .int) ∈ UW) (hf : 1 ≤ fX) (hw : wt st + 13 ≤ lX) (d : decode cc pc = .ok (.invokestatic idx, 3)) (k : Acf κ (pc + 3) (ai (if y < x then y else x) :: st) lc σ) : Acf κ pc (ai y :: ai x :: st) lc σ := by
  obtain ⟨p, l, e, R, s, m, args, below, meth, c, Q, g, L, c0, s0, fc, fs⟩ := κ
  obtain ⟨⟨hxe, hxb, hxl, hxo, hxw⟩, hxk, hxz, hxc, hxs, hxt, hxf, hxr⟩ := hx
  intro H locs ls h1 h2 h3 h4 h5 h6 h7 h8
  exact va_mmin hxe hxb (by rw [hxl, h1.1, hlc]) hxo (hxw _ hl) (hxw _ h1') (hxw _ h2') (hxw _ h3') (by rw [hxf]; exact hf) (by rw [wt_cv, hxr]; exact hw) (by omega) (by omega) d (k H locs ls h1 h2 h3 h4 h5 h6 h7 h8)
def iMax (x y : Int32) : Int32 := if x < y then y else x
def iMin (x y : Int32) : Int32 := if y < x then y else x
theorem E_mmax (hx : Hx κ cc nL own fX lX) {a b : Ex Int32} {idx : Nat} (ha : Ev κ nL ai w pc pc1 a) (hb : Ev κ nL ai (w + 1) pc1 pc2 b) (hl : Cond.methodLink own idx Lib.Math.max.name ∈ UW) (h1' : Cond.static Lib.Math.max.name ∈ UW) (h2' : Cond.initialized "java/lang/Math" ∈ UW) (h3' : Cond.code Lib.Math.max.name Lib.Math.max.code 2 (some .int) ∈ UW) (hf : 1 ≤ fX) (hw9 : w + 13 ≤ lX) (d : decode cc pc2 = .ok (.invokestatic idx, 3)) : Ev κ nL ai w pc (pc2 + 3) (xBin iMax a b) := by
  intro st lc σ v σ' hlc hw h
  obtain ⟨r, hr, h⟩ := obs h
  obtain ⟨q, hq, h⟩ := obs h
  cases h
  obtain ⟨l1, k1⟩ := ha st lc σ _ _ hlc hw hr
  obtain ⟨l2, k2⟩ := hb (ai r.1 :: st) lc r.2 _ _ hlc (by rw [wt_c]; show 1 + _ ≤ _; omega) hq
  exact ⟨l1.trans l2, fun hf9 k => k1 (hf9.le l2) (k2 hf9 (A_mmax hx hlc hl h1' h2' h3' hf (by omega) d k))⟩
theorem E_mmin (hx : Hx κ cc nL own fX lX) {a b : Ex Int32} {idx : Nat} (ha : Ev κ nL ai w pc pc1 a) (hb : Ev κ nL ai (w + 1) pc1 pc2 b) (hl : Cond.methodLink own idx Lib.Math.min.name ∈ UW) (h1' : Cond.static Lib.Math.min.name ∈ UW) (h2' : Cond.initialized "java/lang/Math" ∈ UW) (h3' : Cond.code Lib.Math.min.name Lib.Math.min.code 2 (some .int) ∈ UW) (hf : 1 ≤ fX) (hw9 : w + 13 ≤ lX) (d : decode cc pc2 = .ok (.invokestatic idx, 3)) : Ev κ nL ai w pc (pc2 + 3) (xBin iMin a b) := by
  intro st lc σ v σ' hlc hw h
  obtain ⟨r, hr, h⟩ := obs h
  obtain ⟨q, hq, h⟩ := obs h
  cases h
  obtain ⟨l1, k1⟩ := ha st lc σ _ _ hlc hw hr
  obtain ⟨l2, k2⟩ := hb (ai r.1 :: st) lc r.2 _ _ hlc (by rw [wt_c]; show 1 + _ ≤ _; omega) hq
  exact ⟨l1.trans l2, fun hf9 k => k1 (hf9.le l2) (k2 hf9 (A_mmin hx hlc hl h1' h2' h3' hf (by omega) d k))⟩
theorem E_cast (hx : Hx κ cc nL own fX lX) {tk idx N : Nat} {C : String} {T : u_T} {e : Ex Tg} (he : Ev κ nL ar w pc pc1 e) (hcl : vwCl[cix tk]? = some (C, T, N)) (ho : isOb tk = true) (hl : Cond.classLink own idx C ∈ UW) (d : decode cc pc1 = .ok (.checkcast idx, 3)) : Ev κ nL ar w pc (pc1 + 3) (xCast tk e) := by
  intro st lc σ v σ' hlc hw h
  obtain ⟨r, hr9, h⟩ := obs h
  obtain ⟨⟨c1, c2⟩, h⟩ := ite_s h
  cases h
  obtain ⟨l1, k1⟩ := he st lc σ _ _ hlc hw hr9
  subst c1
  exact ⟨l1, fun hf k => k1 hf (A_cast hx hcl ho c2 hl d k)⟩
theorem S_nil : Es κ nL 0 w pc pc aNil := by
  intro st lc σ vs σ' hlc hw h
  cases h
  exact ⟨rfl, fun v hv => (by cases hv), sle.refl _, fun _ k => k⟩
theorem S_I {n : Nat} {e : Ex Int32} {r : Ex (List AV)} (he : Ev κ nL ai w pc pc1 e) (hr : Es κ nL n (w + 1) pc1 pc2 r) : Es κ nL (n + 1) w pc pc2 (aI e r) := by
  intro st lc σ vs σ' hlc hw h
  obtain ⟨x, hx9, h⟩ := obs h
  obtain ⟨q, hq, h⟩ := obs h
  cases h
  obtain ⟨l1, k1⟩ := he st lc σ _ _ hlc hw hx9
  obtain ⟨n2, g2, l2, k2⟩ := hr (ai x.1 :: st) lc x.2 _ _ hlc (by rw [wt_c]; show 1 + _ ≤ _; omega) hq
  refine ⟨by rw [List.length_cons, n2], fun v hv => ?_, l1.trans l2, fun hf k => k1 (hf.le l2) (k2 hf ?_)⟩
  · rcases List.mem_cons.mp hv with rfl | hv
    · exact Or.inl ⟨_, rfl⟩
    · exact g2 v hv
  · rw [List.reverse_cons, List.append_assoc] at k
    exact k
theorem S_R {n : Nat} {e : Ex Tg} {r : Ex (List AV)} (he : Ev κ nL ar w pc pc1 e) (hr : Es κ nL n (w + 1) pc1 pc2 r) : Es κ nL (n + 1) w pc pc2 (aR e r) := by
  intro st lc σ vs σ' hlc hw h
  obtain ⟨x, hx9, h⟩ := obs h
  obtain ⟨q, hq, h⟩ := obs h
  cases h
  obtain ⟨l1, k1⟩ := he st lc σ _ _ hlc hw hx9
  obtain ⟨n2, g2, l2, k2⟩ := hr (ar x.1 :: st) lc x.2 _ _ hlc (by rw [wt_c]; show 1 + _ ≤ _; omega) hq
  refine ⟨by rw [List.length_cons, n2], fun v hv => ?_, l1.trans l2, fun hf k => k1 (hf.le l2) (k2 hf ?_)⟩
  · rcases List.mem_cons.mp hv with rfl | hv
    · exact Or.inr (Or.inl ⟨_, rfl⟩)
    · exact g2 v hv
  · rw [List.reverse_cons, List.append_assoc] at k
    exact k
/-- all that a call by invokevirtual rests on -/
def CV (κ : Kx) (own : String) (fX lX idx tk n : Nat) (sem : Sem) : Prop := ∃ (y : MethodName) (bytes : ByteArray) (maxL : Nat) (retY : Option FieldType) (fr lo : Nat) (C : String) (T : u_T) (N : Nat), CtX (kl κ) (kg κ) y bytes maxL retY fr lo sem ∧ Cond.code y bytes maxL retY ∈ UW ∧ Cond.methodLink own idx y ∈ UW ∧ Cond.instanceMethod y ∈ UW ∧ Cond.selects C y y ∈ UW ∧ Cond.initialized C ∈ UW ∧ (y.cls = C ∧ y.cls ≠ "java/lang/invoke/MethodHandle" ∧ y.cls ≠ "java/lang/invoke/VarHandle" ∧ (parseMethodDescriptor y.desc).map (fun d => d.parameters.length) = some n) ∧ vwCl[cix tk]? = some (C, T, N) ∧ isRc tk = true ∧ fr + 1 ≤ fX ∧ 8 + (maxL + 11) + lo ≤ lX
def CS (κ : Kx) (own : String) (fX lX idx n : Nat) (sem : Sem) : Prop := ∃ (y : MethodName) (bytes : ByteArray) (maxL : Nat) (retY : Option FieldType) (fr lo : Nat), CtX (kl κ) (kg κ) y bytes maxL retY fr lo sem ∧ Cond.code y bytes maxL retY ∈ UW ∧ Cond.methodLink own idx y ∈ UW ∧ Cond.static y ∈ UW ∧ Cond.initialized y.cls ∈ UW ∧ (y.cls ≠ "java/lang/invoke/MethodHandle" ∧ y.cls ≠ "java/lang/invoke/VarHandle" ∧ (parseMethodDescriptor y.desc).map (fun d => d.parameters.length) = some n) ∧ fr + 1 ≤ fX ∧ 8 + (maxL + 11) + lo ≤ lX
theorem ask_s {sem : Sem} {vs : List AV} {σ : Sg} {r : Res × Sg} (h : ask sem vs σ = some r) : sem vs σ = some r ∧ sle σ r.2 := by
  obtain ⟨q, hq, h⟩ := obs h
  obtain ⟨c1, rfl⟩ := ite_s h
  exact ⟨hq, sleB_sle c1⟩
theorem R_V (hx : Hx κ cc nL own fX lX) (hr : Hr κ ret) {tk n idx : Nat} {sem : Sem} {e : Ex Tg} {as : Ex (List AV)} (he : Ev κ nL ar w pc pc1 e) (ha : Es κ nL n (w + 1) pc1 pc2 as) (hc : CV κ own fX lX idx tk n sem) (h8 : w ≤ 8) (d : decode cc pc2 = .ok (.invokevirtual idx, 3)) : Er κ nL w pc (pc2 + 3) (xV tk sem e as) := by
  intro st lc σ v σ' hlc hw h
  obtain ⟨r, hr9, h⟩ := obs h
  obtain ⟨q, hq, h⟩ := obs h
  split at h
  · rename_i hcond
    obtain ⟨c1, c2⟩ := hcond
    obtain ⟨hsem, hle⟩ := ask_s h
    obtain ⟨l1, k1⟩ := he st lc σ _ _ hlc hw hr9
    obtain ⟨n2, g2, l2, k2⟩ := ha (ar r.1 :: st) lc r.2 _ _ hlc (by rw [wt_c]; show 1 + _ ≤ _; omega) hq
    obtain ⟨y, bytes, maxL, retY, fr, lo, C, T, N, u1, u2, u3, u4, u5, u6, u7, u8, u9, u10, u11⟩ := hc
    subst n2
    subst c1
    exact ⟨l1.trans (l2.trans hle), fun hf kv kx => k1 (hf.le (l2.trans hle)) (k2 (hf.le hle) (A_callV hx hr hlc u1 hsem hle g2 u2 u3 u4 u5 u6 u7 u8 u9 c2 (Nat.le_trans hw h8) u10 u11 d hf kv kx))⟩
  · cases h
theorem R_S (hx : Hx κ cc nL own fX lX) (hr : Hr κ ret) {n idx : Nat} {sem : Sem} {as : Ex (List AV)} (ha : Es κ nL n w pc pc2 as) (hc : CS κ own fX lX idx n sem) (h8 : w ≤ 8) (d : decode cc pc2 = .ok (.invokestatic idx, 3)) : Er κ nL w pc (pc2 + 3) (xS sem as) := by
  intro st lc σ v σ' hlc hw h
  obtain ⟨q, hq, h⟩ := obs h
  obtain ⟨hsem, hle⟩ := ask_s h
  obtain ⟨n2, g2, l2, k2⟩ := ha st lc σ _ _ hlc hw hq
  obtain ⟨y, bytes, maxL, retY, fr, lo, u1, u2, u3, u4, u5, u6, u7, u8⟩ := hc
  subst n2
  exact ⟨l2.trans hle, fun hf kv kx => k2 (hf.le hle) (A_callS hx hr hlc u1 hsem hle g2 u2 u3 u4 u5 u6 (Nat.le_trans hw h8) u7 u8 d hf kv kx)⟩
theorem E_CI {c : Ex Res} (hc : Er κ nL w pc pc1 c) : Ev κ nL ai w pc pc1 (xCI c) := by
  intro st lc σ v σ' hlc hw h
  obtain ⟨⟨r, σ1⟩, hr9, h⟩ := obs h
  obtain ⟨l1, k1⟩ := hc st lc σ _ _ hlc hw hr9
  unfold rI at h
  split at h
  · rename_i x τ e
    cases h
    cases e
    exact ⟨l1, fun hf k => k1 hf (fun u hu => by cases hu; exact k) (fun n hn => by cases hn)⟩
  · cases h
theorem E_CR {c : Ex Res} (hc : Er κ nL w pc pc1 c) : Ev κ nL ar w pc pc1 (xCR c) := by
  intro st lc σ v σ' hlc hw h
  obtain ⟨⟨r, σ1⟩, hr9, h⟩ := obs h
  obtain ⟨l1, k1⟩ := hc st lc σ _ _ hlc hw hr9
  unfold rR at h
  split at h
  · rename_i x τ e
    cases h
    cases e
    exact ⟨l1, fun hf k => k1 hf (fun u hu => by cases hu; exact k) (fun n hn => by cases hn)⟩
  · cases h
theorem E_CN {c : Ex Res} (hc : Er κ nL w pc pc1 c) : Ev κ nL id w pc pc1 (xCN c) := by
  intro st lc σ v σ' hlc hw h
  obtain ⟨⟨r, σ1⟩, hr9, h⟩ := obs h
  obtain ⟨l1, k1⟩ := hc st lc σ _ _ hlc hw hr9
  unfold rN at h
  split at h
  · rename_i x τ e
    cases h
    cases e
    exact ⟨l1, fun hf k => k1 hf (fun u hu => by cases hu; exact k) (fun n hn => by cases hn)⟩
  · rename_i τ e
    cases h
    cases e
    exact ⟨l1, fun hf k => k1 hf (fun u hu => by cases hu; exact k) (fun n hn => by cases hn)⟩
  · cases h
theorem T_CV {c : Ex Res} (hc : Er κ nL 0 pc pc1 c) : St κ nL pc pc1 (sCV c) := by
  intro lc σ hlc
  constructor
  · intro lc' σ' h
    obtain ⟨⟨r, σ1⟩, hr9, h⟩ := obs h
    obtain ⟨l1, k1⟩ := hc [] lc σ _ _ hlc (Nat.le_refl 0) hr9
    unfold rS at h
    split at h
    · rename_i τ e
      cases h
      cases e
      exact ⟨hlc, l1, fun hf k => k1 hf (fun u hu => by cases hu; exact k) (fun n hn => by cases hn)⟩
    · cases h
    · cases h
  · intro r σ' h
    obtain ⟨⟨r1, σ1⟩, hr9, h⟩ := obs h
    obtain ⟨l1, k1⟩ := hc [] lc σ _ _ hlc (Nat.le_refl 0) hr9
    unfold rS at h
    split at h
    · cases h
    · rename_i n τ e
      cases h
      cases e
      exact ⟨l1, fun k => k1 k.fit (fun u hu => by cases hu) (fun n hn => by cases hn; exact k)⟩
    · cases h
theorem T_seq {a b : Sx} (ha : St κ nL pc pc1 a) (hb : St κ nL pc1 pc2 b) : St κ nL pc pc2 (sSeq a b) := by
  intro lc σ hlc
  constructor
  · intro lc' σ' h
    obtain ⟨o, ho, h⟩ := obs h
    cases o with
    | inl q =>
      obtain ⟨n1, l1, k1⟩ := (ha lc σ hlc).1 _ _ ho
      obtain ⟨n2, l2, k2⟩ := (hb q.1 q.2 n1).1 _ _ h
      exact ⟨n2, l1.trans l2, fun hf k => k1 (hf.le l2) (k2 hf k)⟩
    | inr q => cases h
  · intro r σ' h
    obtain ⟨o, ho, h⟩ := obs h
    cases o with
    | inl q =>
      obtain ⟨n1, l1, k1⟩ := (ha lc σ hlc).1 _ _ ho
      obtain ⟨l2, k2⟩ := (hb q.1 q.2 n1).2 _ _ h
      exact ⟨l1.trans l2, fun k => k1 (k.fit.le l2) (k2 k)⟩
    | inr q =>
      cases h
      exact (ha lc σ hlc).2 _ _ ho
theorem T_skip : St κ nL pc pc sSkip := by
  intro lc σ hlc
  constructor
  · intro lc' σ' h
    cases h
    exact ⟨hlc, sle.refl _, fun _ k => k⟩
  · intro r σ' h
    cases h
theorem T_goto (hx : Hx κ cc nL own fX lX) {a : Sx} (ha : St κ nL pc pc1 a) {off : Int} (d : decode cc pc1 = .ok (.goto off, 3)) (ht : (pc1 : Int) + off = (pE : Int)) : St κ nL pc pE a := by
  intro lc σ hlc
  refine ⟨fun lc' σ' h => ?_, (ha lc σ hlc).2⟩
  obtain ⟨n1, l1, k1⟩ := (ha lc σ hlc).1 _ _ h
  exact ⟨n1, l1, fun hf k => k1 hf (A_goto hx d ht k)⟩
theorem T_if {c : Ex Bool} {a b : Sx} (hc : Cj κ nL 0 pc pT pF c) (ha : St κ nL pT pE a) (hb : St κ nL pF pE b) : St κ nL pc pE (sIf c a b) := by
  intro lc σ hlc
  constructor
  · intro lc' σ' h
    obtain ⟨⟨b9, σ1⟩, hr, h⟩ := obs h
    obtain ⟨l1, k1⟩ := hc [] lc σ _ _ hlc (Nat.le_refl 0) hr
    cases b9 with
    | true =>
      obtain ⟨n2, l2, k2⟩ := (ha lc _ hlc).1 _ _ h
      exact ⟨n2, l1.trans l2, fun hf k => k1 (hf.le l2) (fun _ => k2 hf k) (fun z => by cases z)⟩
    | false =>
      obtain ⟨n2, l2, k2⟩ := (hb lc _ hlc).1 _ _ h
      exact ⟨n2, l1.trans l2, fun hf k => k1 (hf.le l2) (fun z => by cases z) (fun _ => k2 hf k)⟩
  · intro r σ' h
    obtain ⟨⟨b9, σ1⟩, hr, h⟩ := obs h
    obtain ⟨l1, k1⟩ := hc [] lc σ _ _ hlc (Nat.le_refl 0) hr
    cases b9 with
    | true =>
      obtain ⟨l2, k2⟩ := (ha lc _ hlc).2 _ _ h
      exact ⟨l1.trans l2, fun k => k1 (k.fit.le l2) (fun _ => k2 k) (fun z => by cases z)⟩
    | false =>
      obtain ⟨l2, k2⟩ := (hb lc _ hlc).2 _ _ h
      exact ⟨l1.trans l2, fun k => k1 (k.fit.le l2) (fun z => by cases z) (fun _ => k2 k)⟩
theorem T_wh {c : Ex Bool} {b : Sx} (hc : Cj κ nL 0 pH pT pX c) (hb : St κ nL pT pH b) : ∀ n : Nat, St κ nL pH pX (sWh c b n) := by
  intro n
  induction n with
  | zero =>
    intro lc σ hlc
    exact ⟨fun _ _ h => (by cases h), fun _ _ h => (by cases h)⟩
  | succ n ih =>
    intro lc σ hlc
    constructor
    · intro lc' σ' h
      obtain ⟨⟨b9, σ1⟩, hr, h⟩ := obs h
      obtain ⟨l1, k1⟩ := hc [] lc σ _ _ hlc (Nat.le_refl 0) hr
      cases b9 with
      | true =>
        obtain ⟨o, ho, h⟩ := obs h
        cases o with
        | inl q =>
          obtain ⟨n2, l2, k2⟩ := (hb lc _ hlc).1 _ _ ho
          obtain ⟨n3, l3, k3⟩ := (ih q.1 q.2 n2).1 _ _ h
          exact ⟨n3, l1.trans (l2.trans l3), fun hf k => k1 (hf.le (l2.trans l3)) (fun _ => k2 (hf.le l3) (k3 hf k)) (fun z => by cases z)⟩
        | inr q => cases h
      | false =>
        cases h
        exact ⟨hlc, l1, fun hf k => k1 hf (fun z => by cases z) (fun _ => k)⟩
    · intro r σ' h
      obtain ⟨⟨b9, σ1⟩, hr, h⟩ := obs h
      obtain ⟨l1, k1⟩ := hc [] lc σ _ _ hlc (Nat.le_refl 0) hr
      cases b9 with
      | true =>
        obtain ⟨o, ho, h⟩ := obs h
        cases o with
        | inl q =>
          obtain ⟨n2, l2, k2⟩ := (hb lc _ hlc).1 _ _ ho
          obtain ⟨l3, k3⟩ := (ih q.1 q.2 n2).2 _ _ h
          exact ⟨l1.trans (l2.trans l3), fun k => k1 (k.fit.le (l2.trans l3)) (fun _ => k2 (k.fit.le l3) (k3 k)) (fun z => by cases z)⟩
        | inr q =>
          cases h
          obtain ⟨l2, k2⟩ := (hb lc _ hlc).2 _ _ ho
          exact ⟨l1.trans l2, fun k => k1 (k.fit.le l2) (fun _ => k2 k) (fun z => by cases z)⟩
      | false => cases h
end STMT
