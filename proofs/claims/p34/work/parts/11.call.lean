/-! contracts of methods that return or throw; calls, returns, throws -/
abbrev Res : Type := Option AV ⊕ Nat
abbrev Sem : Type := List AV → Sg → Option (Res × Sg)
def exn (n : Nat) : String := if n = 1 then "java/lang/IndexOutOfBoundsException" else "java/lang/IllegalStateException"
def wtA : AV → Nat
  | .inl v => v.category
  | .inr _ => 1
def wt (st : List AV) : Nat := (st.map wtA).sum
theorem wt_cv (L : Tg → Nat) (st : List AV) : ((st.map (cv L)).map fun v => v.category).sum = wt st := by
  unfold wt
  rw [List.map_map]
  congr 1
  refine List.map_congr_left fun v _ => ?_
  cases v <;> rfl
def sg (v : AV) : Prop := (∃ x, v = ai x) ∨ (∃ t, v = ar t) ∨ v = an ∨ ∃ x, v = .inl (.long x)
/-- arguments as locals -/
def lcOf : List AV → LcT
  | [] => []
  | .inl (.long x) :: r => some (.inl (.long x)) :: none :: lcOf r
  | v :: r => some v :: lcOf r
def QcF (g : Gx) (L : Tg → Nat) (r : Res) (σ : Sg) : Array Value → State → Outcome → State → Prop := fun _ st o t => (∃ v, r = .inl v ∧ o = .returned (v.map (cv L)) ∧ RepX g L σ t.heap) ∧ va_F (gA g) st t
def XcF (g : Gx) (L : Tg → Nat) (r : Res) (σ : Sg) : String → State → State → Prop := fun E st t => (∃ n, r = .inr n ∧ E = exn n ∧ RepX g L σ t.heap) ∧ va_F (gA g) st t
/-- the goal is met by the result r at σ -/
def Rt (κ : Kx) (r : Res) (σ : Sg) : Prop := match κ with
  | (p, l, e, R, s, m, args, below, meth, c, Q, g, L, c0, s0, fc, fs) => sC σ ≤ fc ∧ sS σ ≤ fs ∧ c0 ≤ sC σ ∧ s0 ≤ sS σ ∧ ∃ Qc XC, Q = vx_MQ below Qc XC args s (fc - c0) (fs - s0) (gA g) ∧ (∀ st o t, QcF g L r σ args st o t → Qc args st o t) ∧ ∀ E st t, XcF g L r σ E st t → XC E st t
def Hr (κ : Kx) (ret : Option FieldType) : Prop := match κ with
  | (p, l, e, R, s, m, args, below, meth, c, Q, g, L, c0, s0, fc, fs) => meth.sig.returnType = ret ∧ ∀ x ∈ c.exceptionTable.toList, False
def PcF (g : Gx) (L : Tg → Nat) (σ : Sg) : State → Prop := fun U => RepX g L σ U.heap ∧ GF g U U.heap ∧ g.2.2.1 ≤ U.heap.size
def CtX (l : Launch) (g : Gx) (y : MethodName) (cc : ByteArray) (maxL : Nat) (ret : Option FieldType) (fr lo : Nat) (sem : Sem) : Prop :=
  ∀ (L : Tg → Nat) (as : List AV) (σ σF : Sg) (r : Res), (∀ v ∈ as, sg v) → sem as σ = some (r, σF) → vx_Met l y (Cond.code y cc maxL ret :: UW) { frames := fr, cells := sC σF - sC σ, slots := sS σF - sS σ, locals := lo } (va_Pc (as.map (cv L)) (PcF g L σ)) (QcF g L r σF) (XcF g L r σF) (sC σF - sC σ) (sS σF - sS σ) (gA g)
theorem blindF {g : Gx} {L : Tg → Nat} {σ : Sg} {av : List Value} : FrameBlind (va_Pc av (PcF g L σ)) := by
  intro a U fr mk h
  exact ⟨h.1, h.2.1, GF.same (U := U.calling fr mk a) h.2.2.1 rfl, h.2.2.2⟩
theorem UW_good {w : Cond} (h : w ∈ UW) : goodWord w = true := (List.mem_filter.mp h).2
theorem UW_in {y : MethodName} {cc : ByteArray} {maxL : Nat} {ret : Option FieldType} (h : Cond.code y cc maxL ret ∈ UW) : GoodIn UW (Cond.code y cc maxL ret :: UW) := fun w hw => by
  rcases List.mem_cons.mp hw with rfl | hw
  · exact ⟨h, good_of_word (UW_good h)⟩
  · exact ⟨hw, good_of_word (UW_good hw)⟩
section GO
variable {p : Program} {l : Launch} {e : Env} {R : Room} {s : State} {m : MethodId} {args : Array Value} {below : List Frame} {meth : Method} {c : Code} {H : Heap} {locs : List Loc} {cells slots : Nat} {Q : State → Prop}
theorem vx_go {pc mc ms : Nat} {ls : Array Slot} {st0 rest : List Value} {a : Array Value} {g : Gx} {L : Tg → Nat} {r : Res} {σ : Sg} (hr : vx_Run p l e R s m args below meth c H locs cells slots mc ms (F0 m pc ls st0) rest (QcF g L r σ a) (XcF g L r σ) (gA g)) (hS : va_S (gA g) s.heap H locs)
    (kr : ∀ (v : Option AV) (H1 : Heap) (locs1 : List Loc), r = .inl v → RepX g L σ H1 → (∀ q : Nat, q < H.size → ¬ gA g q → H1[q]? = H[q]?) → va_S (gA g) s.heap H1 locs1 → W p l e R s m args below meth c H1 locs1 (cells + mc) (slots + ms) Q (F0 m (pc + 3) ls ((v.map (cv L)).toList ++ rest)))
    (kx : ∀ (n : Nat) (H1 : Heap) (locs1 : List Loc) (q9 : Addr) (ce : Cell), r = .inr n → RepX g L σ H1 → (∀ q : Nat, q < H.size → ¬ gA g q → H1[q]? = H[q]?) → va_S (gA g) s.heap H1 locs1 → H1[q9]? = some ce → ce.vm = .none → s.vm.findClass (exn n) = some ce.cls → vx_W p l e R s m args below meth c H1 locs1 (cells + mc) (slots + ms) Q (F0 m pc ls rest) q9) : W p l e R s m args below meth c H locs cells slots Q (F0 m pc ls st0) := by
  intro T hT X
  rcases hr T hT X with ⟨v, st₀, t, T', L9, h0, X', hL, e1, e2, ⟨⟨u, hv, hp, hb⟩, hF⟩, st⟩ | ⟨q, st₀, t, T', L9, E, ce, h0, X', hL, e1, e2, ⟨⟨n, hv, hp, hb⟩, hF⟩, hce, hcv, hcl, st⟩
  · cases hp
    obtain ⟨k1, k2, k3⟩ := vx_keep h0 e1 hS (fun _ _ h => h) (fun _ h => h) hL hF
    obtain ⟨t2, a1, b1⟩ := kr u T'.heap (locs ++ L9) hv (by rw [e1]; exact hb) k2 k3 T' rfl X'
    exact ⟨t2, st t2 a1, b1⟩
  · subst hp
    obtain ⟨k1, k2, k3⟩ := vx_keep h0 e1 hS (fun _ _ h => h) (fun _ h => h) hL hF
    obtain ⟨t2, a1, b1⟩ := kx n T'.heap (locs ++ L9) q ce hv (by rw [e1]; exact hb) k2 k3 (by rw [e1]; exact hce) hcv hcl T' rfl X'
    exact ⟨t2, st.trans a1, b1⟩
end GO
section CALL
variable {κ : Kx} {cc : ByteArray} {nL fX lX : Nat} {own : String} {pc : Nat} {st : List AV} {lc : LcT} {σ : Sg} {ret : Option FieldType}
def kl (κ : Kx) : Launch := κ.2.1
def kg (κ : Kx) : Gx := κ.2.2.2.2.2.2.2.2.2.2.2.1
theorem A_iret (hx : Hx κ cc nL own fX lX) {ty : FieldType} {x : Int32} (hr : Hr κ (some ty)) (hn : narrow ty (.int x) = .int x) (d : decode cc pc = .ok (.ireturn, 1)) (k : Rt κ (.inl (some (ai x))) σ) : Acf κ pc [ai x] lc σ := by
  obtain ⟨p, l, e, R, s, m, args, below, meth, c, Q, g, L, c0, s0, fc, fs⟩ := κ
  obtain ⟨⟨hxe, hxb, hxl, hxo, hxw⟩, hxk, hxz, hxc, hxs, hxt, hxf, hxr⟩ := hx
  obtain ⟨k1, k2, k3, k4, Qc, XC, rfl, kq, kx⟩ := k
  intro H locs ls h1 h2 h3 h4 h5 h6 h7 h8
  exact W.widen (Nat.sub_le_sub_right h7 _) (Nat.sub_le_sub_right h8 _) (vx_ret (W.zret hxe hxb hr.1 hn (fun t ht _ => kq _ _ _ ⟨⟨some (ai x), rfl, rfl, by rw [ht]; exact h2⟩, h4.F ht⟩) h4.2.2 d hxk))
theorem A_aret (hx : Hx κ cc nL own fX lX) {C : String} {v : AV} (hr : Hr κ (some (.object C))) (hv : (∃ t, v = ar t) ∨ v = an) (d : decode cc pc = .ok (.areturn, 1)) (k : Rt κ (.inl (some v)) σ) : Acf κ pc [v] lc σ := by
  obtain ⟨p, l, e, R, s, m, args, below, meth, c, Q, g, L, c0, s0, fc, fs⟩ := κ
  obtain ⟨⟨hxe, hxb, hxl, hxo, hxw⟩, hxk, hxz, hxc, hxs, hxt, hxf, hxr⟩ := hx
  obtain ⟨k1, k2, k3, k4, Qc, XC, rfl, kq, kx⟩ := k
  intro H locs ls h1 h2 h3 h4 h5 h6 h7 h8
  exact W.widen (Nat.sub_le_sub_right h7 _) (Nat.sub_le_sub_right h8 _) (vx_ret (W.aret hxe hxb hr.1 (Or.inl ⟨C, rfl⟩) (by rcases hv with ⟨t, rfl⟩ | rfl; exact Or.inr ⟨_, rfl⟩; exact Or.inl rfl) (fun t ht _ => kq _ _ _ ⟨⟨some v, rfl, rfl, by rw [ht]; exact h2⟩, h4.F ht⟩) h4.2.2 d hxk))
theorem A_vret (hx : Hx κ cc nL own fX lX) (hr : Hr κ none) (d : decode cc pc = .ok (.return_, 1)) (k : Rt κ (.inl none) σ) : Acf κ pc [] lc σ := by
  obtain ⟨p, l, e, R, s, m, args, below, meth, c, Q, g, L, c0, s0, fc, fs⟩ := κ
  obtain ⟨⟨hxe, hxb, hxl, hxo, hxw⟩, hxk, hxz, hxc, hxs, hxt, hxf, hxr⟩ := hx
  obtain ⟨k1, k2, k3, k4, Qc, XC, rfl, kq, kx⟩ := k
  intro H locs ls h1 h2 h3 h4 h5 h6 h7 h8
  exact W.widen (Nat.sub_le_sub_right h7 _) (Nat.sub_le_sub_right h8 _) (vx_ret (W.vret hxe hxb hr.1 (fun t ht _ => kq _ _ _ ⟨⟨none, rfl, rfl, by rw [ht]; exact h2⟩, h4.F ht⟩) h4.2.2 d hxk))
/-- cells and slots made beside the world -/
def grw (σ : Sg) (a b : Nat) : Sg := upN (upN σ 1 (sC σ + a)) 2 (sS σ + b)
theorem grw_N {σ : Sg} {a b k : Nat} (h : k ≠ 1) (h' : k ≠ 2) : (grw σ a b).2.2.1 k = σ.2.2.1 k := by simp [grw, upN, h, h']
theorem grw_C {σ : Sg} {a b : Nat} : sC (grw σ a b) = sC σ + a ∧ sS (grw σ a b) = sS σ + b := by simp [grw, upN, sC, sS]
theorem grw_cell {L : Tg → Nat} {cy : Nat → ClassId} {σ : Sg} {a b : Nat} {t : Tg} : cellOf L cy (grw σ a b) t = cellOf L cy σ t := by
  unfold cellOf
  cases ash t with
  | some x => rfl
  | none =>
    dsimp only
    unfold cellN
    split
    all_goals first | rfl | skip
    · rw [grw_N (by omega) (by omega)]; rfl
    · rw [grw_N (by omega) (by omega)]; rfl
theorem grw_vld {σ : Sg} {a b : Nat} {t : Tg} : vld (grw σ a b) t = vld σ t := by
  unfold vld
  split
  all_goals first | rfl | skip
  · rw [grw_N (by omega) (by omega)]
theorem RepX.grw {g : Gx} {L : Tg → Nat} {σ : Sg} {H H' : Heap} {a b : Nat} (h : RepX g L σ H) (hq : ∀ q : Nat, q < H.size → H'[q]? = H[q]?) : RepX g L (grw σ a b) H' := by
  obtain ⟨L', hL, r1, r2, r3, r4, r5⟩ := h
  refine ⟨L', hL, fun t ht => ?_, fun t u ht hu => r2 t u (grw_vld ▸ ht) (grw_vld ▸ hu), fun t ht => r3 t (grw_vld ▸ ht), r4, fun k hk => ?_⟩
  · rw [grw_cell]
    have h9 := r1 t (grw_vld ▸ ht)
    exact h9.kept (hq _ h9.lt)
  · rw [grw_N (by omega) (by omega), grw_N (by omega) (by omega)]
    exact r5 k hk
def exNames : List String := ["java/lang/RuntimeException", "java/lang/Exception"]
theorem A_throw (hx : Hx κ cc nL own fX lX) {n ik is ic : Nat} {text : String} (hr : Hr κ ret) (hs : (own, is, text) ∈ strs) (hk : Cond.classLink own ik (exn n) ∈ UW) (hini : Cond.initialized (exn n) ∈ UW) (hfit : Bundle.fit (exn n) = true)
    (hat : ∀ w ∈ vx_atS own ic (exn n) exNames, w ∈ UW ∨ w ∈ FW) (hgood : ∀ w ∈ Cond.classLink own ik (exn n) :: Cond.initialized (exn n) :: vx_atS own ic (exn n) exNames, vx_ot w = true)
    (d0 : decode cc pc = .ok (.new ik, 3)) (d3 : decode cc (pc + 3) = .ok (.dup, 1)) (d4 : decode cc (pc + 4) = .ok (.ldc is, 2)) (d6 : decode cc (pc + 6) = .ok (.invokespecial ic, 3)) (d9 : decode cc (pc + 9) = .ok (.athrow, 1))
    (hf : 6 ≤ fX) (hlX : wt st + 82 ≤ lX) (hlc : lc.length = nL) (k : Rt κ (.inr n) (grw σ 1 6)) : Acf κ pc st lc σ := by
  obtain ⟨p, l, e, R, s, m, args, below, meth, c, Q, g, L, c0, s0, fc, fs⟩ := κ
  obtain ⟨⟨hxe, hxb, hxl, hxo, hxw⟩, hxk, hxz, hxc, hxs, hxt, hxf, hxr⟩ := hx
  obtain ⟨k1, k2, k3, k4, Qc, XC, rfl, kq, kx⟩ := k
  intro H locs ls h1 h2 h3 h4 h5 h6 h7 h8
  obtain ⟨sa, hsa⟩ := h3.2.2.2.2.1 _ hs
  have h3' : GF g s s.heap := h3.kept (fun a _ ha => (h4.2.1 a (Nat.lt_of_lt_of_le (Nat.lt_of_not_le ha) hxz) ha).symm)
  rw [grw_C.1] at k1 k3
  rw [grw_C.2] at k2 k4
  refine vx_throwS (own := own) (cls := exn n) (names := exNames) (text := text) hxe hxb hxt hxo hfit (by decide) (hxw _ hk) (hxw _ hini) hsa (fun w hw => ?_) hgood h3'.2.2.1 h3'.2.2.2.1 h4 (by rw [h1.1, hlc]; exact hxl.symm) d0 d3 d4 d6 d9 (fun x hx9 => (hr.2 x hx9).elim) (by rw [hxf]; exact Nat.lt_of_lt_of_le (by decide) hf) (by rw [hxr, wt_cv]; exact hlX) (by rw [hxc]; omega) (by rw [hxs]; omega) hxk (fun t ht hsz hq => kx _ _ _ ⟨⟨n, rfl, rfl, h2.grw hq⟩, Nat.le_trans h4.1 hsz, fun q hq1 hq2 => by rw [hq q (Nat.lt_of_lt_of_le hq1 h4.1)]; exact h4.2.1 q hq1 hq2⟩) h4.2.2 (by omega) (by omega)
  rcases hat w hw with q | q
  · exact hxw _ q
  · exact va_Nw.use (FW_face q).1 (h3.2.2.2.2.2.1 w q)
end CALL
