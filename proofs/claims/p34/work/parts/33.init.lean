/-! constructors: of the lists, of a member, of a message; Arrays.fill over new cells -/
theorem NX.flat {g : Gx} {Pw : Heap → Prop} {ws vs : va_W} {H : Heap} (h : NX g (NX g Pw ws) vs H) : NX g Pw (ws ++ vs) H := by
  obtain ⟨H1, ⟨H0, h1, h2, h3, h4, h5, h6⟩, k2, k3, k4, k5, k6⟩ := h
  refine ⟨H0, h1, h2, by omega, fun q hq => by rw [k4 q (by omega), h4 q hq], fun x hx => ?_, ?_⟩
  · rcases List.mem_append.mp hx with z | z
    · obtain ⟨r1, r2⟩ := h5 x z
      exact ⟨r1.kept (k4 _ r1.lt), r2⟩
    · obtain ⟨r1, r2⟩ := k5 x z
      exact ⟨r1, by omega⟩
  · rw [List.map_append]
    refine List.nodup_append.mpr ⟨h6, k6, fun x hx y hy z => ?_⟩
    subst z
    obtain ⟨w, hw, rfl⟩ := List.mem_map.mp hx
    obtain ⟨w', hw', e⟩ := List.mem_map.mp hy
    have r1 := (h5 w hw).1.lt
    have r2 := (k5 w' hw').2
    omega
section NR
variable {κ : Kx} {cc : ByteArray} {nL fX lX : Nat} {own : String} {pc : Nat} {st : List AV} {lc : LcT} {Rp : Heap → Prop} {nc ns : Nat} {Pw : Heap → Prop} {ws : va_W}
theorem AcH.base (hx : Hx κ cc nL own fX lX) (k : AcH κ (NX (kg κ) Rp []) nc ns pc st lc) : AcH κ Rp nc ns pc st lc := by
  obtain ⟨p, l, e, R, s, m, args, below, meth, c, Q, g, L, c0, s0, fc, fs⟩ := κ
  obtain ⟨⟨hxe, hxb, hxl, hxo, hxw⟩, hxk, hxz, hxc, hxs, hxt, hxf, hxr⟩ := hx
  intro H locs ls h1 h2 h3 h4
  exact k H locs ls h1 (NX.nil h2 (Nat.le_trans hxz h4.1)) h3 h4
theorem N_get (hx : Hx κ cc nL own fX lX) (i : Nat) {b ci slot idx : Nat} {C ref : String} {T : u_T} {N : Nat} {fs : List Value} {v : Value} (hi : ws[i]? = some (b, .inr (ci, fs))) (hin : ∀ w ∈ u_ws C T N, w ∈ UW) (hcl : vwCl[ci]? = some (C, T, N)) (hr : (T slot).1 = ref ∨ Cond.sameField ref (T slot).1 (T slot).2.1 (T slot).2.2.1 ∈ UW) (hk : slot < N) (hl : Cond.fieldLink own idx ref (T slot).2.1 (T slot).2.2.1 ∈ UW) (hv : fs[slot]? = some v) (d : decode cc pc = .ok (.getfield idx, 3)) (k : AcH κ (NX (kg κ) Pw ws) nc ns (pc + 3) (.inl v :: st) lc) : AcH κ (NX (kg κ) Pw ws) nc ns pc (aq b :: st) lc :=
  H_getf hx (fun H h => h.at hi) hin hcl hr hk hl hv d k
theorem N_put (hx : Hx κ cc nL own fX lX) (i : Nat) {b ci slot idx : Nat} {C ref : String} {T : u_T} {N : Nat} {fs : List Value} {x : Value} {ty : FieldType} (hi : ws[i]? = some (b, .inr (ci, fs))) (hin : ∀ w ∈ u_ws C T N, w ∈ UW) (ty0 : Nat → FieldType) (hty : ∀ k, k < N → parseFieldDescriptor (T k).2.2.1 = some (ty0 k)) (hnm : ∀ a, a < N → ∀ b, b < N → a ≠ b → (T a).2.1 ≠ (T b).2.1) (hcl : vwCl[ci]? = some (C, T, N)) (hr : (T slot).1 = ref ∨ Cond.sameField ref (T slot).1 (T slot).2.1 (T slot).2.2.1 ∈ UW) (hk : slot < N) (hl : Cond.fieldLink own idx ref (T slot).2.1 (T slot).2.2.1 ∈ UW) (hfin : (T slot).2.2.2 = false) (hd : parseFieldDescriptor (T slot).2.2.1 = some ty) (hn : narrow ty x = x) (hfit : fits ty x = true) (hsl : slot < fs.length)
    (d : decode cc pc = .ok (.putfield idx, 3)) (k : AcH κ (NX (kg κ) Pw (ws.set i (b, .inr (ci, fs.set slot x)))) nc ns (pc + 3) st lc) : AcH κ (NX (kg κ) Pw ws) nc ns pc (.inl x :: aq b :: st) lc :=
  AcH.pure (P := gA (kg κ) b) (fun hg => H_putf hx (fun H h => h.at hi) hin ty0 hty hnm hcl hr hk hl hfin hd hn hfit hsl hg (fun H H' h h4 hq => h.put hi h4 hq) d k) (fun H h => h.gA hi)
theorem N_putF (hx : Hx κ cc nL own fX lX) (hname : (km κ).name = "<init>") (i : Nat) {b ci slot idx : Nat} {C : String} {T : u_T} {N : Nat} {fs : List Value} {x : Value} {ty : FieldType} (hi : ws[i]? = some (b, .inr (ci, fs))) (hin : ∀ w ∈ u_ws C T N, w ∈ UW) (ty0 : Nat → FieldType) (hty : ∀ k, k < N → parseFieldDescriptor (T k).2.2.1 = some (ty0 k)) (hnm : ∀ a, a < N → ∀ b, b < N → a ≠ b → (T a).2.1 ≠ (T b).2.1) (hcl : vwCl[ci]? = some (C, T, N)) (hr : (T slot).1 = own) (hk : slot < N) (hl : Cond.fieldLink own idx own (T slot).2.1 (T slot).2.2.1 ∈ UW) (hfin : (T slot).2.2.2 = true) (hd : parseFieldDescriptor (T slot).2.2.1 = some ty) (hn : narrow ty x = x) (hfit : fits ty x = true) (hsl : slot < fs.length)
    (d : decode cc pc = .ok (.putfield idx, 3)) (k : AcH κ (NX (kg κ) Pw (ws.set i (b, .inr (ci, fs.set slot x)))) nc ns (pc + 3) st lc) : AcH κ (NX (kg κ) Pw ws) nc ns pc (.inl x :: aq b :: st) lc :=
  AcH.pure (P := gA (kg κ) b) (fun hg => H_putF hx hname (fun H h => h.at hi) hin ty0 hty hnm hcl hr hk hl hfin hd hn hfit hsl hg (fun H H' h h4 hq => h.put hi h4 hq) d k) (fun H h => h.gA hi)
theorem N_newi (hx : Hx κ cc nL own fX lX) {n : Nat} (hn : n < 65536) (hc : nc + 1 ≤ (kr κ).1) (hs : ns + n ≤ (kr κ).2) (d : decode cc pc = .ok (.newarray .int, 2)) (k : ∀ a : Nat, AcH κ (NX (kg κ) Pw (ws ++ [(a, .inl ((kg κ).2.1 0, n, .inl (fun _ => 0)))])) (nc + 1) (ns + n) (pc + 2) (aq a :: st) lc) : AcH κ (NX (kg κ) Pw ws) nc ns pc (ai (nI n) :: st) lc :=
  H_newi hx hn hc hs d (fun a => AcH.mono (fun H h => by obtain ⟨H0, q1, q2, q3, q4⟩ := h; exact q1.push q2 q3 q4) (k a))
/-- a new object that a constructor is to fill: by itself, what was before it is old -/
theorem N_newc (hx : Hx κ cc nL own fX lX) {idx ci : Nat} {C : String} {T : u_T} {N : Nat} {fs : List Value} (hin : ∀ w ∈ u_ws C T N, w ∈ UW) (ty0 : Nat → FieldType) (hty : ∀ k, k < N → parseFieldDescriptor (T k).2.2.1 = some (ty0 k)) (hcl : vwCl[ci]? = some (C, T, N)) (hl : Cond.classLink own idx C ∈ UW) (hins : Cond.instantiable C N ∈ UW) (hini : Cond.initialized C ∈ UW) (hfs : ∀ j, j < N → defaultValue (ty0 j) = vp_V fs j) (hc : nc + 1 ≤ (kr κ).1) (hs : ns + N ≤ (kr κ).2)
    (d : decode cc pc = .ok (.new idx, 3)) (k : ∀ a : Nat, AcH κ (NX (kg κ) Rp [(a, .inr (ci, fs))]) (nc + 1) (ns + N) (pc + 3) (aq a :: st) lc) : AcH κ Rp nc ns pc st lc :=
  AcH.base hx (H_newc hx hin ty0 hty hcl hl hins hini hfs hc hs d (fun a => AcH.mono (fun H h => by obtain ⟨H0, q1, q2, q3, q4⟩ := h; exact q1.push q2 q3 q4) (k a)))
theorem H_iast (hx : Hx κ cc nL own fX lX) {Rq : Heap → Prop} {a n : Nat} {f : Nat → Int32} {i x : Int32} (hat : ∀ H, Rp H → va_at (kg κ).1 vwCl (a, .inl ((kg κ).2.1 0, n, .inl f)) H) (hin : vp_in i n) (hg : gA (kg κ) a)
    (hput : ∀ H H', Rp H → va_at (kg κ).1 vwCl (a, .inl ((kg κ).2.1 0, n, .inl (va_up f i.toNatClampNeg x))) H' → (∀ q : Nat, q ≠ a → H'[q]? = H[q]?) → Rq H') (d : decode cc pc = .ok (.iastore, 1)) (k : AcH κ Rq nc ns (pc + 1) st lc) : AcH κ Rp nc ns pc (ai x :: ai i :: aq a :: st) lc := by
  obtain ⟨p, l, e, R, s, m, args, below, meth, c, Q, g, L, c0, s0, fc, fs0⟩ := κ
  obtain ⟨⟨hxe, hxb, hxl, hxo, hxw⟩, hxk, hxz, hxc, hxs, hxt, hxf, hxr⟩ := hx
  intro H locs ls h1 h2 h3 h4
  refine W.iast hxe hxb (hat H h2) ((h3.1.2 0 _ rfl).1 n (fun j => .int (f j))) (fun q => by cases q) (by show ¬ (i < 0 ∨ (arrV _ _ _).slots.size ≤ _); rw [arrV_size]; exact hin) rfl rfl d fun H1 z1 z oq => ?_
  refine k H1 _ ls h1 (hput H H1 h2 ?_ oq) (h3.kept (fun q _ ha => oq q (fun z => ha (by rw [z]; exact hg)))) (h4.put z oq hg)
  show H1[a]? = some (vp_cell _ _)
  rw [z1, vp_cell_i, vp_cell_i, arrV_store]
  congr 2
  funext q
  by_cases hq : q = i.toNatClampNeg
  · subst hq
    simp [updV, va_up]
  · simp [updV, va_up, hq]
end NR
def flf (f : Nat → Int32) (x : Int32) (n : Nat) : Nat → Int32 := fun j => if j < n then x else f j
theorem flf_s {f : Nat → Int32} {x : Int32} {n : Nat} : va_up (flf f x n) n x = flf f x (n + 1) := by
  funext j
  unfold va_up flf
  rcases Nat.lt_trichotomy j n with q | q | q
  · rw [if_neg (by omega), if_pos q, if_pos (by omega)]
  · rw [if_pos q, if_pos (by omega)]
  · rw [if_neg (by omega), if_neg (by omega), if_neg (by omega)]
theorem flf_0 {f : Nat → Int32} {x : Int32} : flf f x 0 = f := funext fun j => if_neg (Nat.not_lt_zero j)
theorem set_self {α : Type} {l : List α} {i : Nat} {x : α} (h : l[i]? = some x) : l.set i x = l := by
  apply List.ext_getElem?
  intro j
  by_cases e : i = j
  · subst e
    rw [List.getElem?_set_self (List.getElem?_eq_some_iff.mp h).1, h]
  · rw [List.getElem?_set_ne e]
theorem fillH_lp {κ : Kx} {nL fX lX : Nat} {own : String} (hx : Hx κ cJ7_fill_53178 nL own fX lX) {Pw : Heap → Prop} {ws : va_W} {i a n nc ns : Nat} {f : Nat → Int32} {x : Int32} (hi : i < ws.length) (hn : n < 65536)
    (kk : ∀ lc, AcH κ (NX (kg κ) Pw (ws.set i (a, .inl ((kg κ).2.1 0, n, .inl (flf f x n))))) nc ns 20 [] lc) : ∀ d k, d + k = n → AcH κ (NX (kg κ) Pw (ws.set i (a, .inl ((kg κ).2.1 0, n, .inl (flf f x k))))) nc ns 5 [] [some (aq a), some (ai x), some (ai (nI k)), some (ai (nI n))] := by
  have hn : n < 2147483648 := Nat.lt_of_lt_of_le hn (by decide)
  intro d
  induction d with
  | zero =>
    intro k hk
    rw [Nat.zero_add] at hk
    subst hk
    exact H_iload_n (i := 2) hx dJ7_fill_53178_5 rfl (H_iload_n (i := 3) hx dJ7_fill_53178_6 rfl (H_icmp_ge (tgt := 20) hx dJ7_fill_53178_7 (by decide) (fun _ => kk _) (fun q => absurd (nI_le (Nat.le_refl k) hn) q)))
  | succ d ih =>
    intro k hk
    have hkn : k < n := by omega
    have hself : (ws.set i (a, (.inl ((kg κ).2.1 0, n, .inl (flf f x k)) : va_E)))[i]? = some (a, .inl ((kg κ).2.1 0, n, .inl (flf f x k))) := List.getElem?_set_self hi
    refine AcH.pure (P := gA (kg κ) a) (fun hg => ?_) (fun H h => h.gA hself)
    refine H_iload_n (i := 2) hx dJ7_fill_53178_5 rfl (H_iload_n (i := 3) hx dJ7_fill_53178_6 rfl (H_icmp_ge (tgt := 20) hx dJ7_fill_53178_7 (by decide) (fun q => absurd q (nI_ge hkn hn)) (fun _ => ?_)))
    refine H_aload_n (i := 0) (t := a) hx dJ7_fill_53178_10 rfl (H_iload_n (i := 2) hx dJ7_fill_53178_11 rfl (H_iload_n (i := 1) hx dJ7_fill_53178_12 rfl ?_))
    refine H_iast (Rq := NX (kg κ) Pw (ws.set i (a, .inl ((kg κ).2.1 0, n, .inl (flf f x (k + 1)))))) hx (fun H h => h.at hself) (vp_in_nI hkn hn) hg (fun H H' h h4 hq => ?_) dJ7_fill_53178_13 ?_
    · rw [nI_clamp (Nat.lt_trans hkn hn), flf_s] at h4
      have := h.put hself h4 hq
      rw [List.set_set] at this
      exact this
    · exact H_iinc (i := 2) hx dJ7_fill_53178_14 rfl (nI_1 k) (H_goto (tgt := 5) hx dJ7_fill_53178_17 (by decide) (ih (k + 1) (by omega)))
theorem c_fillH {l : Launch} {g : Gx} (hl : l.stackTraces = false) {Pw : Heap → Prop} {ws : va_W} {i a n : Nat} {f : Nat → Int32} {x : Int32} (hi : ws[i]? = some (a, .inl (g.2.1 0, n, .inl f))) (hn : n < 65536) : CtH (fun _ => True) l g yJ7_fill_53178 cJ7_fill_53178 4 none 1 20 0 0 [.ref a, .int x] (NX g Pw ws) (fun v H => v = none ∧ NX g Pw (ws.set i (a, .inl (g.2.1 0, n, .inl (flf f x n)))) H) := by
  refine CtH.of (by decide) hl (by simp [Value.category]) (by simp) (fun κ h1 h2 _ hx hr hkk hl9 => ?_)
  subst h1
  have hil := (List.getElem?_eq_some_iff.mp hi).1
  refine H_iconst (v := nI 0) hx dJ7_fill_53178_0 (by decide) (H_istore_n (i := 2) hx dJ7_fill_53178_1 (by show 2 < 4; decide) (H_aload_n (i := 0) (t := a) hx dJ7_fill_53178_2 rfl (H_alen (t0 := 0) hx (fun H h => h.at hi) rfl dJ7_fill_53178_3 (H_istore_n (i := 3) hx dJ7_fill_53178_4 (by show 3 < 4; decide) ?_))))
  have h := fillH_lp hx (Pw := Pw) (ws := ws) (i := i) (a := a) (n := n) (nc := 0) (ns := 0) (f := f) (x := x) hil hn (fun lc => H_vret hx hr dJ7_fill_53178_20 hkk (Nat.zero_le _) (Nat.zero_le _) (fun H h => ⟨rfl, h⟩)) n 0 rfl
  rw [flf_0, set_self hi] at h
  exact h
