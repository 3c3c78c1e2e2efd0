/-! pure: meanings as rewriting, a step at a time (laid by wip/p34/gen/rw.py) -/
def gI (o : Option (Option AV)) (σ : Sg) : Option (Int32 × Sg) := match o with
  | some (some (.inl (.int x))) => some (x, σ)
  | _ => none
def gR (o : Option (Option AV)) (σ : Sg) : Option (Tg × Sg) := match o with
  | some (some (.inr t)) => some (t, σ)
  | _ => none
def gN (o : Option (Option AV)) (σ : Sg) : Option (AV × Sg) := match o with
  | some (some (.inr t)) => some (.inr t, σ)
  | some (some (.inl .null)) => some (.inl .null, σ)
  | _ => none
theorem w_I {lc : LcT} {σ : Sg} {v : Int32} : xI v lc σ = some (v, σ) := Eq.trans rfl rfl
theorem w_L {lc : LcT} {σ : Sg} {i : Nat} : xL i lc σ = gI lc[i]? σ := Eq.trans rfl rfl
theorem w_L1 {σ : Sg} {x : Int32} : gI (some (some (ai x))) σ = some (x, σ) := Eq.trans rfl rfl
theorem w_LR {lc : LcT} {σ : Sg} {i : Nat} : xLR i lc σ = gR lc[i]? σ := Eq.trans rfl rfl
theorem w_LR1 {σ : Sg} {x : Tg} : gR (some (some (ar x))) σ = some (x, σ) := Eq.trans rfl rfl
theorem w_LN {lc : LcT} {σ : Sg} {i : Nat} : xLN i lc σ = gN lc[i]? σ := Eq.trans rfl rfl
theorem w_LN1 {σ : Sg} {x : Tg} : gN (some (some (ar x))) σ = some (ar x, σ) := Eq.trans rfl rfl
theorem w_LN2 {σ : Sg}  : gN (some (some an)) σ = some (an, σ) := Eq.trans rfl rfl
theorem w_null {lc : LcT} {σ : Sg}  : xNull lc σ = some (an, σ) := Eq.trans rfl rfl
def bN (o : Option (Tg × Sg)) : Option (AV × Sg) := o.bind fun r => some (ar r.1, r.2)
theorem w_N {lc : LcT} {σ : Sg} {e : Ex Tg} : xN e lc σ = bN (e lc σ) := Eq.trans rfl rfl
theorem w_N1 {σ : Sg} {x : Tg} : bN (some (x, σ)) = some (ar x, σ) := Eq.trans rfl rfl
def bB1 (op : Int32 → Int32 → Int32) (o : Option (Int32 × Sg)) (b : Ex Int32) (lc : LcT) : Option (Int32 × Sg) := o.bind fun r => (b lc r.2).bind fun q => some (op r.1 q.1, q.2)
def bB2 (op : Int32 → Int32 → Int32) (x : Int32) (o : Option (Int32 × Sg)) : Option (Int32 × Sg) := o.bind fun q => some (op x q.1, q.2)
theorem w_B {lc : LcT} {σ : Sg} {op : Int32 → Int32 → Int32} {a b : Ex Int32} : xBin op a b lc σ = bB1 op (a lc σ) b lc := Eq.trans rfl rfl
theorem w_B1 {lc : LcT} {σ : Sg} {op : Int32 → Int32 → Int32} {x : Int32} {b : Ex Int32} : bB1 op (some (x, σ)) b lc = bB2 op x (b lc σ) := Eq.trans rfl rfl
theorem w_B2 {σ : Sg} {op : Int32 → Int32 → Int32} {x y : Int32} : bB2 op x (some (y, σ)) = some (op x y, σ) := Eq.trans rfl rfl
def bG (tk kc : Nat) (o : Option (Tg × Sg)) : Option (Int32 × Sg) := o.bind fun r => if r.1.1 = tk ∧ vld r.2 r.1 = true then some (r.2.1 kc r.1.2 0, r.2) else none
theorem w_GI {lc : LcT} {σ : Sg} {tk kc : Nat} {e : Ex Tg} : xGI tk kc e lc σ = bG tk kc (e lc σ) := Eq.trans rfl rfl
theorem w_GI1 {σ : Sg} {tk kc i : Nat} : bG tk kc (some ((tk, i), σ)) = if vld σ (tk, i) = true then some (σ.1 kc i 0, σ) else none := by simp [bG]
def bH (tk : Nat) (tf : Nat → Tg) (o : Option (Tg × Sg)) : Option (Tg × Sg) := o.bind fun r => if r.1.1 = tk ∧ vld r.2 r.1 = true then some (tf r.1.2, r.2) else none
theorem w_GR {lc : LcT} {σ : Sg} {tk : Nat} {tf : Nat → Tg} {e : Ex Tg} : xGR tk tf e lc σ = bH tk tf (e lc σ) := Eq.trans rfl rfl
theorem w_GR1 {σ : Sg} {tk i : Nat} {tf : Nat → Tg} : bH tk tf (some ((tk, i), σ)) = if vld σ (tk, i) = true then some (tf i, σ) else none := by simp [bH]
def bA1 (b : Bool) (o : Option (Tg × Sg)) (i : Ex Int32) (lc : LcT) : Option (Int32 × Sg) := o.bind fun r => (i lc r.2).bind fun q => (rdA b q.2 r.1 q.1).bind fun v => some (v, q.2)
def bA2 (b : Bool) (t : Tg) (o : Option (Int32 × Sg)) : Option (Int32 × Sg) := o.bind fun q => (rdA b q.2 t q.1).bind fun v => some (v, q.2)
def bA3 (o : Option Int32) (σ : Sg) : Option (Int32 × Sg) := o.bind fun v => some (v, σ)
theorem w_A {lc : LcT} {σ : Sg} {b : Bool} {e : Ex Tg} {i : Ex Int32} : xAld b e i lc σ = bA1 b (e lc σ) i lc := Eq.trans rfl rfl
theorem w_A1 {lc : LcT} {σ : Sg} {b : Bool} {t : Tg} {i : Ex Int32} : bA1 b (some (t, σ)) i lc = bA2 b t (i lc σ) := Eq.trans rfl rfl
theorem w_A2 {σ : Sg} {b : Bool} {t : Tg} {j : Int32} : bA2 b t (some (j, σ)) = bA3 (rdA b σ t j) σ := Eq.trans rfl rfl
theorem w_A3 {σ : Sg} {x : Int32} : bA3 (some x) σ = some (x, σ) := Eq.trans rfl rfl
theorem w_rd3 {σ : Sg} {i : Nat} {j : Int32} : rdA false σ (3, i) j = if vld σ (3, i) = true ∧ inB j 4 = true then some (σ.1 16 i j.toNatClampNeg) else none := by simp [rdA, ash]
theorem w_wr3 {σ : Sg} {i : Nat} {j x : Int32} : wrA false σ (3, i) j x = if vld σ (3, i) = true ∧ inB j 4 = true then some (upI σ 16 i j.toNatClampNeg x) else none := by simp [wrA, ash]
theorem w_rd7 {σ : Sg} {i : Nat} {j : Int32} : rdA false σ (7, i) j = if vld σ (7, i) = true ∧ inB j 4 = true then some (σ.1 26 i j.toNatClampNeg) else none := by simp [rdA, ash]
theorem w_wr7 {σ : Sg} {i : Nat} {j x : Int32} : wrA false σ (7, i) j x = if vld σ (7, i) = true ∧ inB j 4 = true then some (upI σ 26 i j.toNatClampNeg x) else none := by simp [wrA, ash]
theorem w_rd8 {σ : Sg} {i : Nat} {j : Int32} : rdA false σ (8, i) j = if vld σ (8, i) = true ∧ inB j 4 = true then some (σ.1 27 i j.toNatClampNeg) else none := by simp [rdA, ash]
theorem w_wr8 {σ : Sg} {i : Nat} {j x : Int32} : wrA false σ (8, i) j x = if vld σ (8, i) = true ∧ inB j 4 = true then some (upI σ 27 i j.toNatClampNeg x) else none := by simp [wrA, ash]
theorem w_rd9 {σ : Sg} {i : Nat} {j : Int32} : rdA false σ (9, i) j = if vld σ (9, i) = true ∧ inB j 4 = true then some (σ.1 28 i j.toNatClampNeg) else none := by simp [rdA, ash]
theorem w_wr9 {σ : Sg} {i : Nat} {j x : Int32} : wrA false σ (9, i) j x = if vld σ (9, i) = true ∧ inB j 4 = true then some (upI σ 28 i j.toNatClampNeg x) else none := by simp [wrA, ash]
theorem w_rd10 {σ : Sg} {i : Nat} {j : Int32} : rdA false σ (10, i) j = if vld σ (10, i) = true ∧ inB j 4 = true then some (σ.1 29 i j.toNatClampNeg) else none := by simp [rdA, ash]
theorem w_wr10 {σ : Sg} {i : Nat} {j x : Int32} : wrA false σ (10, i) j x = if vld σ (10, i) = true ∧ inB j 4 = true then some (upI σ 29 i j.toNatClampNeg x) else none := by simp [wrA, ash]
theorem w_rm0 {σ : Sg} {j : Int32} : rdA false σ (12, 0) j = if inB j 48 = true then some (σ.1 50 0 j.toNatClampNeg) else none := by simp [rdA, ash, mtb, vld]
theorem w_wm0 {σ : Sg} {j x : Int32} : wrA false σ (12, 0) j x = if inB j 48 = true then some (upI σ 50 0 j.toNatClampNeg x) else none := by simp [wrA, ash, mtb, vld]
theorem w_rm1 {σ : Sg} {j : Int32} : rdA false σ (12, 1) j = if inB j 48 = true then some (σ.1 51 0 j.toNatClampNeg) else none := by simp [rdA, ash, mtb, vld]
theorem w_wm1 {σ : Sg} {j x : Int32} : wrA false σ (12, 1) j x = if inB j 48 = true then some (upI σ 51 0 j.toNatClampNeg x) else none := by simp [wrA, ash, mtb, vld]
theorem w_rm2 {σ : Sg} {j : Int32} : rdA false σ (12, 2) j = if inB j 48 = true then some (σ.1 52 0 j.toNatClampNeg) else none := by simp [rdA, ash, mtb, vld]
theorem w_wm2 {σ : Sg} {j x : Int32} : wrA false σ (12, 2) j x = if inB j 48 = true then some (upI σ 52 0 j.toNatClampNeg x) else none := by simp [wrA, ash, mtb, vld]
theorem w_rm3 {σ : Sg} {j : Int32} : rdA false σ (12, 3) j = if inB j 12 = true then some (σ.1 53 0 j.toNatClampNeg) else none := by simp [rdA, ash, mtb, vld]
theorem w_wm3 {σ : Sg} {j x : Int32} : wrA false σ (12, 3) j x = if inB j 12 = true then some (upI σ 53 0 j.toNatClampNeg x) else none := by simp [wrA, ash, mtb, vld]
theorem w_rm4 {σ : Sg} {j : Int32} : rdA false σ (12, 4) j = if inB j 8 = true then some (σ.1 54 0 j.toNatClampNeg) else none := by simp [rdA, ash, mtb, vld]
theorem w_wm4 {σ : Sg} {j x : Int32} : wrA false σ (12, 4) j x = if inB j 8 = true then some (upI σ 54 0 j.toNatClampNeg x) else none := by simp [wrA, ash, mtb, vld]
theorem w_v0 {σ : Sg}  : vld σ (0, 0) = true := Eq.trans rfl rfl
theorem w_v1 {σ : Sg}  : vld σ (1, 0) = true := Eq.trans rfl rfl
theorem w_v2 {σ : Sg} {i : Nat} (h : i < 4) : vld σ (2, i) = true := by simp [vld]; exact h
theorem w_v3 {σ : Sg} {i : Nat} (h : i < 4) : vld σ (3, i) = true := by simp [vld]; exact h
theorem w_v4 {σ : Sg} {i : Nat} (h : i < 11) : vld σ (4, i) = true := by simp [vld]; exact h
theorem w_v6 {σ : Sg} {i : Nat} (h : i < σ.2.2.1 0) : vld σ (6, i) = true := by simp [vld]; exact h
theorem w_v7 {σ : Sg} {i : Nat} (h : i < σ.2.2.1 0) : vld σ (7, i) = true := by simp [vld]; exact h
theorem w_v8 {σ : Sg} {i : Nat} (h : i < σ.2.2.1 0) : vld σ (8, i) = true := by simp [vld]; exact h
theorem w_v9 {σ : Sg} {i : Nat} (h : i < σ.2.2.1 0) : vld σ (9, i) = true := by simp [vld]; exact h
theorem w_v10 {σ : Sg} {i : Nat} (h : i < σ.2.2.1 0) : vld σ (10, i) = true := by simp [vld]; exact h
theorem inB_t {a N : Nat} (h : a < N) (h2 : a < 2147483648) : inB (nI a) N = true := by
  unfold inB
  rw [show (nI a).toNatClampNeg = a from nI_clamp h2]
  simp [show ¬ nI a < 0 from nI_pos h2]
  exact h
theorem cl_nI {a : Nat} (h : a < 2147483648) : (nI a).toNatClampNeg = a := nI_clamp h
theorem w_ui1 {σ : Sg} {k o j k2 o2 j2 : Nat} {x : Int32} : (upI σ k o j x).1 k2 o2 j2 = if k2 = k ∧ o2 = o ∧ j2 = j then x else σ.1 k2 o2 j2 := Eq.trans rfl rfl
theorem w_ui2 {σ : Sg} {k o j : Nat} {x : Int32} : (upI σ k o j x).2 = σ.2 := Eq.trans rfl rfl
theorem w_ul1 {σ : Sg} {k : Nat} {l : List Nat} : (upL σ k l).1 = σ.1 := Eq.trans rfl rfl
theorem w_ul3 {σ : Sg} {k : Nat} {l : List Nat} : (upL σ k l).2.2 = σ.2.2 := Eq.trans rfl rfl
theorem w_lsz {σ : Sg} {k : Nat} (h : k < 11) : f_lsize [ar (4, k)] σ = some (.inl (some (ai (nI (σ.2.1 k).length))), σ) := if_pos h
theorem w_lget {σ : Sg} {k j : Nat} (h : k < 11) (h1 : j < (σ.2.1 k).length) (h2 : (σ.2.1 k).length < 1000) : f_lget [ar (4, k), ai (nI j)] σ = some (.inl (some (ar (6, (σ.2.1 k).getD j 0))), σ) := by
  have e : f_lget [ar (4, k), ai (nI j)] σ = if k < 11 ∧ inB (nI j) (σ.2.1 k).length = true ∧ (σ.2.1 k).length < 1000 then ((σ.2.1 k)[(nI j).toNatClampNeg]?).map (fun m => ((.inl (some (ar (6, m))), σ) : Res × Sg)) else none := rfl
  rw [e, if_pos ⟨h, inB_t h1 (by omega), h2⟩, cl_nI (by omega), List.getElem?_eq_getElem h1]
  simp [List.getD, List.getElem?_eq_getElem h1]
theorem w_ladd {σ : Sg} {k m : Nat} (h : k < 11) (h1 : m < σ.2.2.1 0) (h2 : (σ.2.1 k).length < 1000) (h3 : σ.2.2.1 (10 + k) < 2000) : f_ladd [ar (4, k), ar (6, m)] σ = some (.inl (some (ai 1)), ladd σ k m) := if_pos ⟨h, h1, h2, h3⟩
theorem w_lrem {σ : Sg} {k j : Nat} (h : k < 11) (h1 : j < (σ.2.1 k).length) (h2 : (σ.2.1 k).length < 1000) (h3 : σ.2.2.1 (10 + k) < 2000) : f_lremove [ar (4, k), ai (nI j)] σ = some (.inl (some (ar (6, (σ.2.1 k).getD j 0))), lrem σ k j) := by
  have e : f_lremove [ar (4, k), ai (nI j)] σ = if k < 11 ∧ inB (nI j) (σ.2.1 k).length = true ∧ (σ.2.1 k).length < 1000 ∧ σ.2.2.1 (10 + k) < 2000 then ((σ.2.1 k)[(nI j).toNatClampNeg]?).map (fun m => ((.inl (some (ar (6, m))), lrem σ k (nI j).toNatClampNeg) : Res × Sg)) else none := rfl
  rw [e, if_pos ⟨h, inB_t h1 (by omega), h2, h3⟩, cl_nI (by omega), List.getElem?_eq_getElem h1]
  simp [List.getD, List.getElem?_eq_getElem h1]
theorem sl_ladd {σ : Sg} {k m : Nat} : sleB σ (ladd σ k m) = true := by
  unfold ladd lgrow
  have h1 : ¬ (1 : Nat) = 10 + k := by omega
  have h2 : ¬ (2 : Nat) = 10 + k := by omega
  split <;> simp [sleB, sC, sS, upL, upI, grw, upN, h1, h2]
theorem sl_lrem {σ : Sg} {k j : Nat} : sleB σ (lrem σ k j) = true := by simp [sleB, lrem, upL, upI]
theorem sl_grw {σ : Sg} {a b : Nat} : sleB σ (grw σ a b) = true := by simp [sleB, sC, sS, grw, upN]
theorem n_eq {a b : Nat} (ha : a < 2147483648) (hb : b < 2147483648) : (nI a = nI b) = (a = b) := propext (nI_eq ha hb)
theorem n_lt {a b : Nat} (ha : a < 2147483648) (hb : b < 2147483648) : (nI a < nI b) = (a < b) := propext (nI_ltI ha hb)
theorem n_le {a b : Nat} (ha : a < 2147483648) (hb : b < 2147483648) : (nI a ≤ nI b) = (a ≤ b) := propext (nI_leI ha hb)
theorem n_add {a b : Nat} : nI a + nI b = nI (a + b) := nI_add a b
theorem n_ad1 {a : Nat} : nI a + 1 = nI (a + 1) := nI_1 a
theorem n_lt4 {a : Nat} (ha : a < 2147483648) : (nI a < 4) = (a < 4) := propext (nI_ltI ha (show 4 < 2147483648 by decide))
theorem n_neg {a : Nat} (ha : a < 2147483648) : (nI a = -1) = False := eq_false fun h => by
  have h1 := nI_toInt ha
  rw [h] at h1
  have h2 : (-1 : Int32).toInt = -1 := by decide
  omega
theorem n_lt0 {a : Nat} (ha : a < 2147483648) : (nI a < 0) = False := eq_false (nI_pos ha)
theorem n_ge0 {a : Nat} (ha : a < 2147483648) : ((0 : Int32) ≤ nI a) = True := eq_true (nI_pos' ha)
def bM1 (o : Option (Tg × Sg)) (i : Ex Int32) (lc : LcT) : Option (Tg × Sg) := o.bind fun r => (i lc r.2).bind fun q => if r.1 = (1, 0) ∧ inB q.1 4 = true then some ((2, q.1.toNatClampNeg), q.2) else none
def bM2 (o : Option (Int32 × Sg)) : Option (Tg × Sg) := o.bind fun q => if inB q.1 4 = true then some ((2, q.1.toNatClampNeg), q.2) else none
theorem w_M {lc : LcT} {σ : Sg} {e : Ex Tg} {i : Ex Int32} : xMem e i lc σ = bM1 (e lc σ) i lc := Eq.trans rfl rfl
theorem w_M1 {lc : LcT} {σ : Sg} {i : Ex Int32} : bM1 (some ((1, 0), σ)) i lc = bM2 (i lc σ) := by simp [bM1, bM2]
theorem w_M2 {σ : Sg} {j : Int32} : bM2 (some (j, σ)) = if inB j 4 = true then some ((2, j.toNatClampNeg), σ) else none := Eq.trans rfl rfl
def bT (o : Option (Bool × Sg)) (a b : Ex Int32) (lc : LcT) : Option (Int32 × Sg) := o.bind fun r => if r.1 = true then a lc r.2 else b lc r.2
theorem w_T {lc : LcT} {σ : Sg} {c : Ex Bool} {a b : Ex Int32} : xTern c a b lc σ = bT (c lc σ) a b lc := Eq.trans rfl rfl
theorem w_T1 {lc : LcT} {σ : Sg} {x : Bool} {a b : Ex Int32} : bT (some (x, σ)) a b lc = if x = true then a lc σ else b lc σ := Eq.trans rfl rfl
def bC1 (f : Int32 → Int32 → Bool) (o : Option (Int32 × Sg)) (b : Ex Int32) (lc : LcT) : Option (Bool × Sg) := o.bind fun r => (b lc r.2).bind fun q => some (f r.1 q.1, q.2)
def bC2 (f : Int32 → Int32 → Bool) (x : Int32) (o : Option (Int32 × Sg)) : Option (Bool × Sg) := o.bind fun q => some (f x q.1, q.2)
theorem w_C {lc : LcT} {σ : Sg} {f : Int32 → Int32 → Bool} {a b : Ex Int32} : cCmp f a b lc σ = bC1 f (a lc σ) b lc := Eq.trans rfl rfl
theorem w_C1 {lc : LcT} {σ : Sg} {f : Int32 → Int32 → Bool} {x : Int32} {b : Ex Int32} : bC1 f (some (x, σ)) b lc = bC2 f x (b lc σ) := Eq.trans rfl rfl
theorem w_C2 {σ : Sg} {f : Int32 → Int32 → Bool} {x y : Int32} : bC2 f x (some (y, σ)) = some (f x y, σ) := Eq.trans rfl rfl
def bZ (f : Int32 → Bool) (o : Option (Int32 × Sg)) : Option (Bool × Sg) := o.bind fun r => some (f r.1, r.2)
theorem w_Z {lc : LcT} {σ : Sg} {f : Int32 → Bool} {a : Ex Int32} : cZ f a lc σ = bZ f (a lc σ) := Eq.trans rfl rfl
theorem w_Z1 {σ : Sg} {f : Int32 → Bool} {x : Int32} : bZ f (some (x, σ)) = some (f x, σ) := Eq.trans rfl rfl
def bAnd (o : Option (Bool × Sg)) (b : Ex Bool) (lc : LcT) : Option (Bool × Sg) := o.bind fun r => if r.1 = true then b lc r.2 else some (false, r.2)
theorem w_and {lc : LcT} {σ : Sg} {a b : Ex Bool} : cAnd a b lc σ = bAnd (a lc σ) b lc := Eq.trans rfl rfl
theorem w_and1 {lc : LcT} {σ : Sg} {x : Bool} {b : Ex Bool} : bAnd (some (x, σ)) b lc = if x = true then b lc σ else some (false, σ) := Eq.trans rfl rfl
def bOr (o : Option (Bool × Sg)) (b : Ex Bool) (lc : LcT) : Option (Bool × Sg) := o.bind fun r => if r.1 = true then some (true, r.2) else b lc r.2
theorem w_or {lc : LcT} {σ : Sg} {a b : Ex Bool} : cOr a b lc σ = bOr (a lc σ) b lc := Eq.trans rfl rfl
theorem w_or1 {lc : LcT} {σ : Sg} {x : Bool} {b : Ex Bool} : bOr (some (x, σ)) b lc = if x = true then some (true, σ) else b lc σ := Eq.trans rfl rfl
def bNot (o : Option (Bool × Sg)) : Option (Bool × Sg) := o.bind fun r => some (!r.1, r.2)
theorem w_not {lc : LcT} {σ : Sg} {a : Ex Bool} : cNot a lc σ = bNot (a lc σ) := Eq.trans rfl rfl
theorem w_not1 {σ : Sg} {x : Bool} : bNot (some (x, σ)) = some (!x, σ) := Eq.trans rfl rfl
def bTn (o : Option (Bool × Sg)) (a b : Ex Bool) (lc : LcT) : Option (Bool × Sg) := o.bind fun r => if r.1 = true then a lc r.2 else b lc r.2
theorem w_tn {lc : LcT} {σ : Sg} {c a b : Ex Bool} : cTern c a b lc σ = bTn (c lc σ) a b lc := Eq.trans rfl rfl
theorem w_tn1 {lc : LcT} {σ : Sg} {x : Bool} {a b : Ex Bool} : bTn (some (x, σ)) a b lc = if x = true then a lc σ else b lc σ := Eq.trans rfl rfl
def bE1 (o : Option (Tg × Sg)) (b : Ex Tg) (lc : LcT) : Option (Bool × Sg) := o.bind fun r => (b lc r.2).bind fun q => if vld q.2 r.1 = true ∧ vld q.2 q.1 = true ∧ r.1.1 ≠ 5 ∧ q.1.1 ≠ 5 then some (decide (r.1 = q.1), q.2) else none
def bE2 (t : Tg) (o : Option (Tg × Sg)) : Option (Bool × Sg) := o.bind fun q => if vld q.2 t = true ∧ vld q.2 q.1 = true ∧ t.1 ≠ 5 ∧ q.1.1 ≠ 5 then some (decide (t = q.1), q.2) else none
theorem w_E {lc : LcT} {σ : Sg} {a b : Ex Tg} : cREq a b lc σ = bE1 (a lc σ) b lc := Eq.trans rfl rfl
theorem w_E1 {lc : LcT} {σ : Sg} {t : Tg} {b : Ex Tg} : bE1 (some (t, σ)) b lc = bE2 t (b lc σ) := Eq.trans rfl rfl
theorem w_E2 {σ : Sg} {m o : Nat} (h1 : m < σ.2.2.1 0) (h2 : o < σ.2.2.1 0) : bE2 (6, m) (some ((6, o), σ)) = some (decide (m = o), σ) := by simp [bE2, vld, h1, h2]
def bNl (o : Option (AV × Sg)) : Option (Bool × Sg) := o.bind fun r => (isNl r.1).bind fun b => some (b, r.2)
theorem w_nl {lc : LcT} {σ : Sg} {a : Ex AV} : cNull a lc σ = bNl (a lc σ) := Eq.trans rfl rfl
theorem w_nl1 {σ : Sg}  : bNl (some (an, σ)) = some (true, σ) := Eq.trans rfl rfl
theorem w_nl2 {σ : Sg} {t : Tg} : bNl (some (ar t, σ)) = some (false, σ) := Eq.trans rfl rfl
theorem bp0 {x y : Int32} : bop 0 x y = (decide (x < y)) := rfl
theorem w_C2_0 {σ : Sg} {x y : Int32} : bC2 (bop 0) x (some (y, σ)) = some (decide (x < y), σ) := Eq.trans rfl rfl
theorem w_Z1_0 {σ : Sg} {x : Int32} : bZ (fun x => bop 0 x 0) (some (x, σ)) = some (decide (x < 0), σ) := Eq.trans rfl rfl
theorem bp1 {x y : Int32} : bop 1 x y = (decide (x ≤ y)) := rfl
theorem w_C2_1 {σ : Sg} {x y : Int32} : bC2 (bop 1) x (some (y, σ)) = some (decide (x ≤ y), σ) := Eq.trans rfl rfl
theorem w_Z1_1 {σ : Sg} {x : Int32} : bZ (fun x => bop 1 x 0) (some (x, σ)) = some (decide (x ≤ 0), σ) := Eq.trans rfl rfl
theorem bp2 {x y : Int32} : bop 2 x y = (decide (y < x)) := rfl
theorem w_C2_2 {σ : Sg} {x y : Int32} : bC2 (bop 2) x (some (y, σ)) = some (decide (y < x), σ) := Eq.trans rfl rfl
theorem w_Z1_2 {σ : Sg} {x : Int32} : bZ (fun x => bop 2 x 0) (some (x, σ)) = some (decide (0 < x), σ) := Eq.trans rfl rfl
theorem bp3 {x y : Int32} : bop 3 x y = (decide (y ≤ x)) := rfl
theorem w_C2_3 {σ : Sg} {x y : Int32} : bC2 (bop 3) x (some (y, σ)) = some (decide (y ≤ x), σ) := Eq.trans rfl rfl
theorem w_Z1_3 {σ : Sg} {x : Int32} : bZ (fun x => bop 3 x 0) (some (x, σ)) = some (decide (0 ≤ x), σ) := Eq.trans rfl rfl
theorem bp4 {x y : Int32} : bop 4 x y = (decide (x = y)) := rfl
theorem w_C2_4 {σ : Sg} {x y : Int32} : bC2 (bop 4) x (some (y, σ)) = some (decide (x = y), σ) := Eq.trans rfl rfl
theorem w_Z1_4 {σ : Sg} {x : Int32} : bZ (fun x => bop 4 x 0) (some (x, σ)) = some (decide (x = 0), σ) := Eq.trans rfl rfl
theorem bp5 {x y : Int32} : bop 5 x y = (!decide (x = y)) := rfl
theorem w_C2_5 {σ : Sg} {x y : Int32} : bC2 (bop 5) x (some (y, σ)) = some (!decide (x = y), σ) := Eq.trans rfl rfl
theorem w_Z1_5 {σ : Sg} {x : Int32} : bZ (fun x => bop 5 x 0) (some (x, σ)) = some (!decide (x = 0), σ) := Eq.trans rfl rfl
def bS (o : Option ((LcT × Sg) ⊕ (Res × Sg))) (b : Sx) : Option ((LcT × Sg) ⊕ (Res × Sg)) := o.bind fun o => match o with
  | .inl q => b q.1 q.2
  | .inr q => some (.inr q)
theorem w_seq {lc : LcT} {σ : Sg} {a b : Sx} : sSeq a b lc σ = bS (a lc σ) b := Eq.trans rfl rfl
theorem w_seq1 {lc : LcT} {σ : Sg} {b : Sx} : bS (some (.inl (lc, σ))) b = b lc σ := Eq.trans rfl rfl
theorem w_seq2 {q : Res × Sg} {b : Sx} : bS (some (.inr q)) b = some (.inr q) := Eq.trans rfl rfl
theorem w_seq3 {p : Prop} [Decidable p] {x y : Option ((LcT × Sg) ⊕ (Res × Sg))} {b : Sx} : bS (if p then x else y) b = if p then bS x b else bS y b := by split <;> rfl
def bIf (o : Option (Bool × Sg)) (a b : Sx) (lc : LcT) : Option ((LcT × Sg) ⊕ (Res × Sg)) := o.bind fun r => if r.1 = true then a lc r.2 else b lc r.2
theorem w_if {lc : LcT} {σ : Sg} {c : Ex Bool} {a b : Sx} : sIf c a b lc σ = bIf (c lc σ) a b lc := Eq.trans rfl rfl
theorem w_if1 {lc : LcT} {σ : Sg} {x : Bool} {a b : Sx} : bIf (some (x, σ)) a b lc = if x = true then a lc σ else b lc σ := Eq.trans rfl rfl
theorem w_skip {lc : LcT} {σ : Sg}  : sSkip lc σ = some (.inl (lc, σ)) := Eq.trans rfl rfl
def bSet (i : Nat) (lc : LcT) (o : Option (Int32 × Sg)) : Option ((LcT × Sg) ⊕ (Res × Sg)) := o.bind fun r => some (.inl (lc.set i (some (ai r.1)), r.2))
theorem w_set {lc : LcT} {σ : Sg} {i : Nat} {e : Ex Int32} : sSet i e lc σ = bSet i lc (e lc σ) := Eq.trans rfl rfl
theorem w_set1 {lc : LcT} {σ : Sg} {i : Nat} {x : Int32} : bSet i lc (some (x, σ)) = some (.inl (lc.set i (some (ai x)), σ)) := Eq.trans rfl rfl
def bSetR (i : Nat) (lc : LcT) (o : Option (Tg × Sg)) : Option ((LcT × Sg) ⊕ (Res × Sg)) := o.bind fun r => some (.inl (lc.set i (some (ar r.1)), r.2))
theorem w_setR {lc : LcT} {σ : Sg} {i : Nat} {e : Ex Tg} : sSetR i e lc σ = bSetR i lc (e lc σ) := Eq.trans rfl rfl
theorem w_setR1 {lc : LcT} {σ : Sg} {i : Nat} {x : Tg} : bSetR i lc (some (x, σ)) = some (.inl (lc.set i (some (ar x)), σ)) := Eq.trans rfl rfl
def bSetN (i : Nat) (lc : LcT) (o : Option (AV × Sg)) : Option ((LcT × Sg) ⊕ (Res × Sg)) := o.bind fun r => (isNl r.1).bind fun _ => some (.inl (lc.set i (some r.1), r.2))
theorem w_setN {lc : LcT} {σ : Sg} {i : Nat} {e : Ex AV} : sSetN i e lc σ = bSetN i lc (e lc σ) := Eq.trans rfl rfl
theorem w_setN1 {lc : LcT} {σ : Sg} {i : Nat} {x : Tg} : bSetN i lc (some (ar x, σ)) = some (.inl (lc.set i (some (ar x)), σ)) := Eq.trans rfl rfl
theorem w_setN2 {lc : LcT} {σ : Sg} {i : Nat} : bSetN i lc (some (an, σ)) = some (.inl (lc.set i (some an), σ)) := Eq.trans rfl rfl
def bInc (i : Nat) (n : Int32) (lc : LcT) (σ : Sg) (o : Option (Option AV)) : Option ((LcT × Sg) ⊕ (Res × Sg)) := match o with
  | some (some (.inl (.int x))) => some (.inl (lc.set i (some (ai (x + n))), σ))
  | _ => none
theorem w_inc {lc : LcT} {σ : Sg} {i : Nat} {n : Int32} : sInc i n lc σ = bInc i n lc σ lc[i]? := Eq.trans rfl rfl
theorem w_inc1 {lc : LcT} {σ : Sg} {i : Nat} {n x : Int32} : bInc i n lc σ (some (some (ai x))) = some (.inl (lc.set i (some (ai (x + n))), σ)) := Eq.trans rfl rfl
def bP1 (b : Bool) (tk kc : Nat) (o : Option (Tg × Sg)) (v : Ex Int32) (lc : LcT) : Option ((LcT × Sg) ⊕ (Res × Sg)) := o.bind fun r => (v lc r.2).bind fun q => (wrF b tk kc q.2 r.1 q.1).bind fun τ => some (.inl (lc, τ))
def bP2 (b : Bool) (tk kc : Nat) (t : Tg) (lc : LcT) (o : Option (Int32 × Sg)) : Option ((LcT × Sg) ⊕ (Res × Sg)) := o.bind fun q => (wrF b tk kc q.2 t q.1).bind fun τ => some (.inl (lc, τ))
def bP3 (lc : LcT) (o : Option Sg) : Option ((LcT × Sg) ⊕ (Res × Sg)) := o.bind fun τ => some (.inl (lc, τ))
theorem w_put {lc : LcT} {σ : Sg} {b : Bool} {tk kc : Nat} {e : Ex Tg} {v : Ex Int32} : sPut b tk kc e v lc σ = bP1 b tk kc (e lc σ) v lc := Eq.trans rfl rfl
theorem w_put1 {lc : LcT} {σ : Sg} {b : Bool} {tk kc : Nat} {t : Tg} {v : Ex Int32} : bP1 b tk kc (some (t, σ)) v lc = bP2 b tk kc t lc (v lc σ) := Eq.trans rfl rfl
theorem w_put2 {lc : LcT} {σ : Sg} {b : Bool} {tk kc : Nat} {t : Tg} {x : Int32} : bP2 b tk kc t lc (some (x, σ)) = bP3 lc (wrF b tk kc σ t x) := Eq.trans rfl rfl
theorem w_put3 {lc : LcT} {σ : Sg}  : bP3 lc (some σ) = some (.inl (lc, σ)) := Eq.trans rfl rfl
theorem w_wf0 {σ : Sg} {tk kc i : Nat} {x : Int32} : wrF false tk kc σ (tk, i) x = if vld σ (tk, i) = true then some (upI σ kc i 0 x) else none := by simp [wrF]
theorem w_wf1 {σ : Sg} {tk kc i : Nat} {x : Int32} : wrF true tk kc σ (tk, i) x = if vld σ (tk, i) = true ∧ (x = 0 ∨ x = 1) then some (upI σ kc i 0 x) else none := by simp [wrF]
def bQ1 (op : Int32 → Int32 → Int32) (tk kc : Nat) (o : Option (Tg × Sg)) (v : Ex Int32) (lc : LcT) : Option ((LcT × Sg) ⊕ (Res × Sg)) := o.bind fun r => if r.1.1 = tk ∧ vld r.2 r.1 = true then (v lc r.2).bind fun q => (wrF false tk kc q.2 r.1 (op (r.2.1 kc r.1.2 0) q.1)).bind fun τ => some (.inl (lc, τ)) else none
def bQ2 (op : Int32 → Int32 → Int32) (tk kc : Nat) (t : Tg) (z : Int32) (lc : LcT) (o : Option (Int32 × Sg)) : Option ((LcT × Sg) ⊕ (Res × Sg)) := o.bind fun q => (wrF false tk kc q.2 t (op z q.1)).bind fun τ => some (.inl (lc, τ))
theorem w_po {lc : LcT} {σ : Sg} {op : Int32 → Int32 → Int32} {tk kc : Nat} {e : Ex Tg} {v : Ex Int32} : sPutOp op tk kc e v lc σ = bQ1 op tk kc (e lc σ) v lc := Eq.trans rfl rfl
theorem w_po1 {lc : LcT} {σ : Sg} {op : Int32 → Int32 → Int32} {tk kc i : Nat} {v : Ex Int32} : bQ1 op tk kc (some ((tk, i), σ)) v lc = if vld σ (tk, i) = true then bQ2 op tk kc (tk, i) (σ.1 kc i 0) lc (v lc σ) else none := by simp [bQ1, bQ2]
theorem w_po2 {lc : LcT} {σ : Sg} {op : Int32 → Int32 → Int32} {tk kc : Nat} {t : Tg} {z x : Int32} : bQ2 op tk kc t z lc (some (x, σ)) = bP3 lc (wrF false tk kc σ t (op z x)) := Eq.trans rfl rfl
def bI1 (b : Bool) (o : Option (Tg × Sg)) (i v : Ex Int32) (lc : LcT) : Option ((LcT × Sg) ⊕ (Res × Sg)) := o.bind fun r => (i lc r.2).bind fun q => (v lc q.2).bind fun u => (wrA b u.2 r.1 q.1 u.1).bind fun τ => some (.inl (lc, τ))
def bI2 (b : Bool) (t : Tg) (o : Option (Int32 × Sg)) (v : Ex Int32) (lc : LcT) : Option ((LcT × Sg) ⊕ (Res × Sg)) := o.bind fun q => (v lc q.2).bind fun u => (wrA b u.2 t q.1 u.1).bind fun τ => some (.inl (lc, τ))
def bI3 (b : Bool) (t : Tg) (j : Int32) (lc : LcT) (o : Option (Int32 × Sg)) : Option ((LcT × Sg) ⊕ (Res × Sg)) := o.bind fun u => (wrA b u.2 t j u.1).bind fun τ => some (.inl (lc, τ))
theorem w_ast {lc : LcT} {σ : Sg} {b : Bool} {e : Ex Tg} {i v : Ex Int32} : sAst b e i v lc σ = bI1 b (e lc σ) i v lc := Eq.trans rfl rfl
theorem w_ast1 {lc : LcT} {σ : Sg} {b : Bool} {t : Tg} {i v : Ex Int32} : bI1 b (some (t, σ)) i v lc = bI2 b t (i lc σ) v lc := Eq.trans rfl rfl
theorem w_ast2 {lc : LcT} {σ : Sg} {b : Bool} {t : Tg} {j : Int32} {v : Ex Int32} : bI2 b t (some (j, σ)) v lc = bI3 b t j lc (v lc σ) := Eq.trans rfl rfl
theorem w_ast3 {lc : LcT} {σ : Sg} {b : Bool} {t : Tg} {j x : Int32} : bI3 b t j lc (some (x, σ)) = bP3 lc (wrA b σ t j x) := Eq.trans rfl rfl
def bJ1 (op : Int32 → Int32 → Int32) (o : Option (Tg × Sg)) (i v : Ex Int32) (lc : LcT) : Option ((LcT × Sg) ⊕ (Res × Sg)) := o.bind fun r => (i lc r.2).bind fun q => (rdA false q.2 r.1 q.1).bind fun z => (v lc q.2).bind fun u => (wrA false u.2 r.1 q.1 (op z u.1)).bind fun τ => some (.inl (lc, τ))
def bJ2 (op : Int32 → Int32 → Int32) (t : Tg) (o : Option (Int32 × Sg)) (v : Ex Int32) (lc : LcT) : Option ((LcT × Sg) ⊕ (Res × Sg)) := o.bind fun q => (rdA false q.2 t q.1).bind fun z => (v lc q.2).bind fun u => (wrA false u.2 t q.1 (op z u.1)).bind fun τ => some (.inl (lc, τ))
def bJ3 (op : Int32 → Int32 → Int32) (t : Tg) (j : Int32) (z : Option Int32) (v : Ex Int32) (lc : LcT) (σ : Sg) : Option ((LcT × Sg) ⊕ (Res × Sg)) := z.bind fun z => (v lc σ).bind fun u => (wrA false u.2 t j (op z u.1)).bind fun τ => some (.inl (lc, τ))
def bJ4 (op : Int32 → Int32 → Int32) (t : Tg) (j z : Int32) (lc : LcT) (o : Option (Int32 × Sg)) : Option ((LcT × Sg) ⊕ (Res × Sg)) := o.bind fun u => (wrA false u.2 t j (op z u.1)).bind fun τ => some (.inl (lc, τ))
theorem w_aop {lc : LcT} {σ : Sg} {op : Int32 → Int32 → Int32} {e : Ex Tg} {i v : Ex Int32} : sAop op e i v lc σ = bJ1 op (e lc σ) i v lc := Eq.trans rfl rfl
theorem w_aop1 {lc : LcT} {σ : Sg} {op : Int32 → Int32 → Int32} {t : Tg} {i v : Ex Int32} : bJ1 op (some (t, σ)) i v lc = bJ2 op t (i lc σ) v lc := Eq.trans rfl rfl
theorem w_aop2 {lc : LcT} {σ : Sg} {op : Int32 → Int32 → Int32} {t : Tg} {j : Int32} {v : Ex Int32} : bJ2 op t (some (j, σ)) v lc = bJ3 op t j (rdA false σ t j) v lc σ := Eq.trans rfl rfl
theorem w_aop3 {lc : LcT} {σ : Sg} {op : Int32 → Int32 → Int32} {t : Tg} {j z : Int32} {v : Ex Int32} : bJ3 op t j (some z) v lc σ = bJ4 op t j z lc (v lc σ) := Eq.trans rfl rfl
theorem w_aop4 {lc : LcT} {σ : Sg} {op : Int32 → Int32 → Int32} {t : Tg} {j z x : Int32} : bJ4 op t j z lc (some (x, σ)) = bP3 lc (wrA false σ t j (op z x)) := Eq.trans rfl rfl
def bRt (b : Bool) (o : Option (Int32 × Sg)) : Option ((LcT × Sg) ⊕ (Res × Sg)) := o.bind fun r => if b = true → r.1 = 0 ∨ r.1 = 1 then some (.inr (.inl (some (ai r.1)), r.2)) else none
theorem w_ret {lc : LcT} {σ : Sg} {b : Bool} {e : Ex Int32} : sRet b e lc σ = bRt b (e lc σ) := Eq.trans rfl rfl
theorem w_ret0 {σ : Sg} {x : Int32} : bRt false (some (x, σ)) = some (.inr (.inl (some (ai x)), σ)) := by simp [bRt]
theorem w_ret1 {σ : Sg} {x : Int32} : bRt true (some (x, σ)) = if x = 0 ∨ x = 1 then some (.inr (.inl (some (ai x)), σ)) else none := by simp [bRt]
def bRn (o : Option (AV × Sg)) : Option ((LcT × Sg) ⊕ (Res × Sg)) := o.bind fun r => (isNl r.1).bind fun _ => some (.inr (.inl (some r.1), r.2))
theorem w_retN {lc : LcT} {σ : Sg} {e : Ex AV} : sRetN e lc σ = bRn (e lc σ) := Eq.trans rfl rfl
theorem w_retN1 {σ : Sg} {t : Tg} : bRn (some (ar t, σ)) = some (.inr (.inl (some (ar t)), σ)) := Eq.trans rfl rfl
theorem w_retN2 {σ : Sg}  : bRn (some (an, σ)) = some (.inr (.inl (some an), σ)) := Eq.trans rfl rfl
theorem w_retV {lc : LcT} {σ : Sg}  : sRetV lc σ = some (.inr (.inl none, σ)) := Eq.trans rfl rfl
theorem w_throw {lc : LcT} {σ : Sg} {n : Nat} : sThrow n lc σ = some (.inr (.inr n, grw σ 1 6)) := Eq.trans rfl rfl
def bK1 (o : Option (Int32 × Sg)) (r : Ex (List AV)) (lc : LcT) : Option (List AV × Sg) := o.bind fun x => (r lc x.2).bind fun q => some (ai x.1 :: q.1, q.2)
def bK2 (v : AV) (o : Option (List AV × Sg)) : Option (List AV × Sg) := o.bind fun q => some (v :: q.1, q.2)
def bK3 (o : Option (Tg × Sg)) (r : Ex (List AV)) (lc : LcT) : Option (List AV × Sg) := o.bind fun x => (r lc x.2).bind fun q => some (ar x.1 :: q.1, q.2)
theorem w_aN {lc : LcT} {σ : Sg}  : aNil lc σ = some ([], σ) := Eq.trans rfl rfl
theorem w_aI {lc : LcT} {σ : Sg} {e : Ex Int32} {r : Ex (List AV)} : aI e r lc σ = bK1 (e lc σ) r lc := Eq.trans rfl rfl
theorem w_aI1 {lc : LcT} {σ : Sg} {x : Int32} {r : Ex (List AV)} : bK1 (some (x, σ)) r lc = bK2 (ai x) (r lc σ) := Eq.trans rfl rfl
theorem w_aI2 {σ : Sg} {v : AV} {vs : List AV} : bK2 v (some (vs, σ)) = some (v :: vs, σ) := Eq.trans rfl rfl
theorem w_aR {lc : LcT} {σ : Sg} {e : Ex Tg} {r : Ex (List AV)} : aR e r lc σ = bK3 (e lc σ) r lc := Eq.trans rfl rfl
theorem w_aR1 {lc : LcT} {σ : Sg} {x : Tg} {r : Ex (List AV)} : bK3 (some (x, σ)) r lc = bK2 (ar x) (r lc σ) := Eq.trans rfl rfl
def bAk (σ : Sg) (o : Option (Res × Sg)) : Option (Res × Sg) := o.bind fun r => if sleB σ r.2 = true then some r else none
theorem w_ask {σ : Sg} {sem : Sem} {vs : List AV} : ask sem vs σ = bAk σ (sem vs σ) := Eq.trans rfl rfl
theorem w_ask1 {σ : Sg} {τ : Sg} {r : Res} : bAk σ (some (r, τ)) = if sleB σ τ = true then some (r, τ) else none := Eq.trans rfl rfl
def bV1 (tk : Nat) (sem : Sem) (o : Option (Tg × Sg)) (as : Ex (List AV)) (lc : LcT) : Option (Res × Sg) := o.bind fun r => (as lc r.2).bind fun q => if r.1.1 = tk ∧ vld q.2 r.1 = true then ask sem (ar r.1 :: q.1) q.2 else none
def bV2 (tk : Nat) (sem : Sem) (t : Tg) (o : Option (List AV × Sg)) : Option (Res × Sg) := o.bind fun q => if t.1 = tk ∧ vld q.2 t = true then ask sem (ar t :: q.1) q.2 else none
theorem w_V {lc : LcT} {σ : Sg} {tk : Nat} {sem : Sem} {e : Ex Tg} {as : Ex (List AV)} : xV tk sem e as lc σ = bV1 tk sem (e lc σ) as lc := Eq.trans rfl rfl
theorem w_V1 {lc : LcT} {σ : Sg} {tk : Nat} {sem : Sem} {t : Tg} {as : Ex (List AV)} : bV1 tk sem (some (t, σ)) as lc = bV2 tk sem t (as lc σ) := Eq.trans rfl rfl
theorem w_V2 {σ : Sg} {tk i : Nat} {sem : Sem} {vs : List AV} : bV2 tk sem (tk, i) (some (vs, σ)) = if vld σ (tk, i) = true then ask sem (ar (tk, i) :: vs) σ else none := by simp [bV2]
def bSs (sem : Sem) (o : Option (List AV × Sg)) : Option (Res × Sg) := o.bind fun q => ask sem q.1 q.2
theorem w_S {lc : LcT} {σ : Sg} {sem : Sem} {as : Ex (List AV)} : xS sem as lc σ = bSs sem (as lc σ) := Eq.trans rfl rfl
theorem w_S1 {σ : Sg} {sem : Sem} {vs : List AV} : bSs sem (some (vs, σ)) = ask sem vs σ := Eq.trans rfl rfl
def bCI (o : Option (Res × Sg)) : Option (Int32 × Sg) := o.bind rI
def bCR (o : Option (Res × Sg)) : Option (Tg × Sg) := o.bind rR
def bCN (o : Option (Res × Sg)) : Option (AV × Sg) := o.bind rN
def bCV (lc : LcT) (o : Option (Res × Sg)) : Option ((LcT × Sg) ⊕ (Res × Sg)) := o.bind (rS lc)
theorem w_CI {lc : LcT} {σ : Sg} {c : Ex Res} : xCI c lc σ = bCI (c lc σ) := Eq.trans rfl rfl
theorem w_CI1 {σ : Sg} {x : Int32} : bCI (some (.inl (some (ai x)), σ)) = some (x, σ) := Eq.trans rfl rfl
theorem w_CR {lc : LcT} {σ : Sg} {c : Ex Res} : xCR c lc σ = bCR (c lc σ) := Eq.trans rfl rfl
theorem w_CR1 {σ : Sg} {x : Tg} : bCR (some (.inl (some (ar x)), σ)) = some (x, σ) := Eq.trans rfl rfl
theorem w_CN {lc : LcT} {σ : Sg} {c : Ex Res} : xCN c lc σ = bCN (c lc σ) := Eq.trans rfl rfl
theorem w_CN1 {σ : Sg} {x : Tg} : bCN (some (.inl (some (ar x)), σ)) = some (ar x, σ) := Eq.trans rfl rfl
theorem w_CN2 {σ : Sg}  : bCN (some (.inl (some an), σ)) = some (an, σ) := Eq.trans rfl rfl
theorem w_CV {lc : LcT} {σ : Sg} {c : Ex Res} : sCV c lc σ = bCV lc (c lc σ) := Eq.trans rfl rfl
theorem w_CV1 {lc : LcT} {σ : Sg}  : bCV lc (some (.inl none, σ)) = some (.inl (lc, σ)) := Eq.trans rfl rfl
theorem w_CV2 {lc : LcT} {σ : Sg} {n : Nat} : bCV lc (some (.inr n, σ)) = some (.inr (.inr n, σ)) := Eq.trans rfl rfl
def bPp (lc : LcT) (o : Option (Int32 × Sg)) : Option ((LcT × Sg) ⊕ (Res × Sg)) := o.bind fun r => some (.inl (lc, r.2))
def bPr (lc : LcT) (o : Option (Tg × Sg)) : Option ((LcT × Sg) ⊕ (Res × Sg)) := o.bind fun r => some (.inl (lc, r.2))
theorem w_pop {lc : LcT} {σ : Sg} {e : Ex Int32} : sPop e lc σ = bPp lc (e lc σ) := Eq.trans rfl rfl
theorem w_pop1 {lc : LcT} {σ : Sg} {x : Int32} : bPp lc (some (x, σ)) = some (.inl (lc, σ)) := Eq.trans rfl rfl
theorem w_popR {lc : LcT} {σ : Sg} {e : Ex Tg} : sPopR e lc σ = bPr lc (e lc σ) := Eq.trans rfl rfl
theorem w_popR1 {lc : LcT} {σ : Sg} {x : Tg} : bPr lc (some (x, σ)) = some (.inl (lc, σ)) := Eq.trans rfl rfl
def bCa (tk : Nat) (o : Option (Tg × Sg)) : Option (Tg × Sg) := o.bind fun r => if r.1.1 = tk ∧ vld r.2 r.1 = true then some r else none
theorem w_cast {lc : LcT} {σ : Sg} {tk : Nat} {e : Ex Tg} : xCast tk e lc σ = bCa tk (e lc σ) := Eq.trans rfl rfl
theorem w_cast1 {σ : Sg} {tk i : Nat} : bCa tk (some ((tk, i), σ)) = if vld σ (tk, i) = true then some ((tk, i), σ) else none := by simp [bCa]
def bRun (o : Option ((LcT × Sg) ⊕ (Res × Sg))) : Option (Res × Sg) := o.bind fun o => match o with
  | .inr q => some q
  | .inl _ => none
theorem w_run {σ : Sg} {nL n : Nat} {b : Sx} {as : List AV} : run nL n b as σ = if as.length = n ∧ (lcOf as).length ≤ nL then bRun (b (lcOf as ++ List.replicate (nL - (lcOf as).length) none) σ) else none := Eq.trans rfl rfl
theorem lc_0 : lcOf [] = [] := rfl
theorem lc_I {x : Int32} {r : List AV} : lcOf (ai x :: r) = some (ai x) :: lcOf r := rfl
theorem lc_R {t : Tg} {r : List AV} : lcOf (ar t :: r) = some (ar t) :: lcOf r := rfl
theorem lc_N {r : List AV} : lcOf (an :: r) = some an :: lcOf r := rfl
theorem lc_J {x : Int64} {r : List AV} : lcOf (aj x :: r) = some (aj x) :: none :: lcOf r := rfl
theorem w_run1 {q : Res × Sg} : bRun (some (.inr q)) = some q := Eq.trans rfl rfl
theorem w_run2 {p : Prop} [Decidable p] {x y : Option ((LcT × Sg) ⊕ (Res × Sg))} : bRun (if p then x else y) = if p then bRun x else bRun y := by split <;> rfl
theorem ite_s1 {α β : Type} {p : Prop} [Decidable p] {u v : α} {s : β} : (if p then some (u, s) else some (v, s)) = some (if p then u else v, s) := by split <;> rfl
theorem ite_01 {p : Prop} [Decidable p] : (((if p then (1 : Int32) else 0) = 0 ∨ (if p then (1 : Int32) else 0) = 1)) = True := by split <;> simp
theorem ite_10 {p : Prop} [Decidable p] : (((if p then (0 : Int32) else 1) = 0 ∨ (if p then (0 : Int32) else 1) = 1)) = True := by split <;> simp
theorem ite_nz {p : Prop} [Decidable p] : ((if p then (1 : Int32) else 0) = 0) = ¬ p := by split <;> simp_all
theorem i_10  : ((1 : Int32) = 0) = False := by decide
theorem i_01  : ((0 : Int32) = 1) = False := by decide
theorem i_20  : ((2 : Int32) = 0) = False := by decide
theorem i_02  : ((0 : Int32) = 2) = False := by decide
theorem i_21  : ((2 : Int32) = 1) = False := by decide
theorem i_12  : ((1 : Int32) = 2) = False := by decide
theorem i_30  : ((3 : Int32) = 0) = False := by decide
theorem i_03  : ((0 : Int32) = 3) = False := by decide
theorem i_40  : ((4 : Int32) = 0) = False := by decide
theorem i_04  : ((0 : Int32) = 4) = False := by decide
theorem il_00  : ((0 : Int32) < 0) = False := by decide
theorem il_10  : ((1 : Int32) < 0) = False := by decide
theorem il_20  : ((2 : Int32) < 0) = False := by decide
theorem il_01  : ((0 : Int32) < 1) = True := by decide
theorem il_02  : ((0 : Int32) < 2) = True := by decide
theorem sl_r {σ : Sg}  : sleB σ σ = true := sleB_refl σ
theorem sl_I {σ : Sg} {τ : Sg} {k o j : Nat} {x : Int32} : sleB σ (upI τ k o j x) = sleB σ τ := Eq.trans rfl rfl
theorem sl_L {σ : Sg} {τ : Sg} {k : Nat} {l : List Nat} : sleB σ (upL τ k l) = sleB σ τ := Eq.trans rfl rfl
def gJ (o p : Option (Option AV)) (σ : Sg) : Option (Int64 × Sg) := match o, p with
  | some (some (.inl (.long x))), some none => some (x, σ)
  | _, _ => none
theorem w_J {lc : LcT} {σ : Sg} {v : Int64} : xJ v lc σ = some (v, σ) := Eq.trans rfl rfl
theorem w_LJ {lc : LcT} {σ : Sg} {i : Nat} : xLJ i lc σ = gJ lc[i]? lc[i + 1]? σ := Eq.trans rfl rfl
theorem w_LJ1 {σ : Sg} {x : Int64} : gJ (some (some (aj x))) (some none) σ = some (x, σ) := Eq.trans rfl rfl
def bBJ1 (op : Int64 → Int64 → Int64) (o : Option (Int64 × Sg)) (b : Ex Int64) (lc : LcT) : Option (Int64 × Sg) := o.bind fun r => (b lc r.2).bind fun q => some (op r.1 q.1, q.2)
def bBJ2 (op : Int64 → Int64 → Int64) (x : Int64) (o : Option (Int64 × Sg)) : Option (Int64 × Sg) := o.bind fun q => some (op x q.1, q.2)
theorem w_BJ {lc : LcT} {σ : Sg} {op : Int64 → Int64 → Int64} {a b : Ex Int64} : xBJ op a b lc σ = bBJ1 op (a lc σ) b lc := Eq.trans rfl rfl
theorem w_BJ1 {lc : LcT} {σ : Sg} {op : Int64 → Int64 → Int64} {x : Int64} {b : Ex Int64} : bBJ1 op (some (x, σ)) b lc = bBJ2 op x (b lc σ) := Eq.trans rfl rfl
theorem w_BJ2 {σ : Sg} {op : Int64 → Int64 → Int64} {x y : Int64} : bBJ2 op x (some (y, σ)) = some (op x y, σ) := Eq.trans rfl rfl
def bSh1 (op : Int64 → Int32 → Int64) (o : Option (Int64 × Sg)) (b : Ex Int32) (lc : LcT) : Option (Int64 × Sg) := o.bind fun r => (b lc r.2).bind fun q => some (op r.1 q.1, q.2)
def bSh2 (op : Int64 → Int32 → Int64) (x : Int64) (o : Option (Int32 × Sg)) : Option (Int64 × Sg) := o.bind fun q => some (op x q.1, q.2)
theorem w_Sh {lc : LcT} {σ : Sg} {op : Int64 → Int32 → Int64} {a : Ex Int64} {b : Ex Int32} : xSh op a b lc σ = bSh1 op (a lc σ) b lc := Eq.trans rfl rfl
theorem w_Sh1 {lc : LcT} {σ : Sg} {op : Int64 → Int32 → Int64} {x : Int64} {b : Ex Int32} : bSh1 op (some (x, σ)) b lc = bSh2 op x (b lc σ) := Eq.trans rfl rfl
theorem w_Sh2 {σ : Sg} {op : Int64 → Int32 → Int64} {x : Int64} {y : Int32} : bSh2 op x (some (y, σ)) = some (op x y, σ) := Eq.trans rfl rfl
def bBC1 (o : Option (Int64 × Sg)) (b : Ex Int64) (lc : LcT) : Option (Int32 × Sg) := o.bind fun r => (b lc r.2).bind fun q => some (lg_cmp r.1 q.1, q.2)
def bBC2 (x : Int64) (o : Option (Int64 × Sg)) : Option (Int32 × Sg) := o.bind fun q => some (lg_cmp x q.1, q.2)
theorem w_BC {lc : LcT} {σ : Sg} {a b : Ex Int64} : xBC a b lc σ = bBC1 (a lc σ) b lc := Eq.trans rfl rfl
theorem w_BC1 {lc : LcT} {σ : Sg} {x : Int64} {b : Ex Int64} : bBC1 (some (x, σ)) b lc = bBC2 x (b lc σ) := Eq.trans rfl rfl
theorem w_BC2 {σ : Sg} {x y : Int64} : bBC2 x (some (y, σ)) = some (lg_cmp x y, σ) := Eq.trans rfl rfl
def bIL (o : Option (Int32 × Sg)) : Option (Int64 × Sg) := o.bind fun r => some (r.1.toInt64, r.2)
theorem w_IL {lc : LcT} {σ : Sg} {a : Ex Int32} : xI2L a lc σ = bIL (a lc σ) := Eq.trans rfl rfl
theorem w_IL1 {σ : Sg} {x : Int32} : bIL (some (x, σ)) = some (x.toInt64, σ) := Eq.trans rfl rfl
def bLI (o : Option (Int64 × Sg)) : Option (Int32 × Sg) := o.bind fun r => some (r.1.toInt32, r.2)
theorem w_LI {lc : LcT} {σ : Sg} {a : Ex Int64} : xL2I a lc σ = bLI (a lc σ) := Eq.trans rfl rfl
theorem w_LI1 {σ : Sg} {x : Int64} : bLI (some (x, σ)) = some (x.toInt32, σ) := Eq.trans rfl rfl
def bRm1 (o : Option (Int32 × Sg)) (b : Ex Int32) (lc : LcT) : Option (Int32 × Sg) := o.bind fun r => (b lc r.2).bind fun q => if q.1 = 0 then none else some (iRem r.1 q.1, q.2)
def bRm2 (x : Int32) (o : Option (Int32 × Sg)) : Option (Int32 × Sg) := o.bind fun q => if q.1 = 0 then none else some (iRem x q.1, q.2)
theorem w_Rm {lc : LcT} {σ : Sg} {a b : Ex Int32} : xRem a b lc σ = bRm1 (a lc σ) b lc := Eq.trans rfl rfl
theorem w_Rm1 {lc : LcT} {σ : Sg} {x : Int32} {b : Ex Int32} : bRm1 (some (x, σ)) b lc = bRm2 x (b lc σ) := Eq.trans rfl rfl
theorem w_Rm2 {σ : Sg} {x y : Int32} : bRm2 x (some (y, σ)) = if y = 0 then none else some (iRem x y, σ) := Eq.trans rfl rfl
def bAJ1 (o : Option (Tg × Sg)) (i : Ex Int32) (lc : LcT) : Option (Int64 × Sg) := o.bind fun r => (i lc r.2).bind fun q => (rdJ q.2 r.1 q.1).bind fun v => some (v, q.2)
def bAJ2 (t : Tg) (o : Option (Int32 × Sg)) : Option (Int64 × Sg) := o.bind fun q => (rdJ q.2 t q.1).bind fun v => some (v, q.2)
def bAJ3 (o : Option Int64) (σ : Sg) : Option (Int64 × Sg) := o.bind fun v => some (v, σ)
theorem w_AJ {lc : LcT} {σ : Sg} {e : Ex Tg} {i : Ex Int32} : xAldJ e i lc σ = bAJ1 (e lc σ) i lc := Eq.trans rfl rfl
theorem w_AJ1 {lc : LcT} {σ : Sg} {t : Tg} {i : Ex Int32} : bAJ1 (some (t, σ)) i lc = bAJ2 t (i lc σ) := Eq.trans rfl rfl
theorem w_AJ2 {σ : Sg} {t : Tg} {j : Int32} : bAJ2 t (some (j, σ)) = bAJ3 (rdJ σ t j) σ := Eq.trans rfl rfl
theorem w_AJ3 {σ : Sg} {x : Int64} : bAJ3 (some x) σ = some (x, σ) := Eq.trans rfl rfl
theorem w_rj0 {σ : Sg} {j : Int32} : rdJ σ (14, 0) j = if inB j 48 = true then some (σ.2.2.2 0 j.toNatClampNeg) else none := by simp [rdJ, lsh]
theorem w_wj0 {σ : Sg} {j : Int32} {x : Int64} : wrJ σ (14, 0) j x = if inB j 48 = true then some (upJ σ 0 j.toNatClampNeg x) else none := by simp [wrJ, lsh]
theorem w_rj1 {σ : Sg} {j : Int32} : rdJ σ (14, 1) j = if inB j 8 = true then some (σ.2.2.2 1 j.toNatClampNeg) else none := by simp [rdJ, lsh]
theorem w_wj1 {σ : Sg} {j : Int32} {x : Int64} : wrJ σ (14, 1) j x = if inB j 8 = true then some (upJ σ 1 j.toNatClampNeg x) else none := by simp [wrJ, lsh]
theorem w_rj2 {σ : Sg} {j : Int32} : rdJ σ (14, 2) j = if inB j 48 = true then some (σ.2.2.2 2 j.toNatClampNeg) else none := by simp [rdJ, lsh]
theorem w_wj2 {σ : Sg} {j : Int32} {x : Int64} : wrJ σ (14, 2) j x = if inB j 48 = true then some (upJ σ 2 j.toNatClampNeg x) else none := by simp [wrJ, lsh]
theorem w_rj3 {σ : Sg} {j : Int32} : rdJ σ (14, 3) j = if inB j 48 = true then some (σ.2.2.2 3 j.toNatClampNeg) else none := by simp [rdJ, lsh]
theorem w_wj3 {σ : Sg} {j : Int32} {x : Int64} : wrJ σ (14, 3) j x = if inB j 48 = true then some (upJ σ 3 j.toNatClampNeg x) else none := by simp [wrJ, lsh]
theorem w_rj4 {σ : Sg} {j : Int32} : rdJ σ (14, 4) j = if inB j 48 = true then some (σ.2.2.2 4 j.toNatClampNeg) else none := by simp [rdJ, lsh]
theorem w_wj4 {σ : Sg} {j : Int32} {x : Int64} : wrJ σ (14, 4) j x = if inB j 48 = true then some (upJ σ 4 j.toNatClampNeg x) else none := by simp [wrJ, lsh]
theorem w_uj1 {σ : Sg} {k j : Nat} {x : Int64} : (upJ σ k j x).1 = σ.1 := Eq.trans rfl rfl
theorem w_uj2 {σ : Sg} {k j : Nat} {x : Int64} : (upJ σ k j x).2.1 = σ.2.1 := Eq.trans rfl rfl
theorem w_uj3 {σ : Sg} {k j : Nat} {x : Int64} : (upJ σ k j x).2.2.1 = σ.2.2.1 := Eq.trans rfl rfl
theorem w_uj4 {σ : Sg} {k j k2 j2 : Nat} {x : Int64} : (upJ σ k j x).2.2.2 k2 j2 = if k2 = k ∧ j2 = j then x else σ.2.2.2 k2 j2 := Eq.trans rfl rfl
theorem sl_J {σ : Sg} {τ : Sg} {k j : Nat} {x : Int64} : sleB σ (upJ τ k j x) = sleB σ τ := Eq.trans rfl rfl
def bSetJ (i : Nat) (lc : LcT) (o : Option (Int64 × Sg)) : Option ((LcT × Sg) ⊕ (Res × Sg)) := o.bind fun r => some (.inl ((lc.set i (some (aj r.1))).set (i + 1) none, r.2))
theorem w_setJ {lc : LcT} {σ : Sg} {i : Nat} {e : Ex Int64} : sSetJ i e lc σ = bSetJ i lc (e lc σ) := Eq.trans rfl rfl
theorem w_setJ1 {lc : LcT} {σ : Sg} {i : Nat} {x : Int64} : bSetJ i lc (some (x, σ)) = some (.inl ((lc.set i (some (aj x))).set (i + 1) none, σ)) := Eq.trans rfl rfl
def bIJ1 (o : Option (Tg × Sg)) (i : Ex Int32) (v : Ex Int64) (lc : LcT) : Option ((LcT × Sg) ⊕ (Res × Sg)) := o.bind fun r => (i lc r.2).bind fun q => (v lc q.2).bind fun u => (wrJ u.2 r.1 q.1 u.1).bind fun τ => some (.inl (lc, τ))
def bIJ2 (t : Tg) (o : Option (Int32 × Sg)) (v : Ex Int64) (lc : LcT) : Option ((LcT × Sg) ⊕ (Res × Sg)) := o.bind fun q => (v lc q.2).bind fun u => (wrJ u.2 t q.1 u.1).bind fun τ => some (.inl (lc, τ))
def bIJ3 (t : Tg) (j : Int32) (lc : LcT) (o : Option (Int64 × Sg)) : Option ((LcT × Sg) ⊕ (Res × Sg)) := o.bind fun u => (wrJ u.2 t j u.1).bind fun τ => some (.inl (lc, τ))
theorem w_aJs {lc : LcT} {σ : Sg} {e : Ex Tg} {i : Ex Int32} {v : Ex Int64} : sAstJ e i v lc σ = bIJ1 (e lc σ) i v lc := Eq.trans rfl rfl
theorem w_aJs1 {lc : LcT} {σ : Sg} {t : Tg} {i : Ex Int32} {v : Ex Int64} : bIJ1 (some (t, σ)) i v lc = bIJ2 t (i lc σ) v lc := Eq.trans rfl rfl
theorem w_aJs2 {lc : LcT} {σ : Sg} {t : Tg} {j : Int32} {v : Ex Int64} : bIJ2 t (some (j, σ)) v lc = bIJ3 t j lc (v lc σ) := Eq.trans rfl rfl
theorem w_aJs3 {lc : LcT} {σ : Sg} {t : Tg} {j : Int32} {x : Int64} : bIJ3 t j lc (some (x, σ)) = bP3 lc (wrJ σ t j x) := Eq.trans rfl rfl
def bJJ1 (op : Int64 → Int64 → Int64) (o : Option (Tg × Sg)) (i : Ex Int32) (v : Ex Int64) (lc : LcT) : Option ((LcT × Sg) ⊕ (Res × Sg)) := o.bind fun r => (i lc r.2).bind fun q => (rdJ q.2 r.1 q.1).bind fun z => (v lc q.2).bind fun u => (wrJ u.2 r.1 q.1 (op z u.1)).bind fun τ => some (.inl (lc, τ))
def bJJ2 (op : Int64 → Int64 → Int64) (t : Tg) (o : Option (Int32 × Sg)) (v : Ex Int64) (lc : LcT) : Option ((LcT × Sg) ⊕ (Res × Sg)) := o.bind fun q => (rdJ q.2 t q.1).bind fun z => (v lc q.2).bind fun u => (wrJ u.2 t q.1 (op z u.1)).bind fun τ => some (.inl (lc, τ))
def bJJ3 (op : Int64 → Int64 → Int64) (t : Tg) (j : Int32) (z : Option Int64) (v : Ex Int64) (lc : LcT) (σ : Sg) : Option ((LcT × Sg) ⊕ (Res × Sg)) := z.bind fun z => (v lc σ).bind fun u => (wrJ u.2 t j (op z u.1)).bind fun τ => some (.inl (lc, τ))
def bJJ4 (op : Int64 → Int64 → Int64) (t : Tg) (j : Int32) (z : Int64) (lc : LcT) (o : Option (Int64 × Sg)) : Option ((LcT × Sg) ⊕ (Res × Sg)) := o.bind fun u => (wrJ u.2 t j (op z u.1)).bind fun τ => some (.inl (lc, τ))
theorem w_jop {lc : LcT} {σ : Sg} {op : Int64 → Int64 → Int64} {e : Ex Tg} {i : Ex Int32} {v : Ex Int64} : sAopJ op e i v lc σ = bJJ1 op (e lc σ) i v lc := Eq.trans rfl rfl
theorem w_jop1 {lc : LcT} {σ : Sg} {op : Int64 → Int64 → Int64} {t : Tg} {i : Ex Int32} {v : Ex Int64} : bJJ1 op (some (t, σ)) i v lc = bJJ2 op t (i lc σ) v lc := Eq.trans rfl rfl
theorem w_jop2 {lc : LcT} {σ : Sg} {op : Int64 → Int64 → Int64} {t : Tg} {j : Int32} {v : Ex Int64} : bJJ2 op t (some (j, σ)) v lc = bJJ3 op t j (rdJ σ t j) v lc σ := Eq.trans rfl rfl
theorem w_jop3 {lc : LcT} {σ : Sg} {op : Int64 → Int64 → Int64} {t : Tg} {j : Int32} {z : Int64} {v : Ex Int64} : bJJ3 op t j (some z) v lc σ = bJJ4 op t j z lc (v lc σ) := Eq.trans rfl rfl
theorem w_jop4 {lc : LcT} {σ : Sg} {op : Int64 → Int64 → Int64} {t : Tg} {j : Int32} {z x : Int64} : bJJ4 op t j z lc (some (x, σ)) = bP3 lc (wrJ σ t j (op z x)) := Eq.trans rfl rfl
def bRj (o : Option (Int64 × Sg)) : Option ((LcT × Sg) ⊕ (Res × Sg)) := o.bind fun r => some (.inr (.inl (some (aj r.1)), r.2))
theorem w_retJ {lc : LcT} {σ : Sg} {e : Ex Int64} : sRetJ e lc σ = bRj (e lc σ) := Eq.trans rfl rfl
theorem w_retJ1 {σ : Sg} {x : Int64} : bRj (some (x, σ)) = some (.inr (.inl (some (aj x)), σ)) := Eq.trans rfl rfl
def bKJ (o : Option (Int64 × Sg)) (r : Ex (List AV)) (lc : LcT) : Option (List AV × Sg) := o.bind fun x => (r lc x.2).bind fun q => some (aj x.1 :: q.1, q.2)
theorem w_aJ {lc : LcT} {σ : Sg} {e : Ex Int64} {r : Ex (List AV)} : aJ e r lc σ = bKJ (e lc σ) r lc := Eq.trans rfl rfl
theorem w_aJ1 {lc : LcT} {σ : Sg} {x : Int64} {r : Ex (List AV)} : bKJ (some (x, σ)) r lc = bK2 (aj x) (r lc σ) := Eq.trans rfl rfl
def bCJ (o : Option (Res × Sg)) : Option (Int64 × Sg) := o.bind rJ
theorem w_CJ {lc : LcT} {σ : Sg} {c : Ex Res} : xCJ c lc σ = bCJ (c lc σ) := Eq.trans rfl rfl
theorem w_CJ1 {σ : Sg} {x : Int64} : bCJ (some (.inl (some (aj x)), σ)) = some (x, σ) := Eq.trans rfl rfl
