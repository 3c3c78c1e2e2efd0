/-! expressions, conditions, statements: what they mean, and how their code runs -/
abbrev Ex (α : Type) : Type := LcT → Sg → Option (α × Sg)
abbrev Sx : Type := LcT → Sg → Option ((LcT × Sg) ⊕ (Res × Sg))
def inB (i : Int32) (n : Nat) : Bool := !(decide (i < 0) || decide (n ≤ i.toNatClampNeg))
theorem inB_in {i : Int32} {n : Nat} (h : inB i n = true) : vp_in i n := by
  intro q
  simp [inB] at h
  rcases q with q | q
  · exact absurd (Int32.not_lt.mpr h.1) (fun z => z q)
  · omega
def sleB (σ τ : Sg) : Bool := decide (sC σ ≤ sC τ) && decide (sS σ ≤ sS τ)
theorem sleB_sle {σ τ : Sg} (h : sleB σ τ = true) : sle σ τ := by
  simp [sleB] at h
  exact h
theorem sleB_refl (σ : Sg) : sleB σ σ = true := by simp [sleB]
-- meanings
def xI (v : Int32) : Ex Int32 := fun _ σ => some (v, σ)
def xL (i : Nat) : Ex Int32 := fun lc σ => match lc[i]? with
  | some (some (.inl (.int x))) => some (x, σ)
  | _ => none
def xLR (i : Nat) : Ex Tg := fun lc σ => match lc[i]? with
  | some (some (.inr t)) => some (t, σ)
  | _ => none
def xLN (i : Nat) : Ex AV := fun lc σ => match lc[i]? with
  | some (some (.inr t)) => some (.inr t, σ)
  | some (some (.inl .null)) => some (.inl .null, σ)
  | _ => none
def xNull : Ex AV := fun _ σ => some (an, σ)
def xN (e : Ex Tg) : Ex AV := fun lc σ => (e lc σ).bind fun r => some (ar r.1, r.2)
def xBin (op : Int32 → Int32 → Int32) (a b : Ex Int32) : Ex Int32 := fun lc σ => (a lc σ).bind fun r => (b lc r.2).bind fun q => some (op r.1 q.1, q.2)
def xGI (tk kc : Nat) (e : Ex Tg) : Ex Int32 := fun lc σ => (e lc σ).bind fun r => if r.1.1 = tk ∧ vld r.2 r.1 = true then some (r.2.1 kc r.1.2 0, r.2) else none
def xGR (tk : Nat) (tf : Nat → Tg) (e : Ex Tg) : Ex Tg := fun lc σ => (e lc σ).bind fun r => if r.1.1 = tk ∧ vld r.2 r.1 = true then some (tf r.1.2, r.2) else none
def rdA (b : Bool) (σ : Sg) (t : Tg) (i : Int32) : Option Int32 := match ash t with
  | some a => if a.1 = b ∧ vld σ t = true ∧ inB i a.2.1 = true then some (σ.1 a.2.2.1 a.2.2.2 i.toNatClampNeg) else none
  | none => none
def wrA (b : Bool) (σ : Sg) (t : Tg) (i x : Int32) : Option Sg := match ash t with
  | some a => if a.1 = b ∧ vld σ t = true ∧ inB i a.2.1 = true ∧ (b = true → x = 0 ∨ x = 1) then some (upI σ a.2.2.1 a.2.2.2 i.toNatClampNeg x) else none
  | none => none
def xAld (b : Bool) (e : Ex Tg) (i : Ex Int32) : Ex Int32 := fun lc σ => (e lc σ).bind fun r => (i lc r.2).bind fun q => (rdA b q.2 r.1 q.1).bind fun v => some (v, q.2)
def xMem (e : Ex Tg) (i : Ex Int32) : Ex Tg := fun lc σ => (e lc σ).bind fun r => (i lc r.2).bind fun q => if r.1 = (1, 0) ∧ inB q.1 4 = true then some ((2, q.1.toNatClampNeg), q.2) else none
def xTern (c : Ex Bool) (a b : Ex Int32) : Ex Int32 := fun lc σ => (c lc σ).bind fun r => if r.1 = true then a lc r.2 else b lc r.2
def cCmp (f : Int32 → Int32 → Bool) (a b : Ex Int32) : Ex Bool := fun lc σ => (a lc σ).bind fun r => (b lc r.2).bind fun q => some (f r.1 q.1, q.2)
def cZ (f : Int32 → Bool) (a : Ex Int32) : Ex Bool := fun lc σ => (a lc σ).bind fun r => some (f r.1, r.2)
def cAnd (a b : Ex Bool) : Ex Bool := fun lc σ => (a lc σ).bind fun r => if r.1 = true then b lc r.2 else some (false, r.2)
def cOr (a b : Ex Bool) : Ex Bool := fun lc σ => (a lc σ).bind fun r => if r.1 = true then some (true, r.2) else b lc r.2
def cNot (a : Ex Bool) : Ex Bool := fun lc σ => (a lc σ).bind fun r => some (!r.1, r.2)
def cTern (c a b : Ex Bool) : Ex Bool := fun lc σ => (c lc σ).bind fun r => if r.1 = true then a lc r.2 else b lc r.2
def cREq (a b : Ex Tg) : Ex Bool := fun lc σ => (a lc σ).bind fun r => (b lc r.2).bind fun q => if vld q.2 r.1 = true ∧ vld q.2 q.1 = true ∧ r.1.1 ≠ 5 ∧ q.1.1 ≠ 5 then some (decide (r.1 = q.1), q.2) else none
def isNl : AV → Option Bool
  | .inl .null => some true
  | .inr _ => some false
  | _ => none
def cNull (a : Ex AV) : Ex Bool := fun lc σ => (a lc σ).bind fun r => (isNl r.1).bind fun b => some (b, r.2)
def sSeq (a b : Sx) : Sx := fun lc σ => (a lc σ).bind fun o => match o with
  | .inl q => b q.1 q.2
  | .inr q => some (.inr q)
def sIf (c : Ex Bool) (a b : Sx) : Sx := fun lc σ => (c lc σ).bind fun r => if r.1 = true then a lc r.2 else b lc r.2
def sSkip : Sx := fun lc σ => some (.inl (lc, σ))
def sWh (c : Ex Bool) (b : Sx) : Nat → Sx
  | 0 => fun _ _ => none
  | n + 1 => fun lc σ => (c lc σ).bind fun r => if r.1 = true then (b lc r.2).bind fun o => match o with
    | .inl q => sWh c b n q.1 q.2
    | .inr q => some (.inr q)
    else some (.inl (lc, r.2))
def sSet (i : Nat) (e : Ex Int32) : Sx := fun lc σ => (e lc σ).bind fun r => some (.inl (lc.set i (some (ai r.1)), r.2))
def sSetR (i : Nat) (e : Ex Tg) : Sx := fun lc σ => (e lc σ).bind fun r => some (.inl (lc.set i (some (ar r.1)), r.2))
def sSetN (i : Nat) (e : Ex AV) : Sx := fun lc σ => (e lc σ).bind fun r => (isNl r.1).bind fun _ => some (.inl (lc.set i (some r.1), r.2))
def sInc (i : Nat) (n : Int32) : Sx := fun lc σ => match lc[i]? with
  | some (some (.inl (.int x))) => some (.inl (lc.set i (some (ai (x + n))), σ))
  | _ => none
def wrF (b : Bool) (tk kc : Nat) (σ : Sg) (t : Tg) (x : Int32) : Option Sg := if t.1 = tk ∧ vld σ t = true ∧ (b = true → x = 0 ∨ x = 1) then some (upI σ kc t.2 0 x) else none
def sPut (b : Bool) (tk kc : Nat) (e : Ex Tg) (v : Ex Int32) : Sx := fun lc σ => (e lc σ).bind fun r => (v lc r.2).bind fun q => (wrF b tk kc q.2 r.1 q.1).bind fun τ => some (.inl (lc, τ))
/-- f op= v of a field -/
def sPutOp (op : Int32 → Int32 → Int32) (tk kc : Nat) (e : Ex Tg) (v : Ex Int32) : Sx := fun lc σ => (e lc σ).bind fun r => if r.1.1 = tk ∧ vld r.2 r.1 = true then (v lc r.2).bind fun q => (wrF false tk kc q.2 r.1 (op (r.2.1 kc r.1.2 0) q.1)).bind fun τ => some (.inl (lc, τ)) else none
def sAst (b : Bool) (e : Ex Tg) (i v : Ex Int32) : Sx := fun lc σ => (e lc σ).bind fun r => (i lc r.2).bind fun q => (v lc q.2).bind fun u => (wrA b u.2 r.1 q.1 u.1).bind fun τ => some (.inl (lc, τ))
def sAop (op : Int32 → Int32 → Int32) (e : Ex Tg) (i v : Ex Int32) : Sx := fun lc σ => (e lc σ).bind fun r => (i lc r.2).bind fun q => (rdA false q.2 r.1 q.1).bind fun z => (v lc q.2).bind fun u => (wrA false u.2 r.1 q.1 (op z u.1)).bind fun τ => some (.inl (lc, τ))
def sRet (b : Bool) (e : Ex Int32) : Sx := fun lc σ => (e lc σ).bind fun r => if b = true → r.1 = 0 ∨ r.1 = 1 then some (.inr (.inl (some (ai r.1)), r.2)) else none
def sRetN (e : Ex AV) : Sx := fun lc σ => (e lc σ).bind fun r => (isNl r.1).bind fun _ => some (.inr (.inl (some r.1), r.2))
def sRetV : Sx := fun _ σ => some (.inr (.inl none, σ))
def sThrow (n : Nat) : Sx := fun _ σ => some (.inr (.inr n, grw σ 1 6))
-- arguments and calls
def aNil : Ex (List AV) := fun _ σ => some ([], σ)
def aI (e : Ex Int32) (r : Ex (List AV)) : Ex (List AV) := fun lc σ => (e lc σ).bind fun x => (r lc x.2).bind fun q => some (ai x.1 :: q.1, q.2)
def aR (e : Ex Tg) (r : Ex (List AV)) : Ex (List AV) := fun lc σ => (e lc σ).bind fun x => (r lc x.2).bind fun q => some (ar x.1 :: q.1, q.2)
def ask (sem : Sem) (vs : List AV) (σ : Sg) : Option (Res × Sg) := (sem vs σ).bind fun r => if sleB σ r.2 = true then some r else none
def rI : Res × Sg → Option (Int32 × Sg)
  | (.inl (some (.inl (.int v))), σ) => some (v, σ)
  | _ => none
def rR : Res × Sg → Option (Tg × Sg)
  | (.inl (some (.inr t)), σ) => some (t, σ)
  | _ => none
def rN : Res × Sg → Option (AV × Sg)
  | (.inl (some (.inr t)), σ) => some (ar t, σ)
  | (.inl (some (.inl .null)), σ) => some (an, σ)
  | _ => none
def rS (lc : LcT) : Res × Sg → Option ((LcT × Sg) ⊕ (Res × Sg))
  | (.inl none, σ) => some (.inl (lc, σ))
  | (.inr n, σ) => some (.inr (.inr n, σ))
  | _ => none
/-- a virtual call on a receiver of kind tk -/
def xV (tk : Nat) (sem : Sem) (e : Ex Tg) (as : Ex (List AV)) : Ex Res := fun lc σ => (e lc σ).bind fun r => (as lc r.2).bind fun q => if r.1.1 = tk ∧ vld q.2 r.1 = true then ask sem (ar r.1 :: q.1) q.2 else none
def xS (sem : Sem) (as : Ex (List AV)) : Ex Res := fun lc σ => (as lc σ).bind fun q => ask sem q.1 q.2
def xCI (c : Ex Res) : Ex Int32 := fun lc σ => (c lc σ).bind rI
def xCR (c : Ex Res) : Ex Tg := fun lc σ => (c lc σ).bind rR
def xCN (c : Ex Res) : Ex AV := fun lc σ => (c lc σ).bind rN
def sCV (c : Ex Res) : Sx := fun lc σ => (c lc σ).bind (rS lc)
def sPop (e : Ex Int32) : Sx := fun lc σ => (e lc σ).bind fun r => some (.inl (lc, r.2))
def sPopR (e : Ex Tg) : Sx := fun lc σ => (e lc σ).bind fun r => some (.inl (lc, r.2))
def xCast (tk : Nat) (e : Ex Tg) : Ex Tg := fun lc σ => (e lc σ).bind fun r => if r.1.1 = tk ∧ vld r.2 r.1 = true then some r else none
/-- a method's meaning out of its body: nL locals, n arguments -/
def run (nL n : Nat) (b : Sx) : Sem := fun as σ => if as.length = n ∧ (lcOf as).length ≤ nL then (b (lcOf as ++ List.replicate (nL - (lcOf as).length) none) σ).bind fun o => match o with
  | .inr q => some q
  | .inl _ => none
  else none
