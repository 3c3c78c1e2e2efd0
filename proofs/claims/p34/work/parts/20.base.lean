/-! what the walks of the class and the reference share: field words, throws, lists, Arrays.fill -/
theorem Hx.st {κ : Kx} {cc : ByteArray} {nL fX lX : Nat} {own : String} (hx : Hx κ cc nL own fX lX) : (kl κ).stackTraces = false := by
  obtain ⟨p, l, e, R, s, m, args, below, meth, c, Q, g, L, c0, s0, fc, fs⟩ := κ
  exact hx.2.2.2.2.2.1
theorem in_X0 : ∀ w ∈ u_ws RX0 TX0 9, w ∈ UW := fun w h => List.mem_filter.mpr ⟨(by decide +kernel : ∀ w ∈ u_ws RX0 TX0 9, w ∈ lw_tbl) w h, (by decide +kernel : ∀ w ∈ u_ws RX0 TX0 9, goodWord w = true) w h⟩
theorem in_X1 : ∀ w ∈ u_ws RX1 TX1 10, w ∈ UW := fun w h => List.mem_filter.mpr ⟨(by decide +kernel : ∀ w ∈ u_ws RX1 TX1 10, w ∈ lw_tbl) w h, (by decide +kernel : ∀ w ∈ u_ws RX1 TX1 10, goodWord w = true) w h⟩
theorem in_X2 : ∀ w ∈ u_ws RX2 TX2 7, w ∈ UW := fun w h => List.mem_filter.mpr ⟨(by decide +kernel : ∀ w ∈ u_ws RX2 TX2 7, w ∈ lw_tbl) w h, (by decide +kernel : ∀ w ∈ u_ws RX2 TX2 7, goodWord w = true) w h⟩
theorem in_JA : ∀ w ∈ u_ws RJx4a65c TJx4a65c 3, w ∈ UW := fun w h => List.mem_filter.mpr ⟨(by decide +kernel : ∀ w ∈ u_ws RJx4a65c TJx4a65c 3, w ∈ lw_tbl) w h, (by decide +kernel : ∀ w ∈ u_ws RJx4a65c TJx4a65c 3, goodWord w = true) w h⟩
theorem at_of {L : List Cond} (h1 : ∀ w ∈ L, w ∈ lw_tbl) (h2 : L.all (fun w => goodWord w || (w.onTables && w.faceAtom)) = true) : ∀ w ∈ L, w ∈ UW ∨ w ∈ FW := by
  intro w hw
  have h := List.all_eq_true.mp h2 w hw
  rw [Bool.or_eq_true] at h
  rcases h with h | h
  · exact Or.inl (List.mem_filter.mpr ⟨h1 w hw, h⟩)
  · exact Or.inr (List.mem_filter.mpr ⟨h1 w hw, h⟩)
theorem at_0 {L : List Cond} (h : ∀ w ∈ L, w ∈ lw_tbl ∨ vx_no w = false) : ∀ w ∈ L.filter vx_no, w ∈ lw_tbl := fun w hw => by
  obtain ⟨h1, h2⟩ := List.mem_filter.mp hw
  rcases h w h1 with q | q
  · exact q
  · rw [q] at h2; cases h2
theorem at_1 : ∀ w ∈ vx_atS RX2 197 (exn 1) exNames, w ∈ UW ∨ w ∈ FW := at_of (by decide +kernel) (by decide +kernel)
theorem at_2 : ∀ w ∈ vx_atS RX2 50 (exn 2) exNames, w ∈ UW ∨ w ∈ FW := at_of (by decide +kernel) (by decide +kernel)
theorem ot_1 : ∀ w ∈ Cond.classLink RX2 193 (exn 1) :: Cond.initialized (exn 1) :: vx_atS RX2 197 (exn 1) exNames, vx_ot w = true := by decide +kernel
theorem ot_2 : ∀ w ∈ Cond.classLink RX2 46 (exn 2) :: Cond.initialized (exn 2) :: vx_atS RX2 50 (exn 2) exNames, vx_ot w = true := by decide +kernel
-- lists
def newCap (c : Nat) : Nat := if c = 0 then 10 else c + max 1 (c / 2)
def lgrow (σ : Sg) (k : Nat) : Sg := if (σ.2.1 k).length < σ.2.2.1 (10 + k) then σ else grw (upN σ (10 + k) (newCap (σ.2.2.1 (10 + k)))) 1 (newCap (σ.2.2.1 (10 + k)))
def ladd (σ : Sg) (k m : Nat) : Sg := upL (upI (lgrow σ k) 30 k 0 (σ.1 30 k 0 + 1)) k (σ.2.1 k ++ [m])
def lrem (σ : Sg) (k i : Nat) : Sg := upL (upI σ 30 k 0 (σ.1 30 k 0 + 1)) k ((σ.2.1 k).eraseIdx i)
def f_lsize : Sem := fun as σ => match as with
  | [.inr (4, k)] => if k < 11 then some (.inl (some (ai (nI (σ.2.1 k).length))), σ) else none
  | _ => none
def f_lget : Sem := fun as σ => match as with
  | [.inr (4, k), .inl (.int i)] => if k < 11 ∧ inB i (σ.2.1 k).length = true ∧ (σ.2.1 k).length < 1000 then ((σ.2.1 k)[i.toNatClampNeg]?).map (fun m => (.inl (some (ar (6, m))), σ)) else none
  | _ => none
def f_ladd : Sem := fun as σ => match as with
  | [.inr (4, k), .inr (6, m)] => if k < 11 ∧ m < σ.2.2.1 0 ∧ (σ.2.1 k).length < 1000 ∧ σ.2.2.1 (10 + k) < 2000 then some (.inl (some (ai 1)), ladd σ k m) else none
  | _ => none
def f_lremove : Sem := fun as σ => match as with
  | [.inr (4, k), .inl (.int i)] => if k < 11 ∧ inB i (σ.2.1 k).length = true ∧ (σ.2.1 k).length < 1000 ∧ σ.2.2.1 (10 + k) < 2000 then ((σ.2.1 k)[i.toNatClampNeg]?).map (fun m => (.inl (some (ar (6, m))), lrem σ k i.toNatClampNeg)) else none
  | _ => none
def fillA (σ : Sg) (kc o n : Nat) (x : Int32) : Sg := (fun k' o' j' => if k' = kc ∧ o' = o ∧ j' < n then x else σ.1 k' o' j', σ.2)
def f_fill : Sem := fun as σ => match as with
  | [.inr t, .inl (.int x)] => match ash t with
    | some (false, n, kc, o) => if vld σ t = true then some (.inl none, fillA σ kc o n x) else none
    | _ => none
  | _ => none
