def tysX (cA : Nat → ClassId) : List (ClassId × FieldType) := [(cA 20, .int), (cA 21, .long), (cA 22, .boolean), (cA 23, .object "GlassLog$Log"), (cA 24, .object "GlassLog$Proof"), (cA 25, .object "GlassLog$Head"), (cA 26, .object "GlassLog$Watcher")]
def lvT (j : Nat) : Int32 := [0, 400, 600, 700, 750, 775, 787, 793, 796].getD j 0
def isNW : Cond → Bool
  | .fieldLinkNest .. => true
  | .methodLinkNest .. => true
  | .arrayOver (.object _) => true
  | _ => false
def isAC : Cond → Bool
  | .arrayClass _ => true
  | .arrayOver (.object _) => true
  | _ => false
def useW (w : Cond) : Bool := (w.onTables || isAC w) && (goodWord w || isNW w)
def lw_wds : List Cond := lw_tbl.filter useW
theorem mw {w : Cond} (h : w ∈ lw_tbl) (hu : useW w = true) : w ∈ lw_wds := List.mem_filter.mpr ⟨h, hu⟩
theorem useW_s {w : Cond} (h : useW w = true) : (w.onTables || isAC w) = true ∧ (goodWord w || isNW w) = true := (Bool.and_eq_true _ _).mp h
theorem use_any {w : Cond} {U : State} {args : Array Value} (hu : useW w = true) (h : va_Nw w U) : w.before args U = true := by
  cases hw : w.onTables with
  | true => exact va_Nw.use hw h
  | false =>
    have h1 : isAC w = true := by simpa [hw] using (useW_s hu).1
    unfold isAC at h1
    split at h1
    · exact h
    · exact h
    · cases h1
theorem nw_warm {w : Cond} {s U : State} (hw : (goodWord w || isNW w) = true) (hW : s.WarmedH U.vm) (h : va_Nw w s) : va_Nw w U := by
  rcases (Bool.or_eq_true _ _).mp hw with h1 | h1
  · exact word_at hW (good_of_word h1) h
  · unfold isNW at h1
    split at h1
    · exact va_Nw.warmF hW h
    · exact va_Nw.warmM hW h
    · exact va_AO.moved hW.alike h
    · cases h1
theorem nw_same {w : Cond} {s U : State} (hu : useW w = true) (hv : s.vm = U.vm) (ha : s.vm.Alike U.vm) (h : va_Nw w s) : va_Nw w U := by
  cases hw : w.onTables with
  | true => exact va_Nw.same hw hv h
  | false =>
    have h1 : isAC w = true := by simpa [hw] using (useW_s hu).1
    unfold isAC at h1
    split at h1
    · rename_i ty
      have h2 : (Cond.arrayClass ty).before #[] s = true := h
      show (Cond.arrayClass ty).before #[] U = true
      simp only [Cond.before, Cond.holds, Cond.value] at h2 ⊢
      rw [← hv]
      exact h2
    · exact va_AO.moved ha h
    · cases h1
def Kx (D : va_G) (cA : Nat → ClassId) (lo tS : Nat) (U : State) : Prop := va_K D vwCl (tysX cA) U ∧ (∀ w ∈ lw_wds, va_Nw w U) ∧ va_Z "GlassLog" "LEVEL_START" "[I" (.ref tS) (fun q : Nat => lo ≤ q) U U.heap ∧ va_T .int tS 9 (fun j => .int (lvT j)) (fun q : Nat => lo ≤ q) U U.heap
theorem Kx.hts {D : va_G} {cA : Nat → ClassId} {lo tS : Nat} {U : State} (h : Kx D cA lo tS U) (args : Array Value) : ∀ w ∈ lw_wds, w.before args U = true := fun w hw => use_any (List.mem_filter.mp hw).2 (h.2.1 w hw)
theorem Kx.moved {D : va_G} {cA : Nat → ClassId} {lo tS : Nat} {s U : State} {locs : List Loc} (h : Kx D cA lo tS s) (hW : s.WarmedH U.vm) (hS : va_S (fun q : Nat => lo ≤ q) s.heap U.heap locs) : Kx D cA lo tS U :=
  ⟨va_K.moved hW.alike h.1, fun w hw => nw_warm (useW_s (List.mem_filter.mp hw).2).2 hW (h.2.1 w hw), (h.2.2.1.kept (fun a h1 h2 => hS.2.1 a h1 h2)).moved hW.alike, (h.2.2.2.kept (fun a h1 h2 => hS.2.1 a h1 h2)).moved hW.alike⟩
theorem Kx.same {D : va_G} {cA : Nat → ClassId} {lo tS : Nat} {s U : State} (h : Kx D cA lo tS s) (hv : s.vm = U.vm) (hh : s.heap = U.heap) : Kx D cA lo tS U := by
  have ha : s.vm.Alike U.vm := by rw [← hv]; exact Vm.Alike.refl _
  exact ⟨va_K.moved ha h.1, fun w hw => nw_same (List.mem_filter.mp hw).2 hv ha (h.2.1 w hw), by rw [← hh]; exact h.2.2.1.moved ha, by rw [← hh]; exact h.2.2.2.moved ha⟩
def ClsOk (ci : Nat) (Cn : String) (T : u_T) (N : Nat) (ty0 : Nat → FieldType) : Prop := vwCl[ci]? = some (Cn, T, N) ∧ (∀ w ∈ u_ws Cn T N, w ∈ lw_wds) ∧ ci < 13 ∧ nf ci = N ∧ (∀ k, k < N → parseFieldDescriptor (T k).2.2.1 = some (ty0 k)) ∧ ∀ a, a < N → ∀ b, b < N → a ≠ b → (T a).2.1 ≠ (T b).2.1
def zb (x : Int32) : Bool := x == 0 || x == 1
theorem zb_or {x : Int32} (h : zb x = true) : x = 0 ∨ x = 1 := by simpa [zb] using h
theorem zb_nar {x : Int32} (h : zb x = true) : narrow .boolean (.int x) = .int x := by
  rcases zb_or h with rfl | rfl <;> decide
theorem zb_fit {x : Int32} (h : zb x = true) : fits .boolean (.int x) = true := by
  rcases zb_or h with rfl | rfl <;> decide
set_option maxRecDepth 100000 in
theorem in_X0 : ∀ w ∈ u_ws RX0 TX0 7, w ∈ lw_wds := by decide +kernel
theorem okX0 : ClsOk 0 RX0 TX0 7 tyX0 := ⟨rfl, in_X0, by decide, rfl, tyX0_ok, nmX0⟩
set_option maxRecDepth 100000 in
theorem in_X1 : ∀ w ∈ u_ws RX1 TX1 9, w ∈ lw_wds := by decide +kernel
theorem okX1 : ClsOk 1 RX1 TX1 9 tyX1 := ⟨rfl, in_X1, by decide, rfl, tyX1_ok, nmX1⟩
set_option maxRecDepth 100000 in
theorem in_X2 : ∀ w ∈ u_ws RX2 TX2 4, w ∈ lw_wds := by decide +kernel
theorem okX2 : ClsOk 2 RX2 TX2 4 tyX2 := ⟨rfl, in_X2, by decide, rfl, tyX2_ok, nmX2⟩
set_option maxRecDepth 100000 in
theorem in_X3 : ∀ w ∈ u_ws RX3 TX3 10, w ∈ lw_wds := by decide +kernel
theorem okX3 : ClsOk 3 RX3 TX3 10 tyX3 := ⟨rfl, in_X3, by decide, rfl, tyX3_ok, nmX3⟩
set_option maxRecDepth 100000 in
theorem in_X4 : ∀ w ∈ u_ws RX4 TX4 6, w ∈ lw_wds := by decide +kernel
theorem okX4 : ClsOk 4 RX4 TX4 6 tyX4 := ⟨rfl, in_X4, by decide, rfl, tyX4_ok, nmX4⟩
set_option maxRecDepth 100000 in
theorem in_X5 : ∀ w ∈ u_ws RX5 TX5 4, w ∈ lw_wds := by decide +kernel
theorem okX5 : ClsOk 5 RX5 TX5 4 tyX5 := ⟨rfl, in_X5, by decide, rfl, tyX5_ok, nmX5⟩
set_option maxRecDepth 100000 in
theorem in_X6 : ∀ w ∈ u_ws RX6 TX6 2, w ∈ lw_wds := by decide +kernel
theorem okX6 : ClsOk 6 RX6 TX6 2 tyX6 := ⟨rfl, in_X6, by decide, rfl, tyX6_ok, nmX6⟩
set_option maxRecDepth 100000 in
theorem in_X7 : ∀ w ∈ u_ws RX7 TX7 12, w ∈ lw_wds := by decide +kernel
theorem okX7 : ClsOk 7 RX7 TX7 12 tyX7 := ⟨rfl, in_X7, by decide, rfl, tyX7_ok, nmX7⟩
set_option maxRecDepth 100000 in
theorem in_X8 : ∀ w ∈ u_ws RX8 TX8 5, w ∈ lw_wds := by decide +kernel
theorem okX8 : ClsOk 8 RX8 TX8 5 tyX8 := ⟨rfl, in_X8, by decide, rfl, tyX8_ok, nmX8⟩
set_option maxRecDepth 100000 in
theorem in_X9 : ∀ w ∈ u_ws RX9 TX9 5, w ∈ lw_wds := by decide +kernel
theorem okX9 : ClsOk 9 RX9 TX9 5 tyX9 := ⟨rfl, in_X9, by decide, rfl, tyX9_ok, nmX9⟩
set_option maxRecDepth 100000 in
theorem in_X10 : ∀ w ∈ u_ws RX10 TX10 7, w ∈ lw_wds := by decide +kernel
theorem okX10 : ClsOk 10 RX10 TX10 7 tyX10 := ⟨rfl, in_X10, by decide, rfl, tyX10_ok, nmX10⟩
set_option maxRecDepth 100000 in
theorem in_X11 : ∀ w ∈ u_ws RX11 TX11 7, w ∈ lw_wds := by decide +kernel
theorem okX11 : ClsOk 11 RX11 TX11 7 tyX11 := ⟨rfl, in_X11, by decide, rfl, tyX11_ok, nmX11⟩
set_option maxRecDepth 100000 in
theorem in_X12 : ∀ w ∈ u_ws RX12 TX12 66, w ∈ lw_wds := by decide +kernel
theorem okX12 : ClsOk 12 RX12 TX12 66 tyX12 := ⟨rfl, in_X12, by decide, rfl, tyX12_ok, nmX12⟩
