theorem any_nw {w : Cond} {U : State} {args : Array Value} (hu : useW w = true) (h : w.before args U = true) : va_Nw w U := by
  cases hw : w.onTables with
  | true => exact va_Nw.of hw h
  | false =>
    have h1 : isAC w = true := by simpa [hw] using (useW_s hu).1
    unfold isAC at h1
    split at h1
    · exact h
    · exact h
    · cases h1

theorem insX0 : Cond.instantiable RX0 7 ∈ lw_tbl := List.mem_of_getElem? (i := 243) (by decide +kernel)
theorem insX1 : Cond.instantiable RX1 9 ∈ lw_tbl := List.mem_of_getElem? (i := 162) (by decide +kernel)
theorem insX2 : Cond.instantiable RX2 4 ∈ lw_tbl := List.mem_of_getElem? (i := 392) (by decide +kernel)
theorem insX3 : Cond.instantiable RX3 10 ∈ lw_tbl := List.mem_of_getElem? (i := 386) (by decide +kernel)
theorem insX4 : Cond.instantiable RX4 6 ∈ lw_tbl := List.mem_of_getElem? (i := 92) (by decide +kernel)
theorem insX5 : Cond.instantiable RX5 4 ∈ lw_tbl := List.mem_of_getElem? (i := 416) (by decide +kernel)
theorem insX6 : Cond.instantiable RX6 2 ∈ lw_tbl := List.mem_of_getElem? (i := 78) (by decide +kernel)
theorem insX7 : Cond.instantiable RX7 12 ∈ lw_tbl := List.mem_of_getElem? (i := 175) (by decide +kernel)
theorem insX8 : Cond.instantiable RX8 5 ∈ lw_tbl := List.mem_of_getElem? (i := 118) (by decide +kernel)
theorem insX9 : Cond.instantiable RX9 5 ∈ lw_tbl := List.mem_of_getElem? (i := 124) (by decide +kernel)
theorem insX10 : Cond.instantiable RX10 7 ∈ lw_tbl := List.mem_of_getElem? (i := 288) (by decide +kernel)
theorem insX11 : Cond.instantiable RX11 7 ∈ lw_tbl := List.mem_of_getElem? (i := 70) (by decide +kernel)
theorem insX12 : Cond.instantiable RX12 66 ∈ lw_tbl := List.mem_of_getElem? (i := 1006) (by decide +kernel)
theorem lsW : Cond.laysStatic "GlassLog" "LEVEL_START" "[I" ∈ lw_tbl := List.mem_of_getElem? (i := 540) (by decide +kernel)
theorem lsI : Cond.initialized "GlassLog" ∈ lw_tbl := List.mem_of_getElem? (i := 53) (by decide +kernel)
def lw_S0 (lo : Nat) : Hs := (lo, fun _ => 0, fun _ => 0)
def lw_g0 : Hg := (fun _ _ => 0, fun _ _ => 0, fun _ _ => none)
def pick7 (c0 c1 c2 c3 c4 c5 c6 : ClassId) (k : Nat) : ClassId := if k = 20 then c0 else if k = 21 then c1 else if k = 22 then c2 else if k = 23 then c3 else if k = 24 then c4 else if k = 25 then c5 else c6
theorem arr_p {args : Array Value} {s : State} {ty : FieldType} (h : (Cond.arrayClass ty).before args s = true) (hty : ∀ C, ty ≠ .object C) : ∃ cA : ClassId, ArrOfT s cA ty ∧ va_RA s cA ty := by
  obtain ⟨cA, kA, comp, h1, h2, h3⟩ := Cond.arrayClass_spec h
  refine ⟨cA, fun n z => ⟨fun k h => (by cases h), kA, h2, comp, h3⟩, ?_⟩
  cases ty with
  | object C => exact absurd rfl (hty C)
  | _ => exact h1
theorem arr_o {args : Array Value} {s : State} {C : String} (h : (Cond.arrayOver (.object C)).before args s = true) : ∃ cA : ClassId, ArrOfT s cA (.object C) ∧ va_RA s cA (.object C) := by
  obtain ⟨comp, cA, kA, h1, -, h3, h4, h5⟩ := Cond.arrayOver_spec h
  exact ⟨cA, fun n z => ⟨fun k h => (by cases h), kA, h3, comp, h4⟩, kA, comp, h3, h4, h1, h5⟩
set_option maxHeartbeats 4000000 in
set_option maxRecDepth 100000 in
theorem kx_start {p : Program} {s : State} {m : MethodId} {meth : Method} {c : Code} {b L : Nat} {xs : Nat → Int32} (C0 : lw_At p s m meth c b L xs) : ∃ (D : va_G) (cA : Nat → ClassId) (tS : Nat), Kx D cA s.heap.size tS s := by
  obtain ⟨hx, hb, hr, hml, hown, hts, hXs, hbl, hlk, hgv⟩ := C0
  have htw : ∀ w ∈ lw_wds, w.before #[Value.ref b] s = true := fun w hw => hts w (List.mem_filter.mp hw).1
  obtain ⟨c0, i0, hK0⟩ := u_known (C := RX0) (T := TX0) (N := 7) (n := 7) htw in_X0 (hts _ insX0)
  obtain ⟨c1, i1, hK1⟩ := u_known (C := RX1) (T := TX1) (N := 9) (n := 9) htw in_X1 (hts _ insX1)
  obtain ⟨c2, i2, hK2⟩ := u_known (C := RX2) (T := TX2) (N := 4) (n := 4) htw in_X2 (hts _ insX2)
  obtain ⟨c3, i3, hK3⟩ := u_known (C := RX3) (T := TX3) (N := 10) (n := 10) htw in_X3 (hts _ insX3)
  obtain ⟨c4, i4, hK4⟩ := u_known (C := RX4) (T := TX4) (N := 6) (n := 6) htw in_X4 (hts _ insX4)
  obtain ⟨c5, i5, hK5⟩ := u_known (C := RX5) (T := TX5) (N := 4) (n := 4) htw in_X5 (hts _ insX5)
  obtain ⟨c6, i6, hK6⟩ := u_known (C := RX6) (T := TX6) (N := 2) (n := 2) htw in_X6 (hts _ insX6)
  obtain ⟨c7, i7, hK7⟩ := u_known (C := RX7) (T := TX7) (N := 12) (n := 12) htw in_X7 (hts _ insX7)
  obtain ⟨c8, i8, hK8⟩ := u_known (C := RX8) (T := TX8) (N := 5) (n := 5) htw in_X8 (hts _ insX8)
  obtain ⟨c9, i9, hK9⟩ := u_known (C := RX9) (T := TX9) (N := 5) (n := 5) htw in_X9 (hts _ insX9)
  obtain ⟨c10, i10, hK10⟩ := u_known (C := RX10) (T := TX10) (N := 7) (n := 7) htw in_X10 (hts _ insX10)
  obtain ⟨c11, i11, hK11⟩ := u_known (C := RX11) (T := TX11) (N := 7) (n := 7) htw in_X11 (hts _ insX11)
  obtain ⟨c12, i12, hK12⟩ := u_known (C := RX12) (T := TX12) (N := 66) (n := 66) htw in_X12 (hts _ insX12)
  obtain ⟨a0, hA0⟩ := arr_p (hts _ ac_20) (fun _ h => by cases h)
  obtain ⟨a1, hA1⟩ := arr_p (hts _ ac_21) (fun _ h => by cases h)
  obtain ⟨a2, hA2⟩ := arr_p (hts _ ac_22) (fun _ h => by cases h)
  obtain ⟨a3, hA3⟩ := arr_o (hts _ ac_23)
  obtain ⟨a4, hA4⟩ := arr_o (hts _ ac_24)
  obtain ⟨a5, hA5⟩ := arr_o (hts _ ac_25)
  obtain ⟨a6, hA6⟩ := arr_o (hts _ ac_26)
  have hs := flat_of_before _ hgv
  have hno : ∀ a : Nat, a < s.heap.size → ¬ (fun q : Nat => s.heap.size ≤ q) a := fun a h => Nat.not_le.mpr h
  have harr : (Cond.arrayOf (.static "GlassLog" "LEVEL_START" "[I") .int).before #[Value.ref b] s = true := hs _ (by decide +kernel)
  have hlen : (Cond.eq (.length (.static "GlassLog" "LEVEL_START" "[I")) (.int 9)).before #[Value.ref b] s = true := hs _ (by decide +kernel)
  have he0 : (Cond.eq (.elem (.static "GlassLog" "LEVEL_START" "[I") (.int 0)) (.int 0)).before #[Value.ref b] s = true := hs _ (by decide +kernel)
  have he1 : (Cond.eq (.elem (.static "GlassLog" "LEVEL_START" "[I") (.int 1)) (.int 400)).before #[Value.ref b] s = true := hs _ (by decide +kernel)
  have he2 : (Cond.eq (.elem (.static "GlassLog" "LEVEL_START" "[I") (.int 2)) (.int 600)).before #[Value.ref b] s = true := hs _ (by decide +kernel)
  have he3 : (Cond.eq (.elem (.static "GlassLog" "LEVEL_START" "[I") (.int 3)) (.int 700)).before #[Value.ref b] s = true := hs _ (by decide +kernel)
  have he4 : (Cond.eq (.elem (.static "GlassLog" "LEVEL_START" "[I") (.int 4)) (.int 750)).before #[Value.ref b] s = true := hs _ (by decide +kernel)
  have he5 : (Cond.eq (.elem (.static "GlassLog" "LEVEL_START" "[I") (.int 5)) (.int 775)).before #[Value.ref b] s = true := hs _ (by decide +kernel)
  have he6 : (Cond.eq (.elem (.static "GlassLog" "LEVEL_START" "[I") (.int 6)) (.int 787)).before #[Value.ref b] s = true := hs _ (by decide +kernel)
  have he7 : (Cond.eq (.elem (.static "GlassLog" "LEVEL_START" "[I") (.int 7)) (.int 793)).before #[Value.ref b] s = true := hs _ (by decide +kernel)
  have he8 : (Cond.eq (.elem (.static "GlassLog" "LEVEL_START" "[I") (.int 8)) (.int 796)).before #[Value.ref b] s = true := hs _ (by decide +kernel)
  obtain ⟨tS, hv, hT⟩ := va_Tof (N := 9) (f := fun j => .int (lvT j)) (A := fun q : Nat => s.heap.size ≤ q) (by decide) harr (va_eqt hlen) (fun j hj => by
    match j, hj with
    | 0, _ => exact va_eqt he0
    | 1, _ => exact va_eqt he1
    | 2, _ => exact va_eqt he2
    | 3, _ => exact va_eqt he3
    | 4, _ => exact va_eqt he4
    | 5, _ => exact va_eqt he5
    | 6, _ => exact va_eqt he6
    | 7, _ => exact va_eqt he7
    | 8, _ => exact va_eqt he8
    | j + 9, h => exact absurd h (by omega)) hno
  have hZ := va_Zref (hts _ lsW) (hts _ lsI) hv hno
  refine ⟨(fun k => if k = 0 then c0 else if k = 1 then c1 else if k = 2 then c2 else if k = 3 then c3 else if k = 4 then c4 else if k = 5 then c5 else if k = 6 then c6 else if k = 7 then c7 else if k = 8 then c8 else if k = 9 then c9 else if k = 10 then c10 else if k = 11 then c11 else c12, fun k => if k = 0 then i0 else if k = 1 then i1 else if k = 2 then i2 else if k = 3 then i3 else if k = 4 then i4 else if k = 5 then i5 else if k = 6 then i6 else if k = 7 then i7 else if k = 8 then i8 else if k = 9 then i9 else if k = 10 then i10 else if k = 11 then i11 else i12), pick7 a0 a1 a2 a3 a4 a5 a6, tS, ⟨fun k q hq => ?_, fun k q hq => ?_⟩, fun w hw => any_nw (List.mem_filter.mp hw).2 (htw w hw), hZ, hT⟩
  · match k, hq with
    | 0, hq => cases hq; exact hK0
    | 1, hq => cases hq; exact hK1
    | 2, hq => cases hq; exact hK2
    | 3, hq => cases hq; exact hK3
    | 4, hq => cases hq; exact hK4
    | 5, hq => cases hq; exact hK5
    | 6, hq => cases hq; exact hK6
    | 7, hq => cases hq; exact hK7
    | 8, hq => cases hq; exact hK8
    | 9, hq => cases hq; exact hK9
    | 10, hq => cases hq; exact hK10
    | 11, hq => cases hq; exact hK11
    | 12, hq => cases hq; exact hK12
    | k + 13, hq => simp [vwCl] at hq
  · match k, hq with
    | 0, hq => cases hq; exact hA0
    | 1, hq => cases hq; exact hA1
    | 2, hq => cases hq; exact hA2
    | 3, hq => cases hq; exact hA3
    | 4, hq => cases hq; exact hA4
    | 5, hq => cases hq; exact hA5
    | 6, hq => cases hq; exact hA6
    | k + 7, hq => simp [tysX] at hq
