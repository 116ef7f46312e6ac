section W6
variable {p : Program} {l : Launch} {e : Env} {R : Room} {s : State} {m : MethodId} {args : Array Value} {below : List Frame} {meth : Method} {c : Code} {D : va_G} {cA : Nat → ClassId} {lo tS : Nat}
def b_X8_hasEntries_22 (N : Nat) (S : Hs) (k22 : Hg → Nat → Nat → Nat → Int32 → Int32 → Option (Int32 × Hg)) (g : Hg) (a0 : Nat) (a1 : Nat) (a2 : Nat) (x3 : Int32) (x4 : Int32) : Option (Int32 × Hg) :=
if (rdI g a1 3) ≤ x4 then (
c2 (f_X8_climb N S g a0 a1 x3 ((rdI g a1 7) + (rdI g a1 3)) (rdI g a1 6)) (fun x_3 g_2 =>
nn (rdR g_2 a0 2) (fun a_4 =>
nn (rdR g_2 a0 3) (fun a_5 =>
c2 (f_X9_writeTop N S g_2 a_4 a_5) (fun u_7 g_6 =>
nn (rdR g_6 a0 3) (fun a_8 =>
nn (rdR g_6 a2 0) (fun a_9 =>
c2 (f_X11_isSameSum N S g_6 a_8 a_9) (fun x_11 g_10 =>
ck (zb x_11) (
some (x_11, g_10)))))))))) else (
nn (rdR g a0 0) (fun a_12 =>
nn (rdR g a1 0) (fun a_13 =>
ck (inb x4 (hpL S a_13)) (
nn (rdR g a1 1) (fun a_14 =>
ck (inb x4 (hpL S a_14)) (
nn (rdR g a0 3) (fun a_15 =>
c2 (f_X6_sumOfEntry N S g a_12 (rdI g a_13 x4.toNatClampNeg) (rdL g a_14 x4.toNatClampNeg) a_15 (0 : Int32)) (fun u_17 g_16 =>
nn (rdR g_16 a0 2) (fun a_18 =>
nn (rdR g_16 a0 3) (fun a_19 =>
c2 (f_X9_put N S g_16 a_18 ((rdI g_16 a1 7) + x4) (1 : Int32) a_19 (0 : Int32)) (fun u_21 g_20 =>
nm (x4 + 1) (fun x_22 =>
k22 g_20 a0 a1 a2 x3 x_22))))))))))))
def n_X8_hasEntries_22 (N : Nat) (S : Hs) : Nat → Hg → Nat → Nat → Nat → Int32 → Int32 → Option (Int32 × Hg)
  | 0 => fun _ _ _ _ _ _ => none
  | n + 1 => fun g a0 a1 a2 x3 x4 => b_X8_hasEntries_22 N S (n_X8_hasEntries_22 N S n) g a0 a1 a2 x3 x4
def b_X8_hasEntries_0 (N : Nat) (S : Hs) (g : Hg) (a0 : Nat) (a1 : Nat) (a2 : Nat) : Option (Int32 × Hg) :=
nn (rdR g a0 2) (fun a_1 =>
c2 (f_X9_clear N S g a_1) (fun u_3 g_2 =>
c2 (f_X8_climb N S g_2 a0 a1 (0 : Int32) (0 : Int32) (rdI g_2 a1 7)) (fun x_5 g_4 =>
n_X8_hasEntries_22 N S N g_4 a0 a1 a2 x_5 (0 : Int32))))
def f_X8_hasEntries (N : Nat) (S : Hs) (g : Hg) (a0 : Nat) (a1 : Nat) (a2 : Nat) : Option (Int32 × Hg) := b_X8_hasEntries_0 N S g a0 a1 a2
set_option maxHeartbeats 4000000 in
set_option maxRecDepth 100000 in
theorem w_X8_hasEntries_22 (hx : p.tables.exec = Jvm.exec) (hb : c.code = cX8_hasEntries) (hml : c.maxLocals = 5) (hr : meth.sig.returnType = (some .boolean)) (hlk : meth.locks = false) (hown : s.vm.findClass RX8 = some m.cls) (hX : Kx D cA lo tS s) (hRf : 6 ≤ R.frames) (hRl : 360 ≤ R.locals) {N : Nat} {rv : Int32} {g1 : Hg} {S : Hs} {k22 : Hg → Nat → Nat → Nat → Int32 → Int32 → Option (Int32 × Hg)} (hk22 : ∀ (H : Heap) (locs : List Loc) (ls : Array Slot) (g : Hg) (a0 : Nat) (a1 : Nat) (a2 : Nat) (x3 : Int32) (x4 : Int32), Mm D cA lo S g s H locs → Rf lo S a0 8 → Rf lo S a1 7 → Rf lo S a2 0 → lv_has ls 5 [(0, .ref a0), (1, .ref a1), (2, .ref a2), (3, .int x3), (4, .int x4)] → k22 g a0 a1 a2 x3 x4 = some (rv, g1) → W p l e R s m args below meth c H locs 0 0 (MQ below (Qcx D cA lo S (some (.int rv)) S g1 True) args s 0 0 (fun q : Nat => lo ≤ q)) (F0 m 22 ls [])) : ∀ (H : Heap) (locs : List Loc) (ls : Array Slot) (g : Hg) (a0 : Nat) (a1 : Nat) (a2 : Nat) (x3 : Int32) (x4 : Int32), Mm D cA lo S g s H locs → Rf lo S a0 8 → Rf lo S a1 7 → Rf lo S a2 0 → lv_has ls 5 [(0, .ref a0), (1, .ref a1), (2, .ref a2), (3, .int x3), (4, .int x4)] → b_X8_hasEntries_22 N S k22 g a0 a1 a2 x3 x4 = some (rv, g1) → W p l e R s m args below meth c H locs 0 0 (MQ below (Qcx D cA lo S (some (.int rv)) S g1 True) args s 0 0 (fun q : Nat => lo ≤ q)) (F0 m 22 ls []) := by
  intro H locs ls g a0 a1 a2 x3 x4 M ra0 ra1 ra2 hl q
  unfold b_X8_hasEntries_22 at q
  refine lv_iload hx hb dX8_hasEntries_22 (lv_at hl 4 rfl) ?_
  refine lv_aload_n hx hb dX8_hasEntries_24 rfl (lv_at hl 1 rfl) ?_
  refine x_getI hx hb hown hX M (k := 3) okX7 ra1 (by decide) rfl kw_190 dX8_hasEntries_25 ?_
  refine lv_icmp_ge (tgt := 83) hx hb dX8_hasEntries_28 (by decide) (fun c_1 => ?_) (fun c_1 => ?_)
  · replace q := if_t c_1 q
    refine lv_aload_n hx hb dX8_hasEntries_83 rfl (lv_at hl 0 rfl) ?_
    refine lv_aload_n hx hb dX8_hasEntries_84 rfl (lv_at hl 1 rfl) ?_
    refine lv_iload_n hx hb dX8_hasEntries_85 rfl (lv_at hl 3 rfl) ?_
    refine lv_aload_n hx hb dX8_hasEntries_86 rfl (lv_at hl 1 rfl) ?_
    refine x_getI hx hb hown hX M (k := 7) okX7 ra1 (by decide) rfl kw_203 dX8_hasEntries_87 ?_
    refine lv_aload_n hx hb dX8_hasEntries_90 rfl (lv_at hl 1 rfl) ?_
    refine x_getI hx hb hown hX M (k := 3) okX7 ra1 (by decide) rfl kw_190 dX8_hasEntries_91 ?_
    refine lv_iadd hx hb dX8_hasEntries_94 ?_
    refine lv_aload_n hx hb dX8_hasEntries_95 rfl (lv_at hl 1 rfl) ?_
    refine x_getI hx hb hown hX M (k := 6) okX7 ra1 (by decide) rfl kw_200 dX8_hasEntries_96 ?_
    replace q := c2_s q
    obtain ⟨x_3, g_2, qc, q⟩ := q
    refine x_callV hx hb hml hl.1 hown hX M (S1 := S) (As := [.ref a1, .int x3, .int ((rdI g a1 7) + (rdI g a1 3)), .int (rdI g a1 6)]) (rest := []) okX8 ra0 rfl kw_854 kw_10 mok_X8_climb (c_X8_climb ra0 ra1 qc (Nat.le_refl 5)) kw_852 rfl rfl dX8_hasEntries_99 (Nat.le_of_ble_eq_true rfl) ⟨Nat.le_trans (by decide) hRf, Nat.le_trans (by decide) hRl⟩ (Nat.zero_le _) (Nat.zero_le _) (fun H locs M hEF => ?_)
    refine lv_pop hx hb dX8_hasEntries_102 rfl ?_
    refine lv_aload_n hx hb dX8_hasEntries_103 rfl (lv_at hl 0 rfl) ?_
    replace q := nn_s q
    obtain ⟨a_4, e_a_4, q⟩ := q
    refine x_getR hx hb hown hX M e_a_4 okX8 ra0 (by decide) rfl kw_147 dX8_hasEntries_104 (fun ra_4 => ?_)
    refine lv_aload_n hx hb dX8_hasEntries_107 rfl (lv_at hl 0 rfl) ?_
    replace q := nn_s q
    obtain ⟨a_5, e_a_5, q⟩ := q
    refine x_getR hx hb hown hX M e_a_5 okX8 ra0 (by decide) rfl kw_148 dX8_hasEntries_108 (fun ra_5 => ?_)
    replace q := c2_s q
    obtain ⟨u_7, g_6, qc, q⟩ := q
    refine x_callV hx hb hml hl.1 hown hX M (S1 := S) (As := [.ref a_5]) (rest := []) okX9 ra_4 rfl kw_678 kw_679 mok_X9_writeTop (c_X9_writeTop ra_4 ra_5 qc (Nat.le_refl 4)) kw_677 rfl rfl dX8_hasEntries_111 (Nat.le_of_ble_eq_true rfl) ⟨Nat.le_trans (by decide) hRf, Nat.le_trans (by decide) hRl⟩ (Nat.zero_le _) (Nat.zero_le _) (fun H locs M hEF => ?_)
    refine lv_aload_n hx hb dX8_hasEntries_114 rfl (lv_at hl 0 rfl) ?_
    replace q := nn_s q
    obtain ⟨a_8, e_a_8, q⟩ := q
    refine x_getR hx hb hown hX M e_a_8 okX8 ra0 (by decide) rfl kw_148 dX8_hasEntries_115 (fun ra_8 => ?_)
    refine lv_aload_n hx hb dX8_hasEntries_118 rfl (lv_at hl 2 rfl) ?_
    replace q := nn_s q
    obtain ⟨a_9, e_a_9, q⟩ := q
    refine x_getR hx hb hown hX M e_a_9 okX0 ra2 (by decide) rfl kw_249 dX8_hasEntries_119 (fun ra_9 => ?_)
    replace q := c2_s q
    obtain ⟨x_11, g_10, qc, q⟩ := q
    refine x_callSN hx hb hml hl.1 hown hX M (S1 := S) (As := [.ref a_8, .ref a_9]) (rest := []) kw_860 mok_X11_isSameSum (c_X11_isSameSum ra_8 ra_9 qc (Nat.le_refl 1)) kw_859 rfl rfl dX8_hasEntries_122 (Nat.le_of_ble_eq_true rfl) ⟨Nat.le_trans (by decide) hRf, Nat.le_trans (by decide) hRl⟩ (Nat.zero_le _) (Nat.zero_le _) (fun H locs M hEF => ?_)
    replace q := ck_s q
    obtain ⟨hz, q⟩ := q
    cases q
    exact x_zret hx hb hr hlk (zb_nar hz) M Ext.rf dX8_hasEntries_125
  · replace q := if_f c_1 q
    refine lv_aload_n hx hb dX8_hasEntries_31 rfl (lv_at hl 0 rfl) ?_
    replace q := nn_s q
    obtain ⟨a_12, e_a_12, q⟩ := q
    refine x_getR hx hb hown hX M e_a_12 okX8 ra0 (by decide) rfl kw_145 dX8_hasEntries_32 (fun ra_12 => ?_)
    refine lv_aload_n hx hb dX8_hasEntries_35 rfl (lv_at hl 1 rfl) ?_
    replace q := nn_s q
    obtain ⟨a_13, e_a_13, q⟩ := q
    refine x_getR hx hb hown hX M e_a_13 okX7 ra1 (by decide) rfl kw_181 dX8_hasEntries_36 (fun ra_13 => ?_)
    refine lv_iload hx hb dX8_hasEntries_39 (lv_at hl 4 rfl) ?_
    replace q := ck_s q
    obtain ⟨hin, q⟩ := q
    refine x_iald hx hb hX M ra_13 (inb_in hin) dX8_hasEntries_41 ?_
    refine lv_aload_n hx hb dX8_hasEntries_42 rfl (lv_at hl 1 rfl) ?_
    replace q := nn_s q
    obtain ⟨a_14, e_a_14, q⟩ := q
    refine x_getR hx hb hown hX M e_a_14 okX7 ra1 (by decide) rfl kw_184 dX8_hasEntries_43 (fun ra_14 => ?_)
    refine lv_iload hx hb dX8_hasEntries_46 (lv_at hl 4 rfl) ?_
    replace q := ck_s q
    obtain ⟨hin, q⟩ := q
    refine x_lald hx hb hX M ra_14 (inb_in hin) dX8_hasEntries_48 ?_
    refine lv_aload_n hx hb dX8_hasEntries_49 rfl (lv_at hl 0 rfl) ?_
    replace q := nn_s q
    obtain ⟨a_15, e_a_15, q⟩ := q
    refine x_getR hx hb hown hX M e_a_15 okX8 ra0 (by decide) rfl kw_148 dX8_hasEntries_50 (fun ra_15 => ?_)
    refine lv_iconst (v := 0) hx hb dX8_hasEntries_53 (by decide) ?_
    replace q := c2_s q
    obtain ⟨u_17, g_16, qc, q⟩ := q
    refine x_callV hx hb hml hl.1 hown hX M (S1 := S) (As := [.int (rdI g a_13 x4.toNatClampNeg), .long (rdL g a_14 x4.toNatClampNeg), .ref a_15, .int (0 : Int32)]) (rest := []) okX6 ra_12 rfl kw_532 kw_533 mok_X6_sumOfEntry (c_X6_sumOfEntry ra_12 ra_15 qc (Nat.le_refl 3)) kw_858 rfl rfl dX8_hasEntries_54 (Nat.le_of_ble_eq_true rfl) ⟨Nat.le_trans (by decide) hRf, Nat.le_trans (by decide) hRl⟩ (Nat.zero_le _) (Nat.zero_le _) (fun H locs M hEF => ?_)
    refine lv_aload_n hx hb dX8_hasEntries_57 rfl (lv_at hl 0 rfl) ?_
    replace q := nn_s q
    obtain ⟨a_18, e_a_18, q⟩ := q
    refine x_getR hx hb hown hX M e_a_18 okX8 ra0 (by decide) rfl kw_147 dX8_hasEntries_58 (fun ra_18 => ?_)
    refine lv_aload_n hx hb dX8_hasEntries_61 rfl (lv_at hl 1 rfl) ?_
    refine x_getI hx hb hown hX M (k := 7) okX7 ra1 (by decide) rfl kw_203 dX8_hasEntries_62 ?_
    refine lv_iload hx hb dX8_hasEntries_65 (lv_at hl 4 rfl) ?_
    refine lv_iadd hx hb dX8_hasEntries_67 ?_
    refine lv_iconst (v := 1) hx hb dX8_hasEntries_68 (by decide) ?_
    refine lv_aload_n hx hb dX8_hasEntries_69 rfl (lv_at hl 0 rfl) ?_
    replace q := nn_s q
    obtain ⟨a_19, e_a_19, q⟩ := q
    refine x_getR hx hb hown hX M e_a_19 okX8 ra0 (by decide) rfl kw_148 dX8_hasEntries_70 (fun ra_19 => ?_)
    refine lv_iconst (v := 0) hx hb dX8_hasEntries_73 (by decide) ?_
    replace q := c2_s q
    obtain ⟨u_21, g_20, qc, q⟩ := q
    refine x_callV hx hb hml hl.1 hown hX M (S1 := S) (As := [.int ((rdI g_16 a1 7) + x4), .int (1 : Int32), .ref a_19, .int (0 : Int32)]) (rest := []) okX9 ra_18 rfl kw_665 kw_666 mok_X9_put (c_X9_put ra_18 ra_19 qc (Nat.le_refl 4)) kw_857 rfl rfl dX8_hasEntries_74 (Nat.le_of_ble_eq_true rfl) ⟨Nat.le_trans (by decide) hRf, Nat.le_trans (by decide) hRl⟩ (Nat.zero_le _) (Nat.zero_le _) (fun H locs M hEF => ?_)
    obtain ⟨x_22, e_x_22⟩ : ∃ y : Int32, y = x4 + 1 := ⟨_, rfl⟩
    replace q := nm_s q e_x_22
    refine lv_iinc (v := x_22) (lv' := [(4, .int x_22), (0, .ref a0), (1, .ref a1), (2, .ref a2), (3, .int x3)]) hx hb dX8_hasEntries_77 hl (k := 4) rfl (by rw [e_x_22]; rfl) (by decide) rfl (fun ls hl => ?_)
    refine lv_goto (tgt := 22) hx hb dX8_hasEntries_80 (by decide) ?_
    exact hk22 _ _ _ _ _ _ _ _ _ M ra0 ra1 ra2 (lv_sub hl [1, 2, 3, 4, 0] rfl) q
set_option maxRecDepth 100000 in
theorem l_X8_hasEntries_22 (hx : p.tables.exec = Jvm.exec) (hb : c.code = cX8_hasEntries) (hml : c.maxLocals = 5) (hr : meth.sig.returnType = (some .boolean)) (hlk : meth.locks = false) (hown : s.vm.findClass RX8 = some m.cls) (hX : Kx D cA lo tS s) (hRf : 6 ≤ R.frames) (hRl : 360 ≤ R.locals) {N : Nat} {rv : Int32} {g1 : Hg} {S : Hs} : ∀ (n : Nat), ∀ (H : Heap) (locs : List Loc) (ls : Array Slot) (g : Hg) (a0 : Nat) (a1 : Nat) (a2 : Nat) (x3 : Int32) (x4 : Int32), Mm D cA lo S g s H locs → Rf lo S a0 8 → Rf lo S a1 7 → Rf lo S a2 0 → lv_has ls 5 [(0, .ref a0), (1, .ref a1), (2, .ref a2), (3, .int x3), (4, .int x4)] → n_X8_hasEntries_22 N S n g a0 a1 a2 x3 x4 = some (rv, g1) → W p l e R s m args below meth c H locs 0 0 (MQ below (Qcx D cA lo S (some (.int rv)) S g1 True) args s 0 0 (fun q : Nat => lo ≤ q)) (F0 m 22 ls []) := by
  intro n
  induction n with
  | zero =>
    intro H locs ls g a0 a1 a2 x3 x4 M ra0 ra1 ra2 hl q
    exact absurd q (by simp [n_X8_hasEntries_22])
  | succ n ih => exact w_X8_hasEntries_22 hx hb hml hr hlk hown hX hRf hRl (N := N)  ih
set_option maxHeartbeats 4000000 in
set_option maxRecDepth 100000 in
theorem w_X8_hasEntries_0 (hx : p.tables.exec = Jvm.exec) (hb : c.code = cX8_hasEntries) (hml : c.maxLocals = 5) (hr : meth.sig.returnType = (some .boolean)) (hlk : meth.locks = false) (hown : s.vm.findClass RX8 = some m.cls) (hX : Kx D cA lo tS s) (hRf : 6 ≤ R.frames) (hRl : 360 ≤ R.locals) {N : Nat} {rv : Int32} {g1 : Hg} {S : Hs} : ∀ (H : Heap) (locs : List Loc) (ls : Array Slot) (g : Hg) (a0 : Nat) (a1 : Nat) (a2 : Nat), Mm D cA lo S g s H locs → Rf lo S a0 8 → Rf lo S a1 7 → Rf lo S a2 0 → lv_has ls 5 [(0, .ref a0), (1, .ref a1), (2, .ref a2)] → b_X8_hasEntries_0 N S g a0 a1 a2 = some (rv, g1) → W p l e R s m args below meth c H locs 0 0 (MQ below (Qcx D cA lo S (some (.int rv)) S g1 True) args s 0 0 (fun q : Nat => lo ≤ q)) (F0 m 0 ls []) := by
  intro H locs ls g a0 a1 a2 M ra0 ra1 ra2 hl q
  unfold b_X8_hasEntries_0 at q
  refine lv_aload_n hx hb dX8_hasEntries_0 rfl (lv_at hl 0 rfl) ?_
  replace q := nn_s q
  obtain ⟨a_1, e_a_1, q⟩ := q
  refine x_getR hx hb hown hX M e_a_1 okX8 ra0 (by decide) rfl kw_147 dX8_hasEntries_1 (fun ra_1 => ?_)
  replace q := c2_s q
  obtain ⟨u_3, g_2, qc, q⟩ := q
  refine x_callV hx hb hml hl.1 hown hX M (S1 := S) (As := []) (rest := []) okX9 ra_1 rfl kw_654 kw_655 mok_X9_clear (c_X9_clear ra_1 qc (Nat.le_refl 1)) kw_653 rfl rfl dX8_hasEntries_4 (Nat.le_of_ble_eq_true rfl) ⟨Nat.le_trans (by decide) hRf, Nat.le_trans (by decide) hRl⟩ (Nat.zero_le _) (Nat.zero_le _) (fun H locs M hEF => ?_)
  refine lv_aload_n hx hb dX8_hasEntries_7 rfl (lv_at hl 0 rfl) ?_
  refine lv_aload_n hx hb dX8_hasEntries_8 rfl (lv_at hl 1 rfl) ?_
  refine lv_iconst (v := 0) hx hb dX8_hasEntries_9 (by decide) ?_
  refine lv_iconst (v := 0) hx hb dX8_hasEntries_10 (by decide) ?_
  refine lv_aload_n hx hb dX8_hasEntries_11 rfl (lv_at hl 1 rfl) ?_
  refine x_getI hx hb hown hX M (k := 7) okX7 ra1 (by decide) rfl kw_203 dX8_hasEntries_12 ?_
  replace q := c2_s q
  obtain ⟨x_5, g_4, qc, q⟩ := q
  refine x_callV hx hb hml hl.1 hown hX M (S1 := S) (As := [.ref a1, .int (0 : Int32), .int (0 : Int32), .int (rdI g_2 a1 7)]) (rest := []) okX8 ra0 rfl kw_854 kw_10 mok_X8_climb (c_X8_climb ra0 ra1 qc (Nat.le_refl 5)) kw_852 rfl rfl dX8_hasEntries_15 (Nat.le_of_ble_eq_true rfl) ⟨Nat.le_trans (by decide) hRf, Nat.le_trans (by decide) hRl⟩ (Nat.zero_le _) (Nat.zero_le _) (fun H locs M hEF => ?_)
  refine lv_istore_n (lv' := [(3, .int x_5), (0, .ref a0), (1, .ref a1), (2, .ref a2)]) hx hb dX8_hasEntries_18 rfl hl (by decide) rfl (fun ls hl => ?_)
  refine lv_iconst (v := 0) hx hb dX8_hasEntries_19 (by decide) ?_
  refine lv_istore (lv' := [(4, .int (0 : Int32)), (3, .int x_5), (0, .ref a0), (1, .ref a1), (2, .ref a2)]) hx hb dX8_hasEntries_20 hl (by decide) rfl (fun ls hl => ?_)
  exact l_X8_hasEntries_22 hx hb hml hr hlk hown hX hRf hRl (N := N)  N _ _ _ _ _ _ _ _ _ M ra0 ra1 ra2 (lv_sub hl [2, 3, 4, 1, 0] rfl) q
set_option maxRecDepth 100000 in
theorem c_X8_hasEntries {l : Launch} {D : va_G} {cA : Nat → ClassId} {lo tS N : Nat} {S : Hs} {g g1 : Hg} {rv : Int32} {a0 : Nat} {a1 : Nat} {a2 : Nat} (ra0 : Rf lo S a0 8) (ra1 : Rf lo S a1 7) (ra2 : Rf lo S a2 0) (q : f_X8_hasEntries N S g a0 a1 a2 = some (rv, g1)) {d : Nat} (hd : 6 ≤ d) : Ctr l yX8_hasEntries cX8_hasEntries 5 (some .boolean) D cA lo tS [.ref a0, .ref a1, .ref a2] S g d (some (.int rv)) S g1 True 0 0 := by
  refine x_met (by decide) (Nat.le_of_ble_eq_true rfl) ?_
  intro p e s m below meth c ls hx hb hml hr hlk hown hnm hX M hl
  exact w_X8_hasEntries_0 hx hb hml hr hlk hown hX hd (Nat.mul_le_mul_left 60 hd) (N := N) _ _ _ _ _ _ _ M ra0 ra1 ra2 (lv_sub hl [0, 1, 2] rfl) q
def b_X8_leadsTo_60 (N : Nat) (S : Hs) (k60 : Hg → Nat → Nat → Nat → Int32 → Option (Int32 × Hg)) (g : Hg) (a0 : Nat) (a1 : Nat) (a3 : Nat) (x4 : Int32) : Option (Int32 × Hg) :=
if x4 < 0 then (
nn (rdR g a0 3) (fun a_2 =>
nn (rdR g a3 1) (fun a_3 =>
c2 (f_X11_isSameSum N S g a_2 a_3) (fun x_5 g_4 =>
ck (zb x_5) (
some (x_5, g_4)))))) else (
nn (rdR g a0 4) (fun a_6 =>
c2 (f_X11_bitOfWay N S g a_6 (0 : Int32) x4) (fun x_8 g_7 =>
if x_8 = 0 then (
nn (rdR g_7 a0 0) (fun a_17 =>
nn (rdR g_7 a0 3) (fun a_18 =>
nn (rdR g_7 a1 2) (fun a_19 =>
nn (rdR g_7 a0 3) (fun a_20 =>
c2 (f_X6_join N S g_7 a_17 a_18 (0 : Int32) a_19 x4 a_20 (0 : Int32)) (fun u_22 g_21 =>
nm (x4 + (-1)) (fun x_23 =>
k60 g_21 a0 a1 a3 x_23))))))) else (
nn (rdR g_7 a0 0) (fun a_10 =>
nn (rdR g_7 a1 2) (fun a_11 =>
nn (rdR g_7 a0 3) (fun a_12 =>
nn (rdR g_7 a0 3) (fun a_13 =>
c2 (f_X6_join N S g_7 a_10 a_11 x4 a_12 (0 : Int32) a_13 (0 : Int32)) (fun u_15 g_14 =>
nm (x4 + (-1)) (fun x_16 =>
k60 g_14 a0 a1 a3 x_16))))))))))
def n_X8_leadsTo_60 (N : Nat) (S : Hs) : Nat → Hg → Nat → Nat → Nat → Int32 → Option (Int32 × Hg)
  | 0 => fun _ _ _ _ _ => none
  | n + 1 => fun g a0 a1 a3 x4 => b_X8_leadsTo_60 N S (n_X8_leadsTo_60 N S n) g a0 a1 a3 x4
def b_X8_leadsTo_36 (N : Nat) (S : Hs) (g : Hg) (a0 : Nat) (a1 : Nat) (a3 : Nat) : Option (Int32 × Hg) :=
nn (rdR g a0 0) (fun a_1 =>
nn (rdR g a0 4) (fun a_2 =>
c2 (f_X6_wayOf N S g a_1 (rdI g a1 9) a_2 (0 : Int32)) (fun u_4 g_3 =>
nm ((rdI g_3 a1 4) - (1 : Int32)) (fun x_5 =>
n_X8_leadsTo_60 N S N g_3 a0 a1 a3 x_5))))
def b_X8_leadsTo_0 (N : Nat) (S : Hs) (g : Hg) (a0 : Nat) (a1 : Nat) (x2 : Int32) (a3 : Nat) : Option (Int32 × Hg) :=
if (rdI g a1 10) = (-1 : Int32) then (
nn (rdR g a0 3) (fun a_6 =>
c2 (f_X11_setNought N S g a_6 (0 : Int32)) (fun u_8 g_7 =>
b_X8_leadsTo_36 N S g_7 a0 a1 a3))) else (
nn (rdR g a0 0) (fun a_2 =>
nn (rdR g a0 3) (fun a_3 =>
c2 (f_X6_sumOfLeaf N S g a_2 x2 (rdI g a1 10) a_3 (0 : Int32)) (fun u_5 g_4 =>
b_X8_leadsTo_36 N S g_4 a0 a1 a3))))
def f_X8_leadsTo (N : Nat) (S : Hs) (g : Hg) (a0 : Nat) (a1 : Nat) (x2 : Int32) (a3 : Nat) : Option (Int32 × Hg) := b_X8_leadsTo_0 N S g a0 a1 x2 a3
set_option maxHeartbeats 4000000 in
set_option maxRecDepth 100000 in
theorem w_X8_leadsTo_60 (hx : p.tables.exec = Jvm.exec) (hb : c.code = cX8_leadsTo) (hml : c.maxLocals = 5) (hr : meth.sig.returnType = (some .boolean)) (hlk : meth.locks = false) (hown : s.vm.findClass RX8 = some m.cls) (hX : Kx D cA lo tS s) (hRf : 4 ≤ R.frames) (hRl : 240 ≤ R.locals) {N : Nat} {rv : Int32} {g1 : Hg} {S : Hs} {k60 : Hg → Nat → Nat → Nat → Int32 → Option (Int32 × Hg)} (hk60 : ∀ (H : Heap) (locs : List Loc) (ls : Array Slot) (g : Hg) (a0 : Nat) (a1 : Nat) (a3 : Nat) (x4 : Int32), Mm D cA lo S g s H locs → Rf lo S a0 8 → Rf lo S a1 7 → Rf lo S a3 0 → lv_has ls 5 [(0, .ref a0), (1, .ref a1), (3, .ref a3), (4, .int x4)] → k60 g a0 a1 a3 x4 = some (rv, g1) → W p l e R s m args below meth c H locs 0 0 (MQ below (Qcx D cA lo S (some (.int rv)) S g1 True) args s 0 0 (fun q : Nat => lo ≤ q)) (F0 m 60 ls [])) : ∀ (H : Heap) (locs : List Loc) (ls : Array Slot) (g : Hg) (a0 : Nat) (a1 : Nat) (a3 : Nat) (x4 : Int32), Mm D cA lo S g s H locs → Rf lo S a0 8 → Rf lo S a1 7 → Rf lo S a3 0 → lv_has ls 5 [(0, .ref a0), (1, .ref a1), (3, .ref a3), (4, .int x4)] → b_X8_leadsTo_60 N S k60 g a0 a1 a3 x4 = some (rv, g1) → W p l e R s m args below meth c H locs 0 0 (MQ below (Qcx D cA lo S (some (.int rv)) S g1 True) args s 0 0 (fun q : Nat => lo ≤ q)) (F0 m 60 ls []) := by
  intro H locs ls g a0 a1 a3 x4 M ra0 ra1 ra3 hl q
  unfold b_X8_leadsTo_60 at q
  refine lv_iload hx hb dX8_leadsTo_60 (lv_at hl 3 rfl) ?_
  refine lv_if_lt (tgt := 133) hx hb dX8_leadsTo_62 (by decide) (fun c_1 => ?_) (fun c_1 => ?_)
  · replace q := if_t c_1 q
    refine lv_aload_n hx hb dX8_leadsTo_133 rfl (lv_at hl 0 rfl) ?_
    replace q := nn_s q
    obtain ⟨a_2, e_a_2, q⟩ := q
    refine x_getR hx hb hown hX M e_a_2 okX8 ra0 (by decide) rfl kw_148 dX8_leadsTo_134 (fun ra_2 => ?_)
    refine lv_aload_n hx hb dX8_leadsTo_137 rfl (lv_at hl 2 rfl) ?_
    replace q := nn_s q
    obtain ⟨a_3, e_a_3, q⟩ := q
    refine x_getR hx hb hown hX M e_a_3 okX0 ra3 (by decide) rfl kw_253 dX8_leadsTo_138 (fun ra_3 => ?_)
    replace q := c2_s q
    obtain ⟨x_5, g_4, qc, q⟩ := q
    refine x_callSN hx hb hml hl.1 hown hX M (S1 := S) (As := [.ref a_2, .ref a_3]) (rest := []) kw_860 mok_X11_isSameSum (c_X11_isSameSum ra_2 ra_3 qc (Nat.le_refl 1)) kw_859 rfl rfl dX8_leadsTo_141 (Nat.le_of_ble_eq_true rfl) ⟨Nat.le_trans (by decide) hRf, Nat.le_trans (by decide) hRl⟩ (Nat.zero_le _) (Nat.zero_le _) (fun H locs M hEF => ?_)
    replace q := ck_s q
    obtain ⟨hz, q⟩ := q
    cases q
    exact x_zret hx hb hr hlk (zb_nar hz) M Ext.rf dX8_leadsTo_144
  · replace q := if_f c_1 q
    refine lv_aload_n hx hb dX8_leadsTo_65 rfl (lv_at hl 0 rfl) ?_
    replace q := nn_s q
    obtain ⟨a_6, e_a_6, q⟩ := q
    refine x_getR hx hb hown hX M e_a_6 okX8 ra0 (by decide) rfl kw_149 dX8_leadsTo_66 (fun ra_6 => ?_)
    refine lv_iconst (v := 0) hx hb dX8_leadsTo_69 (by decide) ?_
    refine lv_iload hx hb dX8_leadsTo_70 (lv_at hl 3 rfl) ?_
    replace q := c2_s q
    obtain ⟨x_8, g_7, qc, q⟩ := q
    refine x_callSN hx hb hml hl.1 hown hX M (S1 := S) (As := [.ref a_6, .int (0 : Int32), .int x4]) (rest := []) kw_711 mok_X11_bitOfWay (c_X11_bitOfWay ra_6 qc (Nat.le_refl 1)) kw_869 rfl rfl dX8_leadsTo_72 (Nat.le_of_ble_eq_true rfl) ⟨Nat.le_trans (by decide) hRf, Nat.le_trans (by decide) hRl⟩ (Nat.zero_le _) (Nat.zero_le _) (fun H locs M hEF => ?_)
    refine lv_if_ne (tgt := 104) hx hb dX8_leadsTo_75 (by decide) (fun c_9 => ?_) (fun c_9 => ?_)
    · replace q := if_f c_9 q
      refine lv_aload_n hx hb dX8_leadsTo_104 rfl (lv_at hl 0 rfl) ?_
      replace q := nn_s q
      obtain ⟨a_10, e_a_10, q⟩ := q
      refine x_getR hx hb hown hX M e_a_10 okX8 ra0 (by decide) rfl kw_145 dX8_leadsTo_105 (fun ra_10 => ?_)
      refine lv_aload_n hx hb dX8_leadsTo_108 rfl (lv_at hl 1 rfl) ?_
      replace q := nn_s q
      obtain ⟨a_11, e_a_11, q⟩ := q
      refine x_getR hx hb hown hX M e_a_11 okX7 ra1 (by decide) rfl kw_187 dX8_leadsTo_109 (fun ra_11 => ?_)
      refine lv_iload hx hb dX8_leadsTo_112 (lv_at hl 3 rfl) ?_
      refine lv_aload_n hx hb dX8_leadsTo_114 rfl (lv_at hl 0 rfl) ?_
      replace q := nn_s q
      obtain ⟨a_12, e_a_12, q⟩ := q
      refine x_getR hx hb hown hX M e_a_12 okX8 ra0 (by decide) rfl kw_148 dX8_leadsTo_115 (fun ra_12 => ?_)
      refine lv_iconst (v := 0) hx hb dX8_leadsTo_118 (by decide) ?_
      refine lv_aload_n hx hb dX8_leadsTo_119 rfl (lv_at hl 0 rfl) ?_
      replace q := nn_s q
      obtain ⟨a_13, e_a_13, q⟩ := q
      refine x_getR hx hb hown hX M e_a_13 okX8 ra0 (by decide) rfl kw_148 dX8_leadsTo_120 (fun ra_13 => ?_)
      refine lv_iconst (v := 0) hx hb dX8_leadsTo_123 (by decide) ?_
      replace q := c2_s q
      obtain ⟨u_15, g_14, qc, q⟩ := q
      refine x_callV hx hb hml hl.1 hown hX M (S1 := S) (As := [.ref a_11, .int x4, .ref a_12, .int (0 : Int32), .ref a_13, .int (0 : Int32)]) (rest := []) okX6 ra_10 rfl kw_542 kw_543 mok_X6_join (c_X6_join ra_10 ra_11 ra_12 ra_13 qc (Nat.le_refl 3)) kw_870 rfl rfl dX8_leadsTo_124 (Nat.le_of_ble_eq_true rfl) ⟨Nat.le_trans (by decide) hRf, Nat.le_trans (by decide) hRl⟩ (Nat.zero_le _) (Nat.zero_le _) (fun H locs M hEF => ?_)
      obtain ⟨x_16, e_x_16⟩ : ∃ y : Int32, y = x4 + (-1) := ⟨_, rfl⟩
      replace q := nm_s q e_x_16
      refine lv_iinc (v := x_16) (lv' := [(4, .int x_16), (0, .ref a0), (1, .ref a1), (3, .ref a3)]) hx hb dX8_leadsTo_127 hl (k := 3) rfl (by rw [e_x_16]; rfl) (by decide) rfl (fun ls hl => ?_)
      refine lv_goto (tgt := 60) hx hb dX8_leadsTo_130 (by decide) ?_
      exact hk60 _ _ _ _ _ _ _ _ M ra0 ra1 ra3 (lv_sub hl [1, 2, 3, 0] rfl) q
    · replace q := if_t c_9 q
      refine lv_aload_n hx hb dX8_leadsTo_78 rfl (lv_at hl 0 rfl) ?_
      replace q := nn_s q
      obtain ⟨a_17, e_a_17, q⟩ := q
      refine x_getR hx hb hown hX M e_a_17 okX8 ra0 (by decide) rfl kw_145 dX8_leadsTo_79 (fun ra_17 => ?_)
      refine lv_aload_n hx hb dX8_leadsTo_82 rfl (lv_at hl 0 rfl) ?_
      replace q := nn_s q
      obtain ⟨a_18, e_a_18, q⟩ := q
      refine x_getR hx hb hown hX M e_a_18 okX8 ra0 (by decide) rfl kw_148 dX8_leadsTo_83 (fun ra_18 => ?_)
      refine lv_iconst (v := 0) hx hb dX8_leadsTo_86 (by decide) ?_
      refine lv_aload_n hx hb dX8_leadsTo_87 rfl (lv_at hl 1 rfl) ?_
      replace q := nn_s q
      obtain ⟨a_19, e_a_19, q⟩ := q
      refine x_getR hx hb hown hX M e_a_19 okX7 ra1 (by decide) rfl kw_187 dX8_leadsTo_88 (fun ra_19 => ?_)
      refine lv_iload hx hb dX8_leadsTo_91 (lv_at hl 3 rfl) ?_
      refine lv_aload_n hx hb dX8_leadsTo_93 rfl (lv_at hl 0 rfl) ?_
      replace q := nn_s q
      obtain ⟨a_20, e_a_20, q⟩ := q
      refine x_getR hx hb hown hX M e_a_20 okX8 ra0 (by decide) rfl kw_148 dX8_leadsTo_94 (fun ra_20 => ?_)
      refine lv_iconst (v := 0) hx hb dX8_leadsTo_97 (by decide) ?_
      replace q := c2_s q
      obtain ⟨u_22, g_21, qc, q⟩ := q
      refine x_callV hx hb hml hl.1 hown hX M (S1 := S) (As := [.ref a_18, .int (0 : Int32), .ref a_19, .int x4, .ref a_20, .int (0 : Int32)]) (rest := []) okX6 ra_17 rfl kw_542 kw_543 mok_X6_join (c_X6_join ra_17 ra_18 ra_19 ra_20 qc (Nat.le_refl 3)) kw_870 rfl rfl dX8_leadsTo_98 (Nat.le_of_ble_eq_true rfl) ⟨Nat.le_trans (by decide) hRf, Nat.le_trans (by decide) hRl⟩ (Nat.zero_le _) (Nat.zero_le _) (fun H locs M hEF => ?_)
      refine lv_goto (tgt := 127) hx hb dX8_leadsTo_101 (by decide) ?_
      obtain ⟨x_23, e_x_23⟩ : ∃ y : Int32, y = x4 + (-1) := ⟨_, rfl⟩
      replace q := nm_s q e_x_23
      refine lv_iinc (v := x_23) (lv' := [(4, .int x_23), (0, .ref a0), (1, .ref a1), (3, .ref a3)]) hx hb dX8_leadsTo_127 hl (k := 3) rfl (by rw [e_x_23]; rfl) (by decide) rfl (fun ls hl => ?_)
      refine lv_goto (tgt := 60) hx hb dX8_leadsTo_130 (by decide) ?_
      exact hk60 _ _ _ _ _ _ _ _ M ra0 ra1 ra3 (lv_sub hl [1, 2, 3, 0] rfl) q
set_option maxRecDepth 100000 in
theorem l_X8_leadsTo_60 (hx : p.tables.exec = Jvm.exec) (hb : c.code = cX8_leadsTo) (hml : c.maxLocals = 5) (hr : meth.sig.returnType = (some .boolean)) (hlk : meth.locks = false) (hown : s.vm.findClass RX8 = some m.cls) (hX : Kx D cA lo tS s) (hRf : 4 ≤ R.frames) (hRl : 240 ≤ R.locals) {N : Nat} {rv : Int32} {g1 : Hg} {S : Hs} : ∀ (n : Nat), ∀ (H : Heap) (locs : List Loc) (ls : Array Slot) (g : Hg) (a0 : Nat) (a1 : Nat) (a3 : Nat) (x4 : Int32), Mm D cA lo S g s H locs → Rf lo S a0 8 → Rf lo S a1 7 → Rf lo S a3 0 → lv_has ls 5 [(0, .ref a0), (1, .ref a1), (3, .ref a3), (4, .int x4)] → n_X8_leadsTo_60 N S n g a0 a1 a3 x4 = some (rv, g1) → W p l e R s m args below meth c H locs 0 0 (MQ below (Qcx D cA lo S (some (.int rv)) S g1 True) args s 0 0 (fun q : Nat => lo ≤ q)) (F0 m 60 ls []) := by
  intro n
  induction n with
  | zero =>
    intro H locs ls g a0 a1 a3 x4 M ra0 ra1 ra3 hl q
    exact absurd q (by simp [n_X8_leadsTo_60])
  | succ n ih => exact w_X8_leadsTo_60 hx hb hml hr hlk hown hX hRf hRl (N := N)  ih
set_option maxHeartbeats 4000000 in
set_option maxRecDepth 100000 in
theorem w_X8_leadsTo_36 (hx : p.tables.exec = Jvm.exec) (hb : c.code = cX8_leadsTo) (hml : c.maxLocals = 5) (hr : meth.sig.returnType = (some .boolean)) (hlk : meth.locks = false) (hown : s.vm.findClass RX8 = some m.cls) (hX : Kx D cA lo tS s) (hRf : 4 ≤ R.frames) (hRl : 240 ≤ R.locals) {N : Nat} {rv : Int32} {g1 : Hg} {S : Hs} : ∀ (H : Heap) (locs : List Loc) (ls : Array Slot) (g : Hg) (a0 : Nat) (a1 : Nat) (a3 : Nat), Mm D cA lo S g s H locs → Rf lo S a0 8 → Rf lo S a1 7 → Rf lo S a3 0 → lv_has ls 5 [(0, .ref a0), (1, .ref a1), (3, .ref a3)] → b_X8_leadsTo_36 N S g a0 a1 a3 = some (rv, g1) → W p l e R s m args below meth c H locs 0 0 (MQ below (Qcx D cA lo S (some (.int rv)) S g1 True) args s 0 0 (fun q : Nat => lo ≤ q)) (F0 m 36 ls []) := by
  intro H locs ls g a0 a1 a3 M ra0 ra1 ra3 hl q
  unfold b_X8_leadsTo_36 at q
  refine lv_aload_n hx hb dX8_leadsTo_36 rfl (lv_at hl 0 rfl) ?_
  replace q := nn_s q
  obtain ⟨a_1, e_a_1, q⟩ := q
  refine x_getR hx hb hown hX M e_a_1 okX8 ra0 (by decide) rfl kw_145 dX8_leadsTo_37 (fun ra_1 => ?_)
  refine lv_aload_n hx hb dX8_leadsTo_40 rfl (lv_at hl 1 rfl) ?_
  refine x_getI hx hb hown hX M (k := 9) okX7 ra1 (by decide) rfl kw_209 dX8_leadsTo_41 ?_
  refine lv_aload_n hx hb dX8_leadsTo_44 rfl (lv_at hl 0 rfl) ?_
  replace q := nn_s q
  obtain ⟨a_2, e_a_2, q⟩ := q
  refine x_getR hx hb hown hX M e_a_2 okX8 ra0 (by decide) rfl kw_149 dX8_leadsTo_45 (fun ra_2 => ?_)
  refine lv_iconst (v := 0) hx hb dX8_leadsTo_48 (by decide) ?_
  replace q := c2_s q
  obtain ⟨u_4, g_3, qc, q⟩ := q
  refine x_callV hx hb hml hl.1 hown hX M (S1 := S) (As := [.int (rdI g a1 9), .ref a_2, .int (0 : Int32)]) (rest := []) okX6 ra_1 rfl kw_511 kw_512 mok_X6_wayOf (c_X6_wayOf ra_1 ra_2 qc (Nat.le_refl 3)) kw_868 rfl rfl dX8_leadsTo_49 (Nat.le_of_ble_eq_true rfl) ⟨Nat.le_trans (by decide) hRf, Nat.le_trans (by decide) hRl⟩ (Nat.zero_le _) (Nat.zero_le _) (fun H locs M hEF => ?_)
  refine lv_aload_n hx hb dX8_leadsTo_52 rfl (lv_at hl 1 rfl) ?_
  refine x_getI hx hb hown hX M (k := 4) okX7 ra1 (by decide) rfl kw_193 dX8_leadsTo_53 ?_
  refine lv_iconst (v := 1) hx hb dX8_leadsTo_56 (by decide) ?_
  refine lv_isub hx hb dX8_leadsTo_57 ?_
  refine lv_topi (fun x_5 e_x_5 => ?_)
  replace q := nm_s q e_x_5
  refine lv_istore (lv' := [(4, .int x_5), (0, .ref a0), (1, .ref a1), (3, .ref a3)]) hx hb dX8_leadsTo_58 hl (by decide) rfl (fun ls hl => ?_)
  exact l_X8_leadsTo_60 hx hb hml hr hlk hown hX hRf hRl (N := N)  N _ _ _ _ _ _ _ _ M ra0 ra1 ra3 (lv_sub hl [1, 2, 3, 0] rfl) q
set_option maxHeartbeats 4000000 in
set_option maxRecDepth 100000 in
theorem w_X8_leadsTo_0 (hx : p.tables.exec = Jvm.exec) (hb : c.code = cX8_leadsTo) (hml : c.maxLocals = 5) (hr : meth.sig.returnType = (some .boolean)) (hlk : meth.locks = false) (hown : s.vm.findClass RX8 = some m.cls) (hX : Kx D cA lo tS s) (hRf : 4 ≤ R.frames) (hRl : 240 ≤ R.locals) {N : Nat} {rv : Int32} {g1 : Hg} {S : Hs} : ∀ (H : Heap) (locs : List Loc) (ls : Array Slot) (g : Hg) (a0 : Nat) (a1 : Nat) (x2 : Int32) (a3 : Nat), Mm D cA lo S g s H locs → Rf lo S a0 8 → Rf lo S a1 7 → Rf lo S a3 0 → lv_has ls 5 [(0, .ref a0), (1, .ref a1), (2, .int x2), (3, .ref a3)] → b_X8_leadsTo_0 N S g a0 a1 x2 a3 = some (rv, g1) → W p l e R s m args below meth c H locs 0 0 (MQ below (Qcx D cA lo S (some (.int rv)) S g1 True) args s 0 0 (fun q : Nat => lo ≤ q)) (F0 m 0 ls []) := by
  intro H locs ls g a0 a1 x2 a3 M ra0 ra1 ra3 hl q
  unfold b_X8_leadsTo_0 at q
  refine lv_aload_n hx hb dX8_leadsTo_0 rfl (lv_at hl 1 rfl) ?_
  refine x_getI hx hb hown hX M (k := 10) okX7 ra1 (by decide) rfl kw_212 dX8_leadsTo_1 ?_
  refine lv_iconst (v := -1) hx hb dX8_leadsTo_4 (by decide) ?_
  refine lv_icmp_ne (tgt := 19) hx hb dX8_leadsTo_5 (by decide) (fun c_1 => ?_) (fun c_1 => ?_)
  · replace q := if_f c_1 q
    refine lv_aload_n hx hb dX8_leadsTo_19 rfl (lv_at hl 0 rfl) ?_
    replace q := nn_s q
    obtain ⟨a_2, e_a_2, q⟩ := q
    refine x_getR hx hb hown hX M e_a_2 okX8 ra0 (by decide) rfl kw_145 dX8_leadsTo_20 (fun ra_2 => ?_)
    refine lv_iload_n hx hb dX8_leadsTo_23 rfl (lv_at hl 2 rfl) ?_
    refine lv_aload_n hx hb dX8_leadsTo_24 rfl (lv_at hl 1 rfl) ?_
    refine x_getI hx hb hown hX M (k := 10) okX7 ra1 (by decide) rfl kw_212 dX8_leadsTo_25 ?_
    refine lv_aload_n hx hb dX8_leadsTo_28 rfl (lv_at hl 0 rfl) ?_
    replace q := nn_s q
    obtain ⟨a_3, e_a_3, q⟩ := q
    refine x_getR hx hb hown hX M e_a_3 okX8 ra0 (by decide) rfl kw_148 dX8_leadsTo_29 (fun ra_3 => ?_)
    refine lv_iconst (v := 0) hx hb dX8_leadsTo_32 (by decide) ?_
    replace q := c2_s q
    obtain ⟨u_5, g_4, qc, q⟩ := q
    refine x_callV hx hb hml hl.1 hown hX M (S1 := S) (As := [.int x2, .int (rdI g a1 10), .ref a_3, .int (0 : Int32)]) (rest := []) okX6 ra_2 rfl kw_702 kw_703 mok_X6_sumOfLeaf (c_X6_sumOfLeaf ra_2 ra_3 qc (Nat.le_refl 3)) kw_867 rfl rfl dX8_leadsTo_33 (Nat.le_of_ble_eq_true rfl) ⟨Nat.le_trans (by decide) hRf, Nat.le_trans (by decide) hRl⟩ (Nat.zero_le _) (Nat.zero_le _) (fun H locs M hEF => ?_)
    exact w_X8_leadsTo_36 hx hb hml hr hlk hown hX hRf hRl (N := N)  _ _ _ _ _ _ _ M ra0 ra1 ra3 (lv_sub hl [0, 1, 3] rfl) q
  · replace q := if_t c_1 q
    refine lv_aload_n hx hb dX8_leadsTo_8 rfl (lv_at hl 0 rfl) ?_
    replace q := nn_s q
    obtain ⟨a_6, e_a_6, q⟩ := q
    refine x_getR hx hb hown hX M e_a_6 okX8 ra0 (by decide) rfl kw_148 dX8_leadsTo_9 (fun ra_6 => ?_)
    refine lv_iconst (v := 0) hx hb dX8_leadsTo_12 (by decide) ?_
    replace q := c2_s q
    obtain ⟨u_8, g_7, qc, q⟩ := q
    refine x_callSN hx hb hml hl.1 hown hX M (S1 := S) (As := [.ref a_6, .int (0 : Int32)]) (rest := []) kw_682 mok_X11_setNought (c_X11_setNought ra_6 qc (Nat.le_refl 3)) kw_866 rfl rfl dX8_leadsTo_13 (Nat.le_of_ble_eq_true rfl) ⟨Nat.le_trans (by decide) hRf, Nat.le_trans (by decide) hRl⟩ (Nat.zero_le _) (Nat.zero_le _) (fun H locs M hEF => ?_)
    refine lv_goto (tgt := 36) hx hb dX8_leadsTo_16 (by decide) ?_
    exact w_X8_leadsTo_36 hx hb hml hr hlk hown hX hRf hRl (N := N)  _ _ _ _ _ _ _ M ra0 ra1 ra3 (lv_sub hl [0, 1, 3] rfl) q
set_option maxRecDepth 100000 in
theorem c_X8_leadsTo {l : Launch} {D : va_G} {cA : Nat → ClassId} {lo tS N : Nat} {S : Hs} {g g1 : Hg} {rv : Int32} {a0 : Nat} {a1 : Nat} {x2 : Int32} {a3 : Nat} (ra0 : Rf lo S a0 8) (ra1 : Rf lo S a1 7) (ra3 : Rf lo S a3 0) (q : f_X8_leadsTo N S g a0 a1 x2 a3 = some (rv, g1)) {d : Nat} (hd : 4 ≤ d) : Ctr l yX8_leadsTo cX8_leadsTo 5 (some .boolean) D cA lo tS [.ref a0, .ref a1, .int x2, .ref a3] S g d (some (.int rv)) S g1 True 0 0 := by
  refine x_met (by decide) (Nat.le_of_ble_eq_true rfl) ?_
  intro p e s m below meth c ls hx hb hml hr hlk hown hnm hX M hl
  exact w_X8_leadsTo_0 hx hb hml hr hlk hown hX hd (Nat.mul_le_mul_left 60 hd) (N := N) _ _ _ _ _ _ _ _ M ra0 ra1 ra3 (lv_sub hl [0, 1, 2, 3] rfl) q
def b_X8_isRight_94 (N : Nat) (S : Hs) (g : Hg) (a0 : Nat) (a1 : Nat) (a2 : Nat) (sx0 : Int32) : Option (Int32 × Hg) :=
if sx0 = 0 then (
c2 (f_X8_leadsTo N S g a0 a1 (rdI g a1 11) a2) (fun x_3 g_2 =>
if x_3 = 0 then (
some ((0 : Int32), g_2)) else (
some ((1 : Int32), g_2)))) else (
some ((0 : Int32), g))
def b_X8_isRight_93 (N : Nat) (S : Hs) (g : Hg) (a0 : Nat) (a1 : Nat) (a2 : Nat) : Option (Int32 × Hg) :=
b_X8_isRight_94 N S g a0 a1 a2 (0 : Int32)
def b_X8_isRight_0 (N : Nat) (S : Hs) (g : Hg) (a0 : Nat) (a1 : Nat) (a2 : Nat) : Option (Int32 × Hg) :=
if (rdI g a2 4) = (rdI g a1 6) then (
nm (rdI g a1 5) (fun x_2 =>
if x_2 = 1 then (
c2 (f_X8_hasEntries N S g a0 a1 a2) (fun x_4 g_3 =>
ck (zb x_4) (
some (x_4, g_3)))) else (
if x_2 = 2 then (
some ((0 : Int32), g)) else (
if x_2 = 3 then (
c2 (f_X8_leadsTo N S g a0 a1 (rdI g a1 9) a2) (fun x_6 g_5 =>
ck (zb x_6) (
some (x_6, g_5)))) else (
if x_2 = 4 then (
if (rdI g a1 10) = (-1 : Int32) then (
b_X8_isRight_93 N S g a0 a1 a2) else (
if (rdI g a1 11) = (rdI g a1 9) then (
b_X8_isRight_94 N S g a0 a1 a2 (1 : Int32)) else (
b_X8_isRight_93 N S g a0 a1 a2))) else (
if x_2 = 5 then (
c2 (f_X8_hasEntries N S g a0 a1 a2) (fun x_10 g_9 =>
ck (zb x_10) (
some (x_10, g_9)))) else (
some ((0 : Int32), g)))))))) else (
some ((0 : Int32), g))
def f_X8_isRight (N : Nat) (S : Hs) (g : Hg) (a0 : Nat) (a1 : Nat) (a2 : Nat) : Option (Int32 × Hg) := b_X8_isRight_0 N S g a0 a1 a2
set_option maxHeartbeats 4000000 in
set_option maxRecDepth 100000 in
theorem w_X8_isRight_94 (hx : p.tables.exec = Jvm.exec) (hb : c.code = cX8_isRight) (hml : c.maxLocals = 4) (hr : meth.sig.returnType = (some .boolean)) (hlk : meth.locks = false) (hown : s.vm.findClass RX8 = some m.cls) (hX : Kx D cA lo tS s) (hRf : 7 ≤ R.frames) (hRl : 420 ≤ R.locals) {N : Nat} {rv : Int32} {g1 : Hg} {S : Hs} : ∀ (H : Heap) (locs : List Loc) (ls : Array Slot) (g : Hg) (a0 : Nat) (a1 : Nat) (a2 : Nat) (sx0 : Int32), Mm D cA lo S g s H locs → Rf lo S a0 8 → Rf lo S a1 7 → Rf lo S a2 0 → lv_has ls 4 [(0, .ref a0), (1, .ref a1), (2, .ref a2)] → b_X8_isRight_94 N S g a0 a1 a2 sx0 = some (rv, g1) → W p l e R s m args below meth c H locs 0 0 (MQ below (Qcx D cA lo S (some (.int rv)) S g1 True) args s 0 0 (fun q : Nat => lo ≤ q)) (F0 m 94 ls [.int sx0]) := by
  intro H locs ls g a0 a1 a2 sx0 M ra0 ra1 ra2 hl q
  unfold b_X8_isRight_94 at q
  refine lv_istore_n (lv' := [(3, .int sx0), (0, .ref a0), (1, .ref a1), (2, .ref a2)]) hx hb dX8_isRight_94 rfl hl (by decide) rfl (fun ls hl => ?_)
  refine lv_iload_n hx hb dX8_isRight_95 rfl (lv_at hl 0 rfl) ?_
  refine lv_if_ne (tgt := 116) hx hb dX8_isRight_96 (by decide) (fun c_1 => ?_) (fun c_1 => ?_)
  · replace q := if_f c_1 q
    refine lv_iconst (v := 0) hx hb dX8_isRight_116 (by decide) ?_
    cases q
    exact x_zret hx hb hr hlk rfl M Ext.rf dX8_isRight_117
  · replace q := if_t c_1 q
    refine lv_aload_n hx hb dX8_isRight_99 rfl (lv_at hl 1 rfl) ?_
    refine lv_aload_n hx hb dX8_isRight_100 rfl (lv_at hl 2 rfl) ?_
    refine lv_aload_n hx hb dX8_isRight_101 rfl (lv_at hl 2 rfl) ?_
    refine x_getI hx hb hown hX M (k := 11) okX7 ra1 (by decide) rfl kw_215 dX8_isRight_102 ?_
    refine lv_aload_n hx hb dX8_isRight_105 rfl (lv_at hl 3 rfl) ?_
    replace q := c2_s q
    obtain ⟨x_3, g_2, qc, q⟩ := q
    refine x_callV hx hb hml hl.1 hown hX M (S1 := S) (As := [.ref a1, .int (rdI g a1 11), .ref a2]) (rest := []) okX8 ra0 rfl kw_864 kw_11 mok_X8_leadsTo (c_X8_leadsTo ra0 ra1 ra2 qc (Nat.le_refl 4)) kw_862 rfl rfl dX8_isRight_106 (Nat.le_of_ble_eq_true rfl) ⟨Nat.le_trans (by decide) hRf, Nat.le_trans (by decide) hRl⟩ (Nat.zero_le _) (Nat.zero_le _) (fun H locs M hEF => ?_)
    refine lv_if_eq (tgt := 116) hx hb dX8_isRight_109 (by decide) (fun c_4 => ?_) (fun c_4 => ?_)
    · replace q := if_t c_4 q
      refine lv_iconst (v := 0) hx hb dX8_isRight_116 (by decide) ?_
      cases q
      exact x_zret hx hb hr hlk rfl M Ext.rf dX8_isRight_117
    · replace q := if_f c_4 q
      refine lv_iconst (v := 1) hx hb dX8_isRight_112 (by decide) ?_
      refine lv_goto (tgt := 117) hx hb dX8_isRight_113 (by decide) ?_
      cases q
      exact x_zret hx hb hr hlk rfl M Ext.rf dX8_isRight_117
set_option maxHeartbeats 4000000 in
set_option maxRecDepth 100000 in
theorem w_X8_isRight_93 (hx : p.tables.exec = Jvm.exec) (hb : c.code = cX8_isRight) (hml : c.maxLocals = 4) (hr : meth.sig.returnType = (some .boolean)) (hlk : meth.locks = false) (hown : s.vm.findClass RX8 = some m.cls) (hX : Kx D cA lo tS s) (hRf : 7 ≤ R.frames) (hRl : 420 ≤ R.locals) {N : Nat} {rv : Int32} {g1 : Hg} {S : Hs} : ∀ (H : Heap) (locs : List Loc) (ls : Array Slot) (g : Hg) (a0 : Nat) (a1 : Nat) (a2 : Nat), Mm D cA lo S g s H locs → Rf lo S a0 8 → Rf lo S a1 7 → Rf lo S a2 0 → lv_has ls 4 [(0, .ref a0), (1, .ref a1), (2, .ref a2)] → b_X8_isRight_93 N S g a0 a1 a2 = some (rv, g1) → W p l e R s m args below meth c H locs 0 0 (MQ below (Qcx D cA lo S (some (.int rv)) S g1 True) args s 0 0 (fun q : Nat => lo ≤ q)) (F0 m 93 ls []) := by
  intro H locs ls g a0 a1 a2 M ra0 ra1 ra2 hl q
  unfold b_X8_isRight_93 at q
  refine lv_iconst (v := 0) hx hb dX8_isRight_93 (by decide) ?_
  exact w_X8_isRight_94 hx hb hml hr hlk hown hX hRf hRl (N := N)  _ _ _ _ _ _ _ _ M ra0 ra1 ra2 (lv_sub hl [0, 1, 2] rfl) q
set_option maxHeartbeats 4000000 in
set_option maxRecDepth 100000 in
theorem w_X8_isRight_0 (hx : p.tables.exec = Jvm.exec) (hb : c.code = cX8_isRight) (hml : c.maxLocals = 4) (hr : meth.sig.returnType = (some .boolean)) (hlk : meth.locks = false) (hown : s.vm.findClass RX8 = some m.cls) (hX : Kx D cA lo tS s) (hRf : 7 ≤ R.frames) (hRl : 420 ≤ R.locals) {N : Nat} {rv : Int32} {g1 : Hg} {S : Hs} : ∀ (H : Heap) (locs : List Loc) (ls : Array Slot) (g : Hg) (a0 : Nat) (a1 : Nat) (a2 : Nat), Mm D cA lo S g s H locs → Rf lo S a0 8 → Rf lo S a1 7 → Rf lo S a2 0 → lv_has ls 4 [(0, .ref a0), (1, .ref a1), (2, .ref a2)] → b_X8_isRight_0 N S g a0 a1 a2 = some (rv, g1) → W p l e R s m args below meth c H locs 0 0 (MQ below (Qcx D cA lo S (some (.int rv)) S g1 True) args s 0 0 (fun q : Nat => lo ≤ q)) (F0 m 0 ls []) := by
  intro H locs ls g a0 a1 a2 M ra0 ra1 ra2 hl q
  unfold b_X8_isRight_0 at q
  refine lv_aload_n hx hb dX8_isRight_0 rfl (lv_at hl 2 rfl) ?_
  refine x_getI hx hb hown hX M (k := 4) okX0 ra2 (by decide) rfl kw_263 dX8_isRight_1 ?_
  refine lv_aload_n hx hb dX8_isRight_4 rfl (lv_at hl 1 rfl) ?_
  refine x_getI hx hb hown hX M (k := 6) okX7 ra1 (by decide) rfl kw_200 dX8_isRight_5 ?_
  refine lv_icmp_eq (tgt := 13) hx hb dX8_isRight_8 (by decide) (fun c_1 => ?_) (fun c_1 => ?_)
  · replace q := if_t c_1 q
    refine lv_aload_n hx hb dX8_isRight_13 rfl (lv_at hl 1 rfl) ?_
    refine x_getI hx hb hown hX M (k := 5) okX7 ra1 (by decide) rfl kw_196 dX8_isRight_14 ?_
    refine lv_topi (fun x_2 e_x_2 => ?_)
    replace q := nm_s q e_x_2
    clear e_x_2
    by_cases cx_2_0 : x_2 = 1
    · replace q := if_t cx_2_0 q
      subst cx_2_0
      refine lv_tableIn (off := 35) (tgt := 52) hx hb dX8_isRight_17 (by decide) (by decide) (by decide) (by decide) ?_
      refine lv_aload_n hx hb dX8_isRight_52 rfl (lv_at hl 0 rfl) ?_
      refine lv_aload_n hx hb dX8_isRight_53 rfl (lv_at hl 1 rfl) ?_
      refine lv_aload_n hx hb dX8_isRight_54 rfl (lv_at hl 2 rfl) ?_
      replace q := c2_s q
      obtain ⟨x_4, g_3, qc, q⟩ := q
      refine x_callV hx hb hml hl.1 hown hX M (S1 := S) (As := [.ref a1, .ref a2]) (rest := []) okX8 ra0 rfl kw_850 kw_9 mok_X8_hasEntries (c_X8_hasEntries ra0 ra1 ra2 qc (Nat.le_refl 6)) kw_848 rfl rfl dX8_isRight_55 (Nat.le_of_ble_eq_true rfl) ⟨Nat.le_trans (by decide) hRf, Nat.le_trans (by decide) hRl⟩ (Nat.zero_le _) (Nat.zero_le _) (fun H locs M hEF => ?_)
      replace q := ck_s q
      obtain ⟨hz, q⟩ := q
      cases q
      exact x_zret hx hb hr hlk (zb_nar hz) M Ext.rf dX8_isRight_58
    replace q := if_f cx_2_0 q
    by_cases cx_2_1 : x_2 = 2
    · replace q := if_t cx_2_1 q
      subst cx_2_1
      refine lv_tableIn (off := 101) (tgt := 118) hx hb dX8_isRight_17 (by decide) (by decide) (by decide) (by decide) ?_
      refine lv_iconst (v := 0) hx hb dX8_isRight_118 (by decide) ?_
      cases q
      exact x_zret hx hb hr hlk rfl M Ext.rf dX8_isRight_119
    replace q := if_f cx_2_1 q
    by_cases cx_2_2 : x_2 = 3
    · replace q := if_t cx_2_2 q
      subst cx_2_2
      refine lv_tableIn (off := 42) (tgt := 59) hx hb dX8_isRight_17 (by decide) (by decide) (by decide) (by decide) ?_
      refine lv_aload_n hx hb dX8_isRight_59 rfl (lv_at hl 0 rfl) ?_
      refine lv_aload_n hx hb dX8_isRight_60 rfl (lv_at hl 1 rfl) ?_
      refine lv_aload_n hx hb dX8_isRight_61 rfl (lv_at hl 1 rfl) ?_
      refine x_getI hx hb hown hX M (k := 9) okX7 ra1 (by decide) rfl kw_209 dX8_isRight_62 ?_
      refine lv_aload_n hx hb dX8_isRight_65 rfl (lv_at hl 2 rfl) ?_
      replace q := c2_s q
      obtain ⟨x_6, g_5, qc, q⟩ := q
      refine x_callV hx hb hml hl.1 hown hX M (S1 := S) (As := [.ref a1, .int (rdI g a1 9), .ref a2]) (rest := []) okX8 ra0 rfl kw_864 kw_11 mok_X8_leadsTo (c_X8_leadsTo ra0 ra1 ra2 qc (Nat.le_refl 4)) kw_862 rfl rfl dX8_isRight_66 (Nat.le_of_ble_eq_true rfl) ⟨Nat.le_trans (by decide) hRf, Nat.le_trans (by decide) hRl⟩ (Nat.zero_le _) (Nat.zero_le _) (fun H locs M hEF => ?_)
      replace q := ck_s q
      obtain ⟨hz, q⟩ := q
      cases q
      exact x_zret hx hb hr hlk (zb_nar hz) M Ext.rf dX8_isRight_69
    replace q := if_f cx_2_2 q
    by_cases cx_2_3 : x_2 = 4
    · replace q := if_t cx_2_3 q
      subst cx_2_3
      refine lv_tableIn (off := 53) (tgt := 70) hx hb dX8_isRight_17 (by decide) (by decide) (by decide) (by decide) ?_
      refine lv_aload_n hx hb dX8_isRight_70 rfl (lv_at hl 1 rfl) ?_
      refine x_getI hx hb hown hX M (k := 10) okX7 ra1 (by decide) rfl kw_212 dX8_isRight_71 ?_
      refine lv_iconst (v := -1) hx hb dX8_isRight_74 (by decide) ?_
      refine lv_icmp_eq (tgt := 93) hx hb dX8_isRight_75 (by decide) (fun c_7 => ?_) (fun c_7 => ?_)
      · replace q := if_t c_7 q
        exact w_X8_isRight_93 hx hb hml hr hlk hown hX hRf hRl (N := N)  _ _ _ _ _ _ _ M ra0 ra1 ra2 (lv_sub hl [0, 1, 2] rfl) q
      · replace q := if_f c_7 q
        refine lv_aload_n hx hb dX8_isRight_78 rfl (lv_at hl 1 rfl) ?_
        refine x_getI hx hb hown hX M (k := 11) okX7 ra1 (by decide) rfl kw_215 dX8_isRight_79 ?_
        refine lv_aload_n hx hb dX8_isRight_82 rfl (lv_at hl 1 rfl) ?_
        refine x_getI hx hb hown hX M (k := 9) okX7 ra1 (by decide) rfl kw_209 dX8_isRight_83 ?_
        refine lv_icmp_ne (tgt := 93) hx hb dX8_isRight_86 (by decide) (fun c_8 => ?_) (fun c_8 => ?_)
        · replace q := if_f c_8 q
          exact w_X8_isRight_93 hx hb hml hr hlk hown hX hRf hRl (N := N)  _ _ _ _ _ _ _ M ra0 ra1 ra2 (lv_sub hl [0, 1, 2] rfl) q
        · replace q := if_t c_8 q
          refine lv_iconst (v := 1) hx hb dX8_isRight_89 (by decide) ?_
          refine lv_goto (tgt := 94) hx hb dX8_isRight_90 (by decide) ?_
          exact w_X8_isRight_94 hx hb hml hr hlk hown hX hRf hRl (N := N)  _ _ _ _ _ _ _ _ M ra0 ra1 ra2 (lv_sub hl [0, 1, 2] rfl) q
    replace q := if_f cx_2_3 q
    by_cases cx_2_4 : x_2 = 5
    · replace q := if_t cx_2_4 q
      subst cx_2_4
      refine lv_tableIn (off := 35) (tgt := 52) hx hb dX8_isRight_17 (by decide) (by decide) (by decide) (by decide) ?_
      refine lv_aload_n hx hb dX8_isRight_52 rfl (lv_at hl 0 rfl) ?_
      refine lv_aload_n hx hb dX8_isRight_53 rfl (lv_at hl 1 rfl) ?_
      refine lv_aload_n hx hb dX8_isRight_54 rfl (lv_at hl 2 rfl) ?_
      replace q := c2_s q
      obtain ⟨x_10, g_9, qc, q⟩ := q
      refine x_callV hx hb hml hl.1 hown hX M (S1 := S) (As := [.ref a1, .ref a2]) (rest := []) okX8 ra0 rfl kw_850 kw_9 mok_X8_hasEntries (c_X8_hasEntries ra0 ra1 ra2 qc (Nat.le_refl 6)) kw_848 rfl rfl dX8_isRight_55 (Nat.le_of_ble_eq_true rfl) ⟨Nat.le_trans (by decide) hRf, Nat.le_trans (by decide) hRl⟩ (Nat.zero_le _) (Nat.zero_le _) (fun H locs M hEF => ?_)
      replace q := ck_s q
      obtain ⟨hz, q⟩ := q
      cases q
      exact x_zret hx hb hr hlk (zb_nar hz) M Ext.rf dX8_isRight_58
    replace q := if_f cx_2_4 q
    refine lv_tableOut (tgt := 118) hx hb dX8_isRight_17 (sw_def (fun z h1 h2 => ?_)) (by decide) ?_
    · have hz : z = 1 ∨ z = 2 ∨ z = 3 ∨ z = 4 ∨ z = 5 := by omega
      rcases hz with rfl | rfl | rfl | rfl | rfl
      · exact cx_2_0
      · exact cx_2_1
      · exact cx_2_2
      · exact cx_2_3
      · exact cx_2_4
    · refine lv_iconst (v := 0) hx hb dX8_isRight_118 (by decide) ?_
      cases q
      exact x_zret hx hb hr hlk rfl M Ext.rf dX8_isRight_119
  · replace q := if_f c_1 q
    refine lv_iconst (v := 0) hx hb dX8_isRight_11 (by decide) ?_
    cases q
    exact x_zret hx hb hr hlk rfl M Ext.rf dX8_isRight_12
set_option maxRecDepth 100000 in
theorem c_X8_isRight {l : Launch} {D : va_G} {cA : Nat → ClassId} {lo tS N : Nat} {S : Hs} {g g1 : Hg} {rv : Int32} {a0 : Nat} {a1 : Nat} {a2 : Nat} (ra0 : Rf lo S a0 8) (ra1 : Rf lo S a1 7) (ra2 : Rf lo S a2 0) (q : f_X8_isRight N S g a0 a1 a2 = some (rv, g1)) {d : Nat} (hd : 7 ≤ d) : Ctr l yX8_isRight cX8_isRight 4 (some .boolean) D cA lo tS [.ref a0, .ref a1, .ref a2] S g d (some (.int rv)) S g1 True 0 0 := by
  refine x_met (by decide) (Nat.le_of_ble_eq_true rfl) ?_
  intro p e s m below meth c ls hx hb hml hr hlk hown hnm hX M hl
  exact w_X8_isRight_0 hx hb hml hr hlk hown hX hd (Nat.mul_le_mul_left 60 hd) (N := N) _ _ _ _ _ _ _ M ra0 ra1 ra2 (lv_sub hl [0, 1, 2] rfl) q
def b_X11_check_0 (N : Nat) (S : Hs) (g : Hg) (a0 : Nat) (x1 : Int32) (x2 : Int32) (x3 : Int32) : Option (Int32 × Hg) :=
nn (rdR g a0 3) (fun a_1 =>
c2 (f_X1_slotAt N S g a_1 x1) (fun o_3 g_2 =>
nn (rdR g_2 a0 3) (fun a_4 =>
c2 (f_X1_headOf N S g_2 a_4 x2) (fun o_6 g_5 =>
on o_3 (
some ((-1 : Int32), g_5)) (fun a_7 =>
if (rdI g_5 a_7 5) = 0 then (
some ((-1 : Int32), g_5)) else (
on o_6 (
some ((-1 : Int32), g_5)) (fun a_9 =>
if (rdI g_5 a_7 5) = (2 : Int32) then (
nn (rdR g_5 a0 3) (fun a_11 =>
c2 (f_X1_headOf N S g_5 a_11 x3) (fun o_13 g_12 =>
on o_13 (
some ((-1 : Int32), g_12)) (fun a_14 =>
nn (rdR g_12 a0 2) (fun a_15 =>
c2 (f_X8_isGrowth N S g_12 a_15 a_7 a_9 a_14) (fun x_17 g_16 =>
if x_17 = 0 then (
some ((0 : Int32), g_16)) else (
some ((1 : Int32), g_16)))))))) else (
nn (rdR g_5 a0 2) (fun a_20 =>
c2 (f_X8_isRight N S g_5 a_20 a_7 a_9) (fun x_22 g_21 =>
if x_22 = 0 then (
some ((0 : Int32), g_21)) else (
some ((1 : Int32), g_21))))))))))))
def f_X11_check (N : Nat) (S : Hs) (g : Hg) (a0 : Nat) (x1 : Int32) (x2 : Int32) (x3 : Int32) : Option (Int32 × Hg) := b_X11_check_0 N S g a0 x1 x2 x3
set_option maxHeartbeats 4000000 in
set_option maxRecDepth 100000 in
theorem w_X11_check_0 (hx : p.tables.exec = Jvm.exec) (hb : c.code = cX11_check) (hml : c.maxLocals = 7) (hr : meth.sig.returnType = (some .int)) (hlk : meth.locks = false) (hown : s.vm.findClass RX11 = some m.cls) (hX : Kx D cA lo tS s) (hRf : 8 ≤ R.frames) (hRl : 480 ≤ R.locals) {N : Nat} {rv : Int32} {g1 : Hg} {S : Hs} : ∀ (H : Heap) (locs : List Loc) (ls : Array Slot) (g : Hg) (a0 : Nat) (x1 : Int32) (x2 : Int32) (x3 : Int32), Mm D cA lo S g s H locs → Rf lo S a0 11 → lv_has ls 7 [(0, .ref a0), (1, .int x1), (2, .int x2), (3, .int x3)] → b_X11_check_0 N S g a0 x1 x2 x3 = some (rv, g1) → W p l e R s m args below meth c H locs 0 0 (MQ below (Qcx D cA lo S (some (.int rv)) S g1 True) args s 0 0 (fun q : Nat => lo ≤ q)) (F0 m 0 ls []) := by
  intro H locs ls g a0 x1 x2 x3 M ra0 hl q
  unfold b_X11_check_0 at q
  refine lv_aload_n hx hb dX11_check_0 rfl (lv_at hl 0 rfl) ?_
  replace q := nn_s q
  obtain ⟨a_1, e_a_1, q⟩ := q
  refine x_getR hx hb hown hX M e_a_1 okX11 ra0 (by decide) rfl kw_359 dX11_check_1 (fun ra_1 => ?_)
  refine lv_iload_n hx hb dX11_check_4 rfl (lv_at hl 1 rfl) ?_
  replace q := c2_s q
  obtain ⟨o_3, g_2, qc, q⟩ := q
  refine x_callV hx hb hml hl.1 hown hX M (S1 := S) (As := [.int x1]) (rest := []) okX1 ra_1 rfl kw_732 kw_733 mok_X1_slotAt (c_X1_slotAt ra_1 qc (Nat.le_refl 1)) kw_731 rfl rfl dX11_check_5 (Nat.le_of_ble_eq_true rfl) ⟨Nat.le_trans (by decide) hRf, Nat.le_trans (by decide) hRl⟩ (Nat.zero_le _) (Nat.zero_le _) (fun H locs M hEF => ?_)
  have ro_3 := hEF.2
  refine x_astore (lv' := [(4, va_rf o_3), (0, .ref a0), (1, .int x1), (2, .int x2), (3, .int x3)]) hx hb dX11_check_8 hl (by decide) rfl (fun ls hl => ?_)
  refine lv_aload_n hx hb dX11_check_10 rfl (lv_at hl 1 rfl) ?_
  replace q := nn_s q
  obtain ⟨a_4, e_a_4, q⟩ := q
  refine x_getR hx hb hown hX M e_a_4 okX11 ra0 (by decide) rfl kw_359 dX11_check_11 (fun ra_4 => ?_)
  refine lv_iload_n hx hb dX11_check_14 rfl (lv_at hl 3 rfl) ?_
  replace q := c2_s q
  obtain ⟨o_6, g_5, qc, q⟩ := q
  refine x_callV hx hb hml hl.1 hown hX M (S1 := S) (As := [.int x2]) (rest := []) okX1 ra_4 rfl kw_841 kw_842 mok_X1_headOf (c_X1_headOf ra_4 qc (Nat.le_refl 1)) kw_840 rfl rfl dX11_check_15 (Nat.le_of_ble_eq_true rfl) ⟨Nat.le_trans (by decide) hRf, Nat.le_trans (by decide) hRl⟩ (Nat.zero_le _) (Nat.zero_le _) (fun H locs M hEF => ?_)
  have ro_6 := hEF.2
  refine x_astore (lv' := [(5, va_rf o_6), (4, va_rf o_3), (0, .ref a0), (1, .int x1), (2, .int x2), (3, .int x3)]) hx hb dX11_check_18 hl (by decide) (by cases o_3 <;> rfl) (fun ls hl => ?_)
  refine x_aload hx hb dX11_check_20 (lv_at hl 1 rfl) ?_
  refine x_ifnull (tgt := 38) hx hb dX11_check_22 (by decide) (fun c_25 => ?_) (fun a_7 c_25 => ?_)
  · replace q := on_n c_25 q
    refine lv_iconst (v := -1) hx hb dX11_check_38 (by decide) ?_
    cases q
    exact x_iret hx hb hr hlk M Ext.rf dX11_check_39
  · subst c_25
    replace q := on_s rfl q
    have ra_7 := ro_3 a_7 rfl
    have hl : lv_has ls 7 [(5, va_rf o_6), (4, .ref a_7), (0, .ref a0), (1, .int x1), (2, .int x2), (3, .int x3)] := hl
    refine lv_aload hx hb dX11_check_25 (lv_at hl 1 rfl) ?_
    refine x_getI hx hb hown hX M (k := 5) okX7 ra_7 (by decide) rfl kw_198 dX11_check_27 ?_
    refine lv_if_eq (tgt := 38) hx hb dX11_check_30 (by decide) (fun c_8 => ?_) (fun c_8 => ?_)
    · replace q := if_t c_8 q
      refine lv_iconst (v := -1) hx hb dX11_check_38 (by decide) ?_
      cases q
      exact x_iret hx hb hr hlk M Ext.rf dX11_check_39
    · replace q := if_f c_8 q
      refine x_aload hx hb dX11_check_33 (lv_at hl 0 rfl) ?_
      refine x_ifnonnull (tgt := 40) hx hb dX11_check_35 (by decide) (fun a_9 c_24 => ?_) (fun c_24 => ?_)
      · subst c_24
        replace q := on_s rfl q
        have ra_9 := ro_6 a_9 rfl
        have hl : lv_has ls 7 [(5, .ref a_9), (4, .ref a_7), (0, .ref a0), (1, .int x1), (2, .int x2), (3, .int x3)] := hl
        refine lv_aload hx hb dX11_check_40 (lv_at hl 1 rfl) ?_
        refine x_getI hx hb hown hX M (k := 5) okX7 ra_7 (by decide) rfl kw_198 dX11_check_42 ?_
        refine lv_iconst (v := 2) hx hb dX11_check_45 (by decide) ?_
        refine lv_icmp_eq (tgt := 69) hx hb dX11_check_46 (by decide) (fun c_10 => ?_) (fun c_10 => ?_)
        · replace q := if_t c_10 q
          refine lv_aload_n hx hb dX11_check_69 rfl (lv_at hl 2 rfl) ?_
          replace q := nn_s q
          obtain ⟨a_11, e_a_11, q⟩ := q
          refine x_getR hx hb hown hX M e_a_11 okX11 ra0 (by decide) rfl kw_359 dX11_check_70 (fun ra_11 => ?_)
          refine lv_iload_n hx hb dX11_check_73 rfl (lv_at hl 5 rfl) ?_
          replace q := c2_s q
          obtain ⟨o_13, g_12, qc, q⟩ := q
          refine x_callV hx hb hml hl.1 hown hX M (S1 := S) (As := [.int x3]) (rest := []) okX1 ra_11 rfl kw_841 kw_842 mok_X1_headOf (c_X1_headOf ra_11 qc (Nat.le_refl 1)) kw_840 rfl rfl dX11_check_74 (Nat.le_of_ble_eq_true rfl) ⟨Nat.le_trans (by decide) hRf, Nat.le_trans (by decide) hRl⟩ (Nat.zero_le _) (Nat.zero_le _) (fun H locs M hEF => ?_)
          have ro_13 := hEF.2
          refine x_astore (lv' := [(6, va_rf o_13), (5, .ref a_9), (4, .ref a_7), (0, .ref a0), (1, .int x1), (2, .int x2), (3, .int x3)]) hx hb dX11_check_77 hl (by decide) rfl (fun ls hl => ?_)
          refine x_aload hx hb dX11_check_79 (lv_at hl 0 rfl) ?_
          refine x_ifnonnull (tgt := 86) hx hb dX11_check_81 (by decide) (fun a_14 c_19 => ?_) (fun c_19 => ?_)
          · subst c_19
            replace q := on_s rfl q
            have ra_14 := ro_13 a_14 rfl
            have hl : lv_has ls 7 [(6, .ref a_14), (5, .ref a_9), (4, .ref a_7), (0, .ref a0), (1, .int x1), (2, .int x2), (3, .int x3)] := hl
            refine lv_aload_n hx hb dX11_check_86 rfl (lv_at hl 3 rfl) ?_
            replace q := nn_s q
            obtain ⟨a_15, e_a_15, q⟩ := q
            refine x_getR hx hb hown hX M e_a_15 okX11 ra0 (by decide) rfl kw_358 dX11_check_87 (fun ra_15 => ?_)
            refine lv_aload hx hb dX11_check_90 (lv_at hl 2 rfl) ?_
            refine lv_aload hx hb dX11_check_92 (lv_at hl 1 rfl) ?_
            refine lv_aload hx hb dX11_check_94 (lv_at hl 0 rfl) ?_
            replace q := c2_s q
            obtain ⟨x_17, g_16, qc, q⟩ := q
            refine x_callV hx hb hml hl.1 hown hX M (S1 := S) (As := [.ref a_7, .ref a_9, .ref a_14]) (rest := []) okX8 ra_15 rfl kw_872 kw_873 mok_X8_isGrowth (c_X8_isGrowth ra_15 ra_7 ra_9 ra_14 qc (Nat.le_refl 6)) kw_871 rfl rfl dX11_check_96 (Nat.le_of_ble_eq_true rfl) ⟨Nat.le_trans (by decide) hRf, Nat.le_trans (by decide) hRl⟩ (Nat.zero_le _) (Nat.zero_le _) (fun H locs M hEF => ?_)
            refine lv_if_eq (tgt := 106) hx hb dX11_check_99 (by decide) (fun c_18 => ?_) (fun c_18 => ?_)
            · replace q := if_t c_18 q
              refine lv_iconst (v := 0) hx hb dX11_check_106 (by decide) ?_
              cases q
              exact x_iret hx hb hr hlk M Ext.rf dX11_check_107
            · replace q := if_f c_18 q
              refine lv_iconst (v := 1) hx hb dX11_check_102 (by decide) ?_
              refine lv_goto (tgt := 107) hx hb dX11_check_103 (by decide) ?_
              cases q
              exact x_iret hx hb hr hlk M Ext.rf dX11_check_107
          · replace q := on_n c_19 q
            refine lv_iconst (v := -1) hx hb dX11_check_84 (by decide) ?_
            cases q
            exact x_iret hx hb hr hlk M Ext.rf dX11_check_85
        · replace q := if_f c_10 q
          refine lv_aload_n hx hb dX11_check_49 rfl (lv_at hl 2 rfl) ?_
          replace q := nn_s q
          obtain ⟨a_20, e_a_20, q⟩ := q
          refine x_getR hx hb hown hX M e_a_20 okX11 ra0 (by decide) rfl kw_358 dX11_check_50 (fun ra_20 => ?_)
          refine lv_aload hx hb dX11_check_53 (lv_at hl 1 rfl) ?_
          refine lv_aload hx hb dX11_check_55 (lv_at hl 0 rfl) ?_
          replace q := c2_s q
          obtain ⟨x_22, g_21, qc, q⟩ := q
          refine x_callV hx hb hml hl.1 hown hX M (S1 := S) (As := [.ref a_7, .ref a_9]) (rest := []) okX8 ra_20 rfl kw_845 kw_846 mok_X8_isRight (c_X8_isRight ra_20 ra_7 ra_9 qc (Nat.le_refl 7)) kw_844 rfl rfl dX11_check_57 (Nat.le_of_ble_eq_true rfl) ⟨Nat.le_trans (by decide) hRf, Nat.le_trans (by decide) hRl⟩ (Nat.zero_le _) (Nat.zero_le _) (fun H locs M hEF => ?_)
          refine lv_if_eq (tgt := 67) hx hb dX11_check_60 (by decide) (fun c_23 => ?_) (fun c_23 => ?_)
          · replace q := if_t c_23 q
            refine lv_iconst (v := 0) hx hb dX11_check_67 (by decide) ?_
            cases q
            exact x_iret hx hb hr hlk M Ext.rf dX11_check_68
          · replace q := if_f c_23 q
            refine lv_iconst (v := 1) hx hb dX11_check_63 (by decide) ?_
            refine lv_goto (tgt := 68) hx hb dX11_check_64 (by decide) ?_
            cases q
            exact x_iret hx hb hr hlk M Ext.rf dX11_check_68
      · replace q := on_n c_24 q
        refine lv_iconst (v := -1) hx hb dX11_check_38 (by decide) ?_
        cases q
        exact x_iret hx hb hr hlk M Ext.rf dX11_check_39
set_option maxRecDepth 100000 in
theorem c_X11_check {l : Launch} {D : va_G} {cA : Nat → ClassId} {lo tS N : Nat} {S : Hs} {g g1 : Hg} {rv : Int32} {a0 : Nat} {x1 : Int32} {x2 : Int32} {x3 : Int32} (ra0 : Rf lo S a0 11) (q : f_X11_check N S g a0 x1 x2 x3 = some (rv, g1)) {d : Nat} (hd : 8 ≤ d) : Ctr l yX11_check cX11_check 7 (some .int) D cA lo tS [.ref a0, .int x1, .int x2, .int x3] S g d (some (.int rv)) S g1 True 0 0 := by
  refine x_met (by decide) (Nat.le_of_ble_eq_true rfl) ?_
  intro p e s m below meth c ls hx hb hml hr hlk hown hnm hX M hl
  exact w_X11_check_0 hx hb hml hr hlk hown hX hd (Nat.mul_le_mul_left 60 hd) (N := N) _ _ _ _ _ _ _ _ M ra0 (lv_sub hl [0, 1, 2, 3] rfl) q
def b_X3_goneEntries_4 (N : Nat) (S : Hs) (k4 : Hg → Nat → Int32 → Int32 → Option (Int32 × Hg)) (g : Hg) (a0 : Nat) (x1 : Int32) (x2 : Int32) : Option (Int32 × Hg) :=
if (rdI g a0 7) ≤ x2 then (
some (x1, g)) else (
nn (rdR g a0 3) (fun a_2 =>
ck (inb x2 (hpL S a_2)) (
if (rdI g a_2 x2.toNatClampNeg) = (2 : Int32) then (
nm (x1 + 1) (fun x_5 =>
nm (x2 + 1) (fun x_6 =>
k4 g a0 x_5 x_6))) else (
nm (x2 + 1) (fun x_4 =>
k4 g a0 x1 x_4)))))
def n_X3_goneEntries_4 (N : Nat) (S : Hs) : Nat → Hg → Nat → Int32 → Int32 → Option (Int32 × Hg)
  | 0 => fun _ _ _ _ => none
  | n + 1 => fun g a0 x1 x2 => b_X3_goneEntries_4 N S (n_X3_goneEntries_4 N S n) g a0 x1 x2
def b_X3_goneEntries_0 (N : Nat) (S : Hs) (g : Hg) (a0 : Nat) : Option (Int32 × Hg) :=
n_X3_goneEntries_4 N S N g a0 (0 : Int32) (0 : Int32)
def f_X3_goneEntries (N : Nat) (S : Hs) (g : Hg) (a0 : Nat) : Option (Int32 × Hg) := b_X3_goneEntries_0 N S g a0
set_option maxHeartbeats 4000000 in
set_option maxRecDepth 100000 in
theorem w_X3_goneEntries_4 (hx : p.tables.exec = Jvm.exec) (hb : c.code = cX3_goneEntries) (hml : c.maxLocals = 3) (hr : meth.sig.returnType = (some .int)) (hlk : meth.locks = false) (hown : s.vm.findClass RX3 = some m.cls) (hX : Kx D cA lo tS s) (hRf : 1 ≤ R.frames) (hRl : 60 ≤ R.locals) {N : Nat} {rv : Int32} {g1 : Hg} {S : Hs} {k4 : Hg → Nat → Int32 → Int32 → Option (Int32 × Hg)} (hk4 : ∀ (H : Heap) (locs : List Loc) (ls : Array Slot) (g : Hg) (a0 : Nat) (x1 : Int32) (x2 : Int32), Mm D cA lo S g s H locs → Rf lo S a0 3 → lv_has ls 3 [(0, .ref a0), (1, .int x1), (2, .int x2)] → k4 g a0 x1 x2 = some (rv, g1) → W p l e R s m args below meth c H locs 0 0 (MQ below (Qcx D cA lo S (some (.int rv)) S g1 True) args s 0 0 (fun q : Nat => lo ≤ q)) (F0 m 4 ls [])) : ∀ (H : Heap) (locs : List Loc) (ls : Array Slot) (g : Hg) (a0 : Nat) (x1 : Int32) (x2 : Int32), Mm D cA lo S g s H locs → Rf lo S a0 3 → lv_has ls 3 [(0, .ref a0), (1, .int x1), (2, .int x2)] → b_X3_goneEntries_4 N S k4 g a0 x1 x2 = some (rv, g1) → W p l e R s m args below meth c H locs 0 0 (MQ below (Qcx D cA lo S (some (.int rv)) S g1 True) args s 0 0 (fun q : Nat => lo ≤ q)) (F0 m 4 ls []) := by
  intro H locs ls g a0 x1 x2 M ra0 hl q
  unfold b_X3_goneEntries_4 at q
  refine lv_iload_n hx hb dX3_goneEntries_4 rfl (lv_at hl 2 rfl) ?_
  refine lv_aload_n hx hb dX3_goneEntries_5 rfl (lv_at hl 0 rfl) ?_
  refine x_getI hx hb hown hX M (k := 7) okX3 ra0 (by decide) rfl kw_457 dX3_goneEntries_6 ?_
  refine lv_icmp_ge (tgt := 31) hx hb dX3_goneEntries_9 (by decide) (fun c_1 => ?_) (fun c_1 => ?_)
  · replace q := if_t c_1 q
    refine lv_iload_n hx hb dX3_goneEntries_31 rfl (lv_at hl 1 rfl) ?_
    cases q
    exact x_iret hx hb hr hlk M Ext.rf dX3_goneEntries_32
  · replace q := if_f c_1 q
    refine lv_aload_n hx hb dX3_goneEntries_12 rfl (lv_at hl 0 rfl) ?_
    replace q := nn_s q
    obtain ⟨a_2, e_a_2, q⟩ := q
    refine x_getR hx hb hown hX M e_a_2 okX3 ra0 (by decide) rfl kw_450 dX3_goneEntries_13 (fun ra_2 => ?_)
    refine lv_iload_n hx hb dX3_goneEntries_16 rfl (lv_at hl 2 rfl) ?_
    replace q := ck_s q
    obtain ⟨hin, q⟩ := q
    refine x_iald hx hb hX M ra_2 (inb_in hin) dX3_goneEntries_17 ?_
    refine lv_iconst (v := 2) hx hb dX3_goneEntries_18 (by decide) ?_
    refine lv_icmp_ne (tgt := 25) hx hb dX3_goneEntries_19 (by decide) (fun c_3 => ?_) (fun c_3 => ?_)
    · replace q := if_f c_3 q
      obtain ⟨x_4, e_x_4⟩ : ∃ y : Int32, y = x2 + 1 := ⟨_, rfl⟩
      replace q := nm_s q e_x_4
      refine lv_iinc (v := x_4) (lv' := [(2, .int x_4), (0, .ref a0), (1, .int x1)]) hx hb dX3_goneEntries_25 hl (k := 2) rfl (by rw [e_x_4]; rfl) (by decide) rfl (fun ls hl => ?_)
      refine lv_goto (tgt := 4) hx hb dX3_goneEntries_28 (by decide) ?_
      exact hk4 _ _ _ _ _ _ _ M ra0 (lv_sub hl [1, 2, 0] rfl) q
    · replace q := if_t c_3 q
      obtain ⟨x_5, e_x_5⟩ : ∃ y : Int32, y = x1 + 1 := ⟨_, rfl⟩
      replace q := nm_s q e_x_5
      refine lv_iinc (v := x_5) (lv' := [(1, .int x_5), (0, .ref a0), (2, .int x2)]) hx hb dX3_goneEntries_22 hl (k := 1) rfl (by rw [e_x_5]; rfl) (by decide) rfl (fun ls hl => ?_)
      obtain ⟨x_6, e_x_6⟩ : ∃ y : Int32, y = x2 + 1 := ⟨_, rfl⟩
      replace q := nm_s q e_x_6
      refine lv_iinc (v := x_6) (lv' := [(2, .int x_6), (1, .int x_5), (0, .ref a0)]) hx hb dX3_goneEntries_25 hl (k := 2) rfl (by rw [e_x_6]; rfl) (by decide) rfl (fun ls hl => ?_)
      refine lv_goto (tgt := 4) hx hb dX3_goneEntries_28 (by decide) ?_
      exact hk4 _ _ _ _ _ _ _ M ra0 (lv_sub hl [2, 1, 0] rfl) q
set_option maxRecDepth 100000 in
theorem l_X3_goneEntries_4 (hx : p.tables.exec = Jvm.exec) (hb : c.code = cX3_goneEntries) (hml : c.maxLocals = 3) (hr : meth.sig.returnType = (some .int)) (hlk : meth.locks = false) (hown : s.vm.findClass RX3 = some m.cls) (hX : Kx D cA lo tS s) (hRf : 1 ≤ R.frames) (hRl : 60 ≤ R.locals) {N : Nat} {rv : Int32} {g1 : Hg} {S : Hs} : ∀ (n : Nat), ∀ (H : Heap) (locs : List Loc) (ls : Array Slot) (g : Hg) (a0 : Nat) (x1 : Int32) (x2 : Int32), Mm D cA lo S g s H locs → Rf lo S a0 3 → lv_has ls 3 [(0, .ref a0), (1, .int x1), (2, .int x2)] → n_X3_goneEntries_4 N S n g a0 x1 x2 = some (rv, g1) → W p l e R s m args below meth c H locs 0 0 (MQ below (Qcx D cA lo S (some (.int rv)) S g1 True) args s 0 0 (fun q : Nat => lo ≤ q)) (F0 m 4 ls []) := by
  intro n
  induction n with
  | zero =>
    intro H locs ls g a0 x1 x2 M ra0 hl q
    exact absurd q (by simp [n_X3_goneEntries_4])
  | succ n ih => exact w_X3_goneEntries_4 hx hb hml hr hlk hown hX hRf hRl (N := N)  ih
set_option maxHeartbeats 4000000 in
set_option maxRecDepth 100000 in
theorem w_X3_goneEntries_0 (hx : p.tables.exec = Jvm.exec) (hb : c.code = cX3_goneEntries) (hml : c.maxLocals = 3) (hr : meth.sig.returnType = (some .int)) (hlk : meth.locks = false) (hown : s.vm.findClass RX3 = some m.cls) (hX : Kx D cA lo tS s) (hRf : 1 ≤ R.frames) (hRl : 60 ≤ R.locals) {N : Nat} {rv : Int32} {g1 : Hg} {S : Hs} : ∀ (H : Heap) (locs : List Loc) (ls : Array Slot) (g : Hg) (a0 : Nat), Mm D cA lo S g s H locs → Rf lo S a0 3 → lv_has ls 3 [(0, .ref a0)] → b_X3_goneEntries_0 N S g a0 = some (rv, g1) → W p l e R s m args below meth c H locs 0 0 (MQ below (Qcx D cA lo S (some (.int rv)) S g1 True) args s 0 0 (fun q : Nat => lo ≤ q)) (F0 m 0 ls []) := by
  intro H locs ls g a0 M ra0 hl q
  unfold b_X3_goneEntries_0 at q
  refine lv_iconst (v := 0) hx hb dX3_goneEntries_0 (by decide) ?_
  refine lv_istore_n (lv' := [(1, .int (0 : Int32)), (0, .ref a0)]) hx hb dX3_goneEntries_1 rfl hl (by decide) rfl (fun ls hl => ?_)
  refine lv_iconst (v := 0) hx hb dX3_goneEntries_2 (by decide) ?_
  refine lv_istore_n (lv' := [(2, .int (0 : Int32)), (1, .int (0 : Int32)), (0, .ref a0)]) hx hb dX3_goneEntries_3 rfl hl (by decide) rfl (fun ls hl => ?_)
  exact l_X3_goneEntries_4 hx hb hml hr hlk hown hX hRf hRl (N := N)  N _ _ _ _ _ _ _ M ra0 (lv_sub hl [2, 1, 0] rfl) q
set_option maxRecDepth 100000 in
theorem c_X3_goneEntries {l : Launch} {D : va_G} {cA : Nat → ClassId} {lo tS N : Nat} {S : Hs} {g g1 : Hg} {rv : Int32} {a0 : Nat} (ra0 : Rf lo S a0 3) (q : f_X3_goneEntries N S g a0 = some (rv, g1)) {d : Nat} (hd : 1 ≤ d) : Ctr l yX3_goneEntries cX3_goneEntries 3 (some .int) D cA lo tS [.ref a0] S g d (some (.int rv)) S g1 True 0 0 := by
  refine x_met (by decide) (Nat.le_of_ble_eq_true rfl) ?_
  intro p e s m below meth c ls hx hb hml hr hlk hown hnm hX M hl
  exact w_X3_goneEntries_0 hx hb hml hr hlk hown hX hd (Nat.mul_le_mul_left 60 hd) (N := N) _ _ _ _ _ M ra0 (lv_sub hl [0] rfl) q
def b_X5_howMany_4 (N : Nat) (S : Hs) (k4 : Hg → Nat → Int32 → Int32 → Int32 → Option (Int32 × Hg)) (g : Hg) (a0 : Nat) (x1 : Int32) (x2 : Int32) (x3 : Int32) : Option (Int32 × Hg) :=
if (rdI g a0 3) ≤ x3 then (
some (x2, g)) else (
nn (rdR g a0 2) (fun a_2 =>
ck (inb x3 (hpL S a_2)) (
if (rdI g a_2 x3.toNatClampNeg) = x1 then (
nm (x2 + 1) (fun x_5 =>
nm (x3 + 1) (fun x_6 =>
k4 g a0 x1 x_5 x_6))) else (
nm (x3 + 1) (fun x_4 =>
k4 g a0 x1 x2 x_4)))))
def n_X5_howMany_4 (N : Nat) (S : Hs) : Nat → Hg → Nat → Int32 → Int32 → Int32 → Option (Int32 × Hg)
  | 0 => fun _ _ _ _ _ => none
  | n + 1 => fun g a0 x1 x2 x3 => b_X5_howMany_4 N S (n_X5_howMany_4 N S n) g a0 x1 x2 x3
def b_X5_howMany_0 (N : Nat) (S : Hs) (g : Hg) (a0 : Nat) (x1 : Int32) : Option (Int32 × Hg) :=
n_X5_howMany_4 N S N g a0 x1 (0 : Int32) (0 : Int32)
def f_X5_howMany (N : Nat) (S : Hs) (g : Hg) (a0 : Nat) (x1 : Int32) : Option (Int32 × Hg) := b_X5_howMany_0 N S g a0 x1
set_option maxHeartbeats 4000000 in
set_option maxRecDepth 100000 in
theorem w_X5_howMany_4 (hx : p.tables.exec = Jvm.exec) (hb : c.code = cX5_howMany) (hml : c.maxLocals = 4) (hr : meth.sig.returnType = (some .int)) (hlk : meth.locks = false) (hown : s.vm.findClass RX5 = some m.cls) (hX : Kx D cA lo tS s) (hRf : 1 ≤ R.frames) (hRl : 60 ≤ R.locals) {N : Nat} {rv : Int32} {g1 : Hg} {S : Hs} {k4 : Hg → Nat → Int32 → Int32 → Int32 → Option (Int32 × Hg)} (hk4 : ∀ (H : Heap) (locs : List Loc) (ls : Array Slot) (g : Hg) (a0 : Nat) (x1 : Int32) (x2 : Int32) (x3 : Int32), Mm D cA lo S g s H locs → Rf lo S a0 5 → lv_has ls 4 [(0, .ref a0), (1, .int x1), (2, .int x2), (3, .int x3)] → k4 g a0 x1 x2 x3 = some (rv, g1) → W p l e R s m args below meth c H locs 0 0 (MQ below (Qcx D cA lo S (some (.int rv)) S g1 True) args s 0 0 (fun q : Nat => lo ≤ q)) (F0 m 4 ls [])) : ∀ (H : Heap) (locs : List Loc) (ls : Array Slot) (g : Hg) (a0 : Nat) (x1 : Int32) (x2 : Int32) (x3 : Int32), Mm D cA lo S g s H locs → Rf lo S a0 5 → lv_has ls 4 [(0, .ref a0), (1, .int x1), (2, .int x2), (3, .int x3)] → b_X5_howMany_4 N S k4 g a0 x1 x2 x3 = some (rv, g1) → W p l e R s m args below meth c H locs 0 0 (MQ below (Qcx D cA lo S (some (.int rv)) S g1 True) args s 0 0 (fun q : Nat => lo ≤ q)) (F0 m 4 ls []) := by
  intro H locs ls g a0 x1 x2 x3 M ra0 hl q
  unfold b_X5_howMany_4 at q
  refine lv_iload_n hx hb dX5_howMany_4 rfl (lv_at hl 3 rfl) ?_
  refine lv_aload_n hx hb dX5_howMany_5 rfl (lv_at hl 0 rfl) ?_
  refine x_getI hx hb hown hX M (k := 3) okX5 ra0 (by decide) rfl kw_427 dX5_howMany_6 ?_
  refine lv_icmp_ge (tgt := 31) hx hb dX5_howMany_9 (by decide) (fun c_1 => ?_) (fun c_1 => ?_)
  · replace q := if_t c_1 q
    refine lv_iload_n hx hb dX5_howMany_31 rfl (lv_at hl 2 rfl) ?_
    cases q
    exact x_iret hx hb hr hlk M Ext.rf dX5_howMany_32
  · replace q := if_f c_1 q
    refine lv_aload_n hx hb dX5_howMany_12 rfl (lv_at hl 0 rfl) ?_
    replace q := nn_s q
    obtain ⟨a_2, e_a_2, q⟩ := q
    refine x_getR hx hb hown hX M e_a_2 okX5 ra0 (by decide) rfl kw_425 dX5_howMany_13 (fun ra_2 => ?_)
    refine lv_iload_n hx hb dX5_howMany_16 rfl (lv_at hl 3 rfl) ?_
    replace q := ck_s q
    obtain ⟨hin, q⟩ := q
    refine x_zald hx hb hX M ra_2 (inb_in hin) dX5_howMany_17 ?_
    refine lv_iload_n hx hb dX5_howMany_18 rfl (lv_at hl 1 rfl) ?_
    refine lv_icmp_ne (tgt := 25) hx hb dX5_howMany_19 (by decide) (fun c_3 => ?_) (fun c_3 => ?_)
    · replace q := if_f c_3 q
      obtain ⟨x_4, e_x_4⟩ : ∃ y : Int32, y = x3 + 1 := ⟨_, rfl⟩
      replace q := nm_s q e_x_4
      refine lv_iinc (v := x_4) (lv' := [(3, .int x_4), (0, .ref a0), (1, .int x1), (2, .int x2)]) hx hb dX5_howMany_25 hl (k := 3) rfl (by rw [e_x_4]; rfl) (by decide) rfl (fun ls hl => ?_)
      refine lv_goto (tgt := 4) hx hb dX5_howMany_28 (by decide) ?_
      exact hk4 _ _ _ _ _ _ _ _ M ra0 (lv_sub hl [1, 2, 3, 0] rfl) q
    · replace q := if_t c_3 q
      obtain ⟨x_5, e_x_5⟩ : ∃ y : Int32, y = x2 + 1 := ⟨_, rfl⟩
      replace q := nm_s q e_x_5
      refine lv_iinc (v := x_5) (lv' := [(2, .int x_5), (0, .ref a0), (1, .int x1), (3, .int x3)]) hx hb dX5_howMany_22 hl (k := 2) rfl (by rw [e_x_5]; rfl) (by decide) rfl (fun ls hl => ?_)
      obtain ⟨x_6, e_x_6⟩ : ∃ y : Int32, y = x3 + 1 := ⟨_, rfl⟩
      replace q := nm_s q e_x_6
      refine lv_iinc (v := x_6) (lv' := [(3, .int x_6), (2, .int x_5), (0, .ref a0), (1, .int x1)]) hx hb dX5_howMany_25 hl (k := 3) rfl (by rw [e_x_6]; rfl) (by decide) rfl (fun ls hl => ?_)
      refine lv_goto (tgt := 4) hx hb dX5_howMany_28 (by decide) ?_
      exact hk4 _ _ _ _ _ _ _ _ M ra0 (lv_sub hl [2, 3, 1, 0] rfl) q
set_option maxRecDepth 100000 in
theorem l_X5_howMany_4 (hx : p.tables.exec = Jvm.exec) (hb : c.code = cX5_howMany) (hml : c.maxLocals = 4) (hr : meth.sig.returnType = (some .int)) (hlk : meth.locks = false) (hown : s.vm.findClass RX5 = some m.cls) (hX : Kx D cA lo tS s) (hRf : 1 ≤ R.frames) (hRl : 60 ≤ R.locals) {N : Nat} {rv : Int32} {g1 : Hg} {S : Hs} : ∀ (n : Nat), ∀ (H : Heap) (locs : List Loc) (ls : Array Slot) (g : Hg) (a0 : Nat) (x1 : Int32) (x2 : Int32) (x3 : Int32), Mm D cA lo S g s H locs → Rf lo S a0 5 → lv_has ls 4 [(0, .ref a0), (1, .int x1), (2, .int x2), (3, .int x3)] → n_X5_howMany_4 N S n g a0 x1 x2 x3 = some (rv, g1) → W p l e R s m args below meth c H locs 0 0 (MQ below (Qcx D cA lo S (some (.int rv)) S g1 True) args s 0 0 (fun q : Nat => lo ≤ q)) (F0 m 4 ls []) := by
  intro n
  induction n with
  | zero =>
    intro H locs ls g a0 x1 x2 x3 M ra0 hl q
    exact absurd q (by simp [n_X5_howMany_4])
  | succ n ih => exact w_X5_howMany_4 hx hb hml hr hlk hown hX hRf hRl (N := N)  ih
set_option maxHeartbeats 4000000 in
set_option maxRecDepth 100000 in
theorem w_X5_howMany_0 (hx : p.tables.exec = Jvm.exec) (hb : c.code = cX5_howMany) (hml : c.maxLocals = 4) (hr : meth.sig.returnType = (some .int)) (hlk : meth.locks = false) (hown : s.vm.findClass RX5 = some m.cls) (hX : Kx D cA lo tS s) (hRf : 1 ≤ R.frames) (hRl : 60 ≤ R.locals) {N : Nat} {rv : Int32} {g1 : Hg} {S : Hs} : ∀ (H : Heap) (locs : List Loc) (ls : Array Slot) (g : Hg) (a0 : Nat) (x1 : Int32), Mm D cA lo S g s H locs → Rf lo S a0 5 → lv_has ls 4 [(0, .ref a0), (1, .int x1)] → b_X5_howMany_0 N S g a0 x1 = some (rv, g1) → W p l e R s m args below meth c H locs 0 0 (MQ below (Qcx D cA lo S (some (.int rv)) S g1 True) args s 0 0 (fun q : Nat => lo ≤ q)) (F0 m 0 ls []) := by
  intro H locs ls g a0 x1 M ra0 hl q
  unfold b_X5_howMany_0 at q
  refine lv_iconst (v := 0) hx hb dX5_howMany_0 (by decide) ?_
  refine lv_istore_n (lv' := [(2, .int (0 : Int32)), (0, .ref a0), (1, .int x1)]) hx hb dX5_howMany_1 rfl hl (by decide) rfl (fun ls hl => ?_)
  refine lv_iconst (v := 0) hx hb dX5_howMany_2 (by decide) ?_
  refine lv_istore_n (lv' := [(3, .int (0 : Int32)), (2, .int (0 : Int32)), (0, .ref a0), (1, .int x1)]) hx hb dX5_howMany_3 rfl hl (by decide) rfl (fun ls hl => ?_)
  exact l_X5_howMany_4 hx hb hml hr hlk hown hX hRf hRl (N := N)  N _ _ _ _ _ _ _ _ M ra0 (lv_sub hl [2, 3, 1, 0] rfl) q
set_option maxRecDepth 100000 in
theorem c_X5_howMany {l : Launch} {D : va_G} {cA : Nat → ClassId} {lo tS N : Nat} {S : Hs} {g g1 : Hg} {rv : Int32} {a0 : Nat} {x1 : Int32} (ra0 : Rf lo S a0 5) (q : f_X5_howMany N S g a0 x1 = some (rv, g1)) {d : Nat} (hd : 1 ≤ d) : Ctr l yX5_howMany cX5_howMany 4 (some .int) D cA lo tS [.ref a0, .int x1] S g d (some (.int rv)) S g1 True 0 0 := by
  refine x_met (by decide) (Nat.le_of_ble_eq_true rfl) ?_
  intro p e s m below meth c ls hx hb hml hr hlk hown hnm hX M hl
  exact w_X5_howMany_0 hx hb hml hr hlk hown hX hd (Nat.mul_le_mul_left 60 hd) (N := N) _ _ _ _ _ _ M ra0 (lv_sub hl [0, 1] rfl) q
def b_X11_count_0 (N : Nat) (S : Hs) (g : Hg) (a0 : Nat) (x1 : Int32) (x2 : Int32) : Option (Int32 × Hg) :=
nn (rdR g a0 3) (fun a_1 =>
c2 (f_X1_logAt N S g a_1 x1) (fun o_3 g_2 =>
on o_3 (
some ((-1 : Int32), g_2)) (fun a_4 =>
nm x2 (fun x_5 =>
if x_5 = 0 then (
some ((rdI g_2 a_4 7), g_2)) else (
if x_5 = 1 then (
c2 (f_X3_goneEntries N S g_2 a_4) (fun x_7 g_6 =>
some (x_7, g_6))) else (
if x_5 = 2 then (
some ((rdI g_2 a_4 6), g_2)) else (
if x_5 = 3 then (
nn (rdR g_2 a0 1) (fun a_8 =>
c2 (f_X4_read N S g_2 a_8 a_4 (rdI g_2 a_4 7)) (fun u_10 g_9 =>
nn (rdR g_9 a0 1) (fun a_11 =>
some ((rdI g_9 a_11 5), g_9))))) else (
if x_5 = 4 then (
nn (rdR g_2 a_4 1) (fun a_12 =>
c2 (f_X5_howMany N S g_2 a_12 (1 : Int32)) (fun x_14 g_13 =>
some (x_14, g_13)))) else (
if x_5 = 5 then (
nn (rdR g_2 a_4 1) (fun a_15 =>
c2 (f_X5_howMany N S g_2 a_15 (0 : Int32)) (fun x_17 g_16 =>
some (x_17, g_16)))) else (
some ((-1 : Int32), g_2)))))))))))
def f_X11_count (N : Nat) (S : Hs) (g : Hg) (a0 : Nat) (x1 : Int32) (x2 : Int32) : Option (Int32 × Hg) := b_X11_count_0 N S g a0 x1 x2
set_option maxHeartbeats 4000000 in
set_option maxRecDepth 100000 in
theorem w_X11_count_0 (hx : p.tables.exec = Jvm.exec) (hb : c.code = cX11_count) (hml : c.maxLocals = 4) (hr : meth.sig.returnType = (some .int)) (hlk : meth.locks = false) (hown : s.vm.findClass RX11 = some m.cls) (hX : Kx D cA lo tS s) (hRf : 4 ≤ R.frames) (hRl : 240 ≤ R.locals) {N : Nat} {rv : Int32} {g1 : Hg} {S : Hs} : ∀ (H : Heap) (locs : List Loc) (ls : Array Slot) (g : Hg) (a0 : Nat) (x1 : Int32) (x2 : Int32), Mm D cA lo S g s H locs → Rf lo S a0 11 → lv_has ls 4 [(0, .ref a0), (1, .int x1), (2, .int x2)] → b_X11_count_0 N S g a0 x1 x2 = some (rv, g1) → W p l e R s m args below meth c H locs 0 0 (MQ below (Qcx D cA lo S (some (.int rv)) S g1 True) args s 0 0 (fun q : Nat => lo ≤ q)) (F0 m 0 ls []) := by
  intro H locs ls g a0 x1 x2 M ra0 hl q
  unfold b_X11_count_0 at q
  refine lv_aload_n hx hb dX11_count_0 rfl (lv_at hl 0 rfl) ?_
  replace q := nn_s q
  obtain ⟨a_1, e_a_1, q⟩ := q
  refine x_getR hx hb hown hX M e_a_1 okX11 ra0 (by decide) rfl kw_359 dX11_count_1 (fun ra_1 => ?_)
  refine lv_iload_n hx hb dX11_count_4 rfl (lv_at hl 1 rfl) ?_
  replace q := c2_s q
  obtain ⟨o_3, g_2, qc, q⟩ := q
  refine x_callV hx hb hml hl.1 hown hX M (S1 := S) (As := [.int x1]) (rest := []) okX1 ra_1 rfl kw_495 kw_496 mok_X1_logAt (c_X1_logAt ra_1 qc (Nat.le_refl 1)) kw_494 rfl rfl dX11_count_5 (Nat.le_of_ble_eq_true rfl) ⟨Nat.le_trans (by decide) hRf, Nat.le_trans (by decide) hRl⟩ (Nat.zero_le _) (Nat.zero_le _) (fun H locs M hEF => ?_)
  have ro_3 := hEF.2
  refine x_astore_n (lv' := [(3, va_rf o_3), (0, .ref a0), (1, .int x1), (2, .int x2)]) hx hb dX11_count_8 rfl hl (by decide) rfl (fun ls hl => ?_)
  refine x_aload_n hx hb dX11_count_9 rfl (lv_at hl 0 rfl) ?_
  refine x_ifnonnull (tgt := 15) hx hb dX11_count_10 (by decide) (fun a_4 c_18 => ?_) (fun c_18 => ?_)
  · subst c_18
    replace q := on_s rfl q
    have ra_4 := ro_3 a_4 rfl
    have hl : lv_has ls 4 [(3, .ref a_4), (0, .ref a0), (1, .int x1), (2, .int x2)] := hl
    refine lv_iload_n hx hb dX11_count_15 rfl (lv_at hl 3 rfl) ?_
    refine lv_topi (fun x_5 e_x_5 => ?_)
    replace q := nm_s q e_x_5
    clear e_x_5
    by_cases cx_5_0 : x_5 = 0
    · replace q := if_t cx_5_0 q
      subst cx_5_0
      refine lv_tableIn (off := 40) (tgt := 56) hx hb dX11_count_16 (by decide) (by decide) (by decide) (by decide) ?_
      refine lv_aload_n hx hb dX11_count_56 rfl (lv_at hl 0 rfl) ?_
      refine x_getI hx hb hown hX M (k := 7) okX3 ra_4 (by decide) rfl kw_459 dX11_count_57 ?_
      cases q
      exact x_iret hx hb hr hlk M Ext.rf dX11_count_60
    replace q := if_f cx_5_0 q
    by_cases cx_5_1 : x_5 = 1
    · replace q := if_t cx_5_1 q
      subst cx_5_1
      refine lv_tableIn (off := 45) (tgt := 61) hx hb dX11_count_16 (by decide) (by decide) (by decide) (by decide) ?_
      refine lv_aload_n hx hb dX11_count_61 rfl (lv_at hl 0 rfl) ?_
      replace q := c2_s q
      obtain ⟨x_7, g_6, qc, q⟩ := q
      refine x_callV hx hb hml hl.1 hown hX M (S1 := S) (As := []) (rest := []) okX3 ra_4 rfl kw_611 kw_612 mok_X3_goneEntries (c_X3_goneEntries ra_4 qc (Nat.le_refl 1)) kw_610 rfl rfl dX11_count_62 (Nat.le_of_ble_eq_true rfl) ⟨Nat.le_trans (by decide) hRf, Nat.le_trans (by decide) hRl⟩ (Nat.zero_le _) (Nat.zero_le _) (fun H locs M hEF => ?_)
      cases q
      exact x_iret hx hb hr hlk M Ext.rf dX11_count_65
    replace q := if_f cx_5_1 q
    by_cases cx_5_2 : x_5 = 2
    · replace q := if_t cx_5_2 q
      subst cx_5_2
      refine lv_tableIn (off := 50) (tgt := 66) hx hb dX11_count_16 (by decide) (by decide) (by decide) (by decide) ?_
      refine lv_aload_n hx hb dX11_count_66 rfl (lv_at hl 0 rfl) ?_
      refine x_getI hx hb hown hX M (k := 6) okX3 ra_4 (by decide) rfl kw_456 dX11_count_67 ?_
      cases q
      exact x_iret hx hb hr hlk M Ext.rf dX11_count_70
    replace q := if_f cx_5_2 q
    by_cases cx_5_3 : x_5 = 3
    · replace q := if_t cx_5_3 q
      subst cx_5_3
      refine lv_tableIn (off := 55) (tgt := 71) hx hb dX11_count_16 (by decide) (by decide) (by decide) (by decide) ?_
      refine lv_aload_n hx hb dX11_count_71 rfl (lv_at hl 1 rfl) ?_
      replace q := nn_s q
      obtain ⟨a_8, e_a_8, q⟩ := q
      refine x_getR hx hb hown hX M e_a_8 okX11 ra0 (by decide) rfl kw_357 dX11_count_72 (fun ra_8 => ?_)
      refine lv_aload_n hx hb dX11_count_75 rfl (lv_at hl 0 rfl) ?_
      refine lv_aload_n hx hb dX11_count_76 rfl (lv_at hl 0 rfl) ?_
      refine x_getI hx hb hown hX M (k := 7) okX3 ra_4 (by decide) rfl kw_459 dX11_count_77 ?_
      replace q := c2_s q
      obtain ⟨u_10, g_9, qc, q⟩ := q
      refine x_callV hx hb hml hl.1 hown hX M (S1 := S) (As := [.ref a_4, .int (rdI g_2 a_4 7)]) (rest := []) okX4 ra_8 rfl kw_615 kw_616 mok_X4_read (c_X4_read ra_8 ra_4 qc (Nat.le_refl 3)) kw_614 rfl rfl dX11_count_80 (Nat.le_of_ble_eq_true rfl) ⟨Nat.le_trans (by decide) hRf, Nat.le_trans (by decide) hRl⟩ (Nat.zero_le _) (Nat.zero_le _) (fun H locs M hEF => ?_)
      refine lv_aload_n hx hb dX11_count_83 rfl (lv_at hl 1 rfl) ?_
      replace q := nn_s q
      obtain ⟨a_11, e_a_11, q⟩ := q
      refine x_getR hx hb hown hX M e_a_11 okX11 ra0 (by decide) rfl kw_357 dX11_count_84 (fun ra_11 => ?_)
      refine x_getI hx hb hown hX M (k := 5) okX4 ra_11 (by decide) rfl kw_103 dX11_count_87 ?_
      cases q
      exact x_iret hx hb hr hlk M Ext.rf dX11_count_90
    replace q := if_f cx_5_3 q
    by_cases cx_5_4 : x_5 = 4
    · replace q := if_t cx_5_4 q
      subst cx_5_4
      refine lv_tableIn (off := 75) (tgt := 91) hx hb dX11_count_16 (by decide) (by decide) (by decide) (by decide) ?_
      refine lv_aload_n hx hb dX11_count_91 rfl (lv_at hl 0 rfl) ?_
      replace q := nn_s q
      obtain ⟨a_12, e_a_12, q⟩ := q
      refine x_getR hx hb hown hX M e_a_12 okX3 ra_4 (by decide) rfl kw_446 dX11_count_92 (fun ra_12 => ?_)
      refine lv_iconst (v := 1) hx hb dX11_count_95 (by decide) ?_
      replace q := c2_s q
      obtain ⟨x_14, g_13, qc, q⟩ := q
      refine x_callV hx hb hml hl.1 hown hX M (S1 := S) (As := [.int (1 : Int32)]) (rest := []) okX5 ra_12 rfl kw_630 kw_631 mok_X5_howMany (c_X5_howMany ra_12 qc (Nat.le_refl 1)) kw_629 rfl rfl dX11_count_96 (Nat.le_of_ble_eq_true rfl) ⟨Nat.le_trans (by decide) hRf, Nat.le_trans (by decide) hRl⟩ (Nat.zero_le _) (Nat.zero_le _) (fun H locs M hEF => ?_)
      cases q
      exact x_iret hx hb hr hlk M Ext.rf dX11_count_99
    replace q := if_f cx_5_4 q
    by_cases cx_5_5 : x_5 = 5
    · replace q := if_t cx_5_5 q
      subst cx_5_5
      refine lv_tableIn (off := 84) (tgt := 100) hx hb dX11_count_16 (by decide) (by decide) (by decide) (by decide) ?_
      refine lv_aload_n hx hb dX11_count_100 rfl (lv_at hl 0 rfl) ?_
      replace q := nn_s q
      obtain ⟨a_15, e_a_15, q⟩ := q
      refine x_getR hx hb hown hX M e_a_15 okX3 ra_4 (by decide) rfl kw_446 dX11_count_101 (fun ra_15 => ?_)
      refine lv_iconst (v := 0) hx hb dX11_count_104 (by decide) ?_
      replace q := c2_s q
      obtain ⟨x_17, g_16, qc, q⟩ := q
      refine x_callV hx hb hml hl.1 hown hX M (S1 := S) (As := [.int (0 : Int32)]) (rest := []) okX5 ra_15 rfl kw_630 kw_631 mok_X5_howMany (c_X5_howMany ra_15 qc (Nat.le_refl 1)) kw_629 rfl rfl dX11_count_105 (Nat.le_of_ble_eq_true rfl) ⟨Nat.le_trans (by decide) hRf, Nat.le_trans (by decide) hRl⟩ (Nat.zero_le _) (Nat.zero_le _) (fun H locs M hEF => ?_)
      cases q
      exact x_iret hx hb hr hlk M Ext.rf dX11_count_108
    replace q := if_f cx_5_5 q
    refine lv_tableOut (tgt := 109) hx hb dX11_count_16 (sw_def (fun z h1 h2 => ?_)) (by decide) ?_
    · have hz : z = 0 ∨ z = 1 ∨ z = 2 ∨ z = 3 ∨ z = 4 ∨ z = 5 := by omega
      rcases hz with rfl | rfl | rfl | rfl | rfl | rfl
      · exact cx_5_0
      · exact cx_5_1
      · exact cx_5_2
      · exact cx_5_3
      · exact cx_5_4
      · exact cx_5_5
    · refine lv_iconst (v := -1) hx hb dX11_count_109 (by decide) ?_
      cases q
      exact x_iret hx hb hr hlk M Ext.rf dX11_count_110
  · replace q := on_n c_18 q
    refine lv_iconst (v := -1) hx hb dX11_count_13 (by decide) ?_
    cases q
    exact x_iret hx hb hr hlk M Ext.rf dX11_count_14
set_option maxRecDepth 100000 in
theorem c_X11_count {l : Launch} {D : va_G} {cA : Nat → ClassId} {lo tS N : Nat} {S : Hs} {g g1 : Hg} {rv : Int32} {a0 : Nat} {x1 : Int32} {x2 : Int32} (ra0 : Rf lo S a0 11) (q : f_X11_count N S g a0 x1 x2 = some (rv, g1)) {d : Nat} (hd : 4 ≤ d) : Ctr l yX11_count cX11_count 4 (some .int) D cA lo tS [.ref a0, .int x1, .int x2] S g d (some (.int rv)) S g1 True 0 0 := by
  refine x_met (by decide) (Nat.le_of_ble_eq_true rfl) ?_
  intro p e s m below meth c ls hx hb hml hr hlk hown hnm hX M hl
  exact w_X11_count_0 hx hb hml hr hlk hown hX hd (Nat.mul_le_mul_left 60 hd) (N := N) _ _ _ _ _ _ _ M ra0 (lv_sub hl [0, 1, 2] rfl) q
def b_X11_drop_0 (N : Nat) (S : Hs) (g : Hg) (a0 : Nat) (x1 : Int32) : Option (Int32 × Hg) :=
nn (rdR g a0 3) (fun a_1 =>
c2 (f_X1_slotAt N S g a_1 x1) (fun o_3 g_2 =>
on o_3 (
some ((-1 : Int32), g_2)) (fun a_4 =>
nm (rdI g_2 a_4 5) (fun x_5 =>
c2 (f_X7_begin N S g_2 a_4 (0 : Int32) (0 : Int32) (0 : Int32)) (fun u_7 g_6 =>
some (x_5, g_6))))))
def f_X11_drop (N : Nat) (S : Hs) (g : Hg) (a0 : Nat) (x1 : Int32) : Option (Int32 × Hg) := b_X11_drop_0 N S g a0 x1
set_option maxHeartbeats 4000000 in
set_option maxRecDepth 100000 in
theorem w_X11_drop_0 (hx : p.tables.exec = Jvm.exec) (hb : c.code = cX11_drop) (hml : c.maxLocals = 4) (hr : meth.sig.returnType = (some .int)) (hlk : meth.locks = false) (hown : s.vm.findClass RX11 = some m.cls) (hX : Kx D cA lo tS s) (hRf : 2 ≤ R.frames) (hRl : 120 ≤ R.locals) {N : Nat} {rv : Int32} {g1 : Hg} {S : Hs} : ∀ (H : Heap) (locs : List Loc) (ls : Array Slot) (g : Hg) (a0 : Nat) (x1 : Int32), Mm D cA lo S g s H locs → Rf lo S a0 11 → lv_has ls 4 [(0, .ref a0), (1, .int x1)] → b_X11_drop_0 N S g a0 x1 = some (rv, g1) → W p l e R s m args below meth c H locs 0 0 (MQ below (Qcx D cA lo S (some (.int rv)) S g1 True) args s 0 0 (fun q : Nat => lo ≤ q)) (F0 m 0 ls []) := by
  intro H locs ls g a0 x1 M ra0 hl q
  unfold b_X11_drop_0 at q
  refine lv_aload_n hx hb dX11_drop_0 rfl (lv_at hl 0 rfl) ?_
  replace q := nn_s q
  obtain ⟨a_1, e_a_1, q⟩ := q
  refine x_getR hx hb hown hX M e_a_1 okX11 ra0 (by decide) rfl kw_359 dX11_drop_1 (fun ra_1 => ?_)
  refine lv_iload_n hx hb dX11_drop_4 rfl (lv_at hl 1 rfl) ?_
  replace q := c2_s q
  obtain ⟨o_3, g_2, qc, q⟩ := q
  refine x_callV hx hb hml hl.1 hown hX M (S1 := S) (As := [.int x1]) (rest := []) okX1 ra_1 rfl kw_732 kw_733 mok_X1_slotAt (c_X1_slotAt ra_1 qc (Nat.le_refl 1)) kw_731 rfl rfl dX11_drop_5 (Nat.le_of_ble_eq_true rfl) ⟨Nat.le_trans (by decide) hRf, Nat.le_trans (by decide) hRl⟩ (Nat.zero_le _) (Nat.zero_le _) (fun H locs M hEF => ?_)
  have ro_3 := hEF.2
  refine x_astore_n (lv' := [(2, va_rf o_3), (0, .ref a0), (1, .int x1)]) hx hb dX11_drop_8 rfl hl (by decide) rfl (fun ls hl => ?_)
  refine x_aload_n hx hb dX11_drop_9 rfl (lv_at hl 0 rfl) ?_
  refine x_ifnonnull (tgt := 15) hx hb dX11_drop_10 (by decide) (fun a_4 c_8 => ?_) (fun c_8 => ?_)
  · subst c_8
    replace q := on_s rfl q
    have ra_4 := ro_3 a_4 rfl
    have hl : lv_has ls 4 [(2, .ref a_4), (0, .ref a0), (1, .int x1)] := hl
    refine lv_aload_n hx hb dX11_drop_15 rfl (lv_at hl 0 rfl) ?_
    refine x_getI hx hb hown hX M (k := 5) okX7 ra_4 (by decide) rfl kw_198 dX11_drop_16 ?_
    refine lv_topi (fun x_5 e_x_5 => ?_)
    replace q := nm_s q e_x_5
    refine lv_istore_n (lv' := [(3, .int x_5), (2, .ref a_4), (0, .ref a0), (1, .int x1)]) hx hb dX11_drop_19 rfl hl (by decide) rfl (fun ls hl => ?_)
    refine lv_aload_n hx hb dX11_drop_20 rfl (lv_at hl 1 rfl) ?_
    refine lv_iconst (v := 0) hx hb dX11_drop_21 (by decide) ?_
    refine lv_iconst (v := 0) hx hb dX11_drop_22 (by decide) ?_
    refine lv_iconst (v := 0) hx hb dX11_drop_23 (by decide) ?_
    replace q := c2_s q
    obtain ⟨u_7, g_6, qc, q⟩ := q
    refine x_callV hx hb hml hl.1 hown hX M (S1 := S) (As := [.int (0 : Int32), .int (0 : Int32), .int (0 : Int32)]) (rest := []) okX7 ra_4 rfl kw_736 kw_737 mok_X7_begin (c_X7_begin ra_4 qc (Nat.le_refl 1)) kw_735 rfl rfl dX11_drop_24 (Nat.le_of_ble_eq_true rfl) ⟨Nat.le_trans (by decide) hRf, Nat.le_trans (by decide) hRl⟩ (Nat.zero_le _) (Nat.zero_le _) (fun H locs M hEF => ?_)
    refine lv_iload_n hx hb dX11_drop_27 rfl (lv_at hl 0 rfl) ?_
    cases q
    exact x_iret hx hb hr hlk M Ext.rf dX11_drop_28
  · replace q := on_n c_8 q
    refine lv_iconst (v := -1) hx hb dX11_drop_13 (by decide) ?_
    cases q
    exact x_iret hx hb hr hlk M Ext.rf dX11_drop_14
set_option maxRecDepth 100000 in
theorem c_X11_drop {l : Launch} {D : va_G} {cA : Nat → ClassId} {lo tS N : Nat} {S : Hs} {g g1 : Hg} {rv : Int32} {a0 : Nat} {x1 : Int32} (ra0 : Rf lo S a0 11) (q : f_X11_drop N S g a0 x1 = some (rv, g1)) {d : Nat} (hd : 2 ≤ d) : Ctr l yX11_drop cX11_drop 4 (some .int) D cA lo tS [.ref a0, .int x1] S g d (some (.int rv)) S g1 True 0 0 := by
  refine x_met (by decide) (Nat.le_of_ble_eq_true rfl) ?_
  intro p e s m below meth c ls hx hb hml hr hlk hown hnm hX M hl
  exact w_X11_drop_0 hx hb hml hr hlk hown hX hd (Nat.mul_le_mul_left 60 hd) (N := N) _ _ _ _ _ _ M ra0 (lv_sub hl [0, 1] rfl) q
def b_X11_forge_0 (N : Nat) (S : Hs) (g : Hg) (a0 : Nat) (x1 : Int32) (x2 : Int32) (x3 : Int32) (y4 : Int64) : Option (Int32 × Hg) :=
nn (rdR g a0 3) (fun a_1 =>
c2 (f_X1_slotAt N S g a_1 x1) (fun o_3 g_2 =>
on o_3 (
some ((0 : Int32), g_2)) (fun a_4 =>
if x2 < 0 then (
some ((0 : Int32), g_2)) else (
if x2 < (rdI g_2 a_4 3) then (
nn (rdR g_2 a_4 0) (fun a_7 =>
ck (inb x2 (hpL S a_7)) (
nm (wrI g_2 a_7 x2.toNatClampNeg x3) (fun g_8 =>
nn (rdR g_8 a_4 1) (fun a_9 =>
ck (inb x2 (hpL S a_9)) (
nm (wrL g_8 a_9 x2.toNatClampNeg y4) (fun g_10 =>
some ((1 : Int32), g_10)))))))) else (
some ((0 : Int32), g_2))))))
def f_X11_forge (N : Nat) (S : Hs) (g : Hg) (a0 : Nat) (x1 : Int32) (x2 : Int32) (x3 : Int32) (y4 : Int64) : Option (Int32 × Hg) := b_X11_forge_0 N S g a0 x1 x2 x3 y4
set_option maxHeartbeats 4000000 in
set_option maxRecDepth 100000 in
theorem w_X11_forge_0 (hx : p.tables.exec = Jvm.exec) (hb : c.code = cX11_forge) (hml : c.maxLocals = 7) (hr : meth.sig.returnType = (some .boolean)) (hlk : meth.locks = false) (hown : s.vm.findClass RX11 = some m.cls) (hX : Kx D cA lo tS s) (hRf : 2 ≤ R.frames) (hRl : 120 ≤ R.locals) {N : Nat} {rv : Int32} {g1 : Hg} {S : Hs} : ∀ (H : Heap) (locs : List Loc) (ls : Array Slot) (g : Hg) (a0 : Nat) (x1 : Int32) (x2 : Int32) (x3 : Int32) (y4 : Int64), Mm D cA lo S g s H locs → Rf lo S a0 11 → lv_has ls 7 [(0, .ref a0), (1, .int x1), (2, .int x2), (3, .int x3), (4, .long y4)] → b_X11_forge_0 N S g a0 x1 x2 x3 y4 = some (rv, g1) → W p l e R s m args below meth c H locs 0 0 (MQ below (Qcx D cA lo S (some (.int rv)) S g1 True) args s 0 0 (fun q : Nat => lo ≤ q)) (F0 m 0 ls []) := by
  intro H locs ls g a0 x1 x2 x3 y4 M ra0 hl q
  unfold b_X11_forge_0 at q
  refine lv_aload_n hx hb dX11_forge_0 rfl (lv_at hl 0 rfl) ?_
  replace q := nn_s q
  obtain ⟨a_1, e_a_1, q⟩ := q
  refine x_getR hx hb hown hX M e_a_1 okX11 ra0 (by decide) rfl kw_359 dX11_forge_1 (fun ra_1 => ?_)
  refine lv_iload_n hx hb dX11_forge_4 rfl (lv_at hl 1 rfl) ?_
  replace q := c2_s q
  obtain ⟨o_3, g_2, qc, q⟩ := q
  refine x_callV hx hb hml hl.1 hown hX M (S1 := S) (As := [.int x1]) (rest := []) okX1 ra_1 rfl kw_732 kw_733 mok_X1_slotAt (c_X1_slotAt ra_1 qc (Nat.le_refl 1)) kw_731 rfl rfl dX11_forge_5 (Nat.le_of_ble_eq_true rfl) ⟨Nat.le_trans (by decide) hRf, Nat.le_trans (by decide) hRl⟩ (Nat.zero_le _) (Nat.zero_le _) (fun H locs M hEF => ?_)
  have ro_3 := hEF.2
  refine x_astore (lv' := [(6, va_rf o_3), (0, .ref a0), (1, .int x1), (2, .int x2), (3, .int x3), (4, .long y4)]) hx hb dX11_forge_8 hl (by decide) rfl (fun ls hl => ?_)
  refine x_aload hx hb dX11_forge_10 (lv_at hl 0 rfl) ?_
  refine x_ifnull (tgt := 28) hx hb dX11_forge_12 (by decide) (fun c_11 => ?_) (fun a_4 c_11 => ?_)
  · replace q := on_n c_11 q
    refine lv_iconst (v := 0) hx hb dX11_forge_28 (by decide) ?_
    cases q
    exact x_zret hx hb hr hlk rfl M Ext.rf dX11_forge_29
  · subst c_11
    replace q := on_s rfl q
    have ra_4 := ro_3 a_4 rfl
    have hl : lv_has ls 7 [(6, .ref a_4), (0, .ref a0), (1, .int x1), (2, .int x2), (3, .int x3), (4, .long y4)] := hl
    refine lv_iload_n hx hb dX11_forge_15 rfl (lv_at hl 3 rfl) ?_
    refine lv_if_lt (tgt := 28) hx hb dX11_forge_16 (by decide) (fun c_5 => ?_) (fun c_5 => ?_)
    · replace q := if_t c_5 q
      refine lv_iconst (v := 0) hx hb dX11_forge_28 (by decide) ?_
      cases q
      exact x_zret hx hb hr hlk rfl M Ext.rf dX11_forge_29
    · replace q := if_f c_5 q
      refine lv_iload_n hx hb dX11_forge_19 rfl (lv_at hl 3 rfl) ?_
      refine lv_aload hx hb dX11_forge_20 (lv_at hl 0 rfl) ?_
      refine x_getI hx hb hown hX M (k := 3) okX7 ra_4 (by decide) rfl kw_191 dX11_forge_22 ?_
      refine lv_icmp_lt (tgt := 30) hx hb dX11_forge_25 (by decide) (fun c_6 => ?_) (fun c_6 => ?_)
      · replace q := if_t c_6 q
        refine lv_aload hx hb dX11_forge_30 (lv_at hl 0 rfl) ?_
        replace q := nn_s q
        obtain ⟨a_7, e_a_7, q⟩ := q
        refine x_getR hx hb hown hX M e_a_7 okX7 ra_4 (by decide) rfl kw_182 dX11_forge_32 (fun ra_7 => ?_)
        refine lv_iload_n hx hb dX11_forge_35 rfl (lv_at hl 3 rfl) ?_
        refine lv_iload_n hx hb dX11_forge_36 rfl (lv_at hl 4 rfl) ?_
        replace q := ck_s q
        obtain ⟨hin, q⟩ := q
        refine x_iast hx hb hX M ra_7 (inb_in hin) dX11_forge_37 (fun H locs M => ?_)
        replace q := gen_g M q
        obtain ⟨g_8, -, M, q⟩ := q
        refine lv_aload hx hb dX11_forge_38 (lv_at hl 0 rfl) ?_
        replace q := nn_s q
        obtain ⟨a_9, e_a_9, q⟩ := q
        refine x_getR hx hb hown hX M e_a_9 okX7 ra_4 (by decide) rfl kw_185 dX11_forge_40 (fun ra_9 => ?_)
        refine lv_iload_n hx hb dX11_forge_43 rfl (lv_at hl 3 rfl) ?_
        refine lv_lload hx hb dX11_forge_44 (lv_at hl 5 rfl) ?_
        replace q := ck_s q
        obtain ⟨hin, q⟩ := q
        refine x_last hx hb hX M ra_9 (inb_in hin) dX11_forge_46 (fun H locs M => ?_)
        replace q := gen_g M q
        obtain ⟨g_10, -, M, q⟩ := q
        refine lv_iconst (v := 1) hx hb dX11_forge_47 (by decide) ?_
        cases q
        exact x_zret hx hb hr hlk rfl M Ext.rf dX11_forge_48
      · replace q := if_f c_6 q
        refine lv_iconst (v := 0) hx hb dX11_forge_28 (by decide) ?_
        cases q
        exact x_zret hx hb hr hlk rfl M Ext.rf dX11_forge_29
set_option maxRecDepth 100000 in
theorem c_X11_forge {l : Launch} {D : va_G} {cA : Nat → ClassId} {lo tS N : Nat} {S : Hs} {g g1 : Hg} {rv : Int32} {a0 : Nat} {x1 : Int32} {x2 : Int32} {x3 : Int32} {y4 : Int64} (ra0 : Rf lo S a0 11) (q : f_X11_forge N S g a0 x1 x2 x3 y4 = some (rv, g1)) {d : Nat} (hd : 2 ≤ d) : Ctr l yX11_forge cX11_forge 7 (some .boolean) D cA lo tS [.ref a0, .int x1, .int x2, .int x3, .long y4] S g d (some (.int rv)) S g1 True 0 0 := by
  refine x_met (by decide) (Nat.le_of_ble_eq_true rfl) ?_
  intro p e s m below meth c ls hx hb hml hr hlk hown hnm hX M hl
  exact w_X11_forge_0 hx hb hml hr hlk hown hX hd (Nat.mul_le_mul_left 60 hd) (N := N) _ _ _ _ _ _ _ _ _ M ra0 (lv_sub hl [0, 1, 2, 3, 4] rfl) q
def b_X11_fork_0 (N : Nat) (S : Hs) (g : Hg) (a0 : Nat) (x1 : Int32) (x2 : Int32) : Option (Int32 × Hs × Hg × Nat × Nat) :=
nn (rdR g a0 3) (fun a_1 =>
c2 (f_X1_logAt N S g a_1 x1) (fun o_3 g_2 =>
on o_3 (
some ((-1 : Int32), S, g_2, 0, 0)) (fun a_4 =>
c2 (f_X3_reaches N S g_2 a_4 x2) (fun x_6 g_5 =>
if x_6 = 0 then (
some ((-1 : Int32), S, g_5, 0, 0)) else (
nn (rdR g_5 a0 3) (fun a_8 =>
c5 (f_X1_nextLog N S g_5 a_8) (fun o_10 S_11 g_9 =>
on o_10 (
some ((-1 : Int32), S_11, g_9, 0, 0)) (fun a_16 =>
c2 (f_X3_copyFirst N S_11 g_9 a_16 a_4 x2) (fun u_18 g_17 =>
nn (rdR g_17 a0 3) (fun a_19 =>
some (((rdI g_17 a_19 1) - (1 : Int32)), S_11, g_17, 0, 0)))))))))))
def f_X11_fork (N : Nat) (S : Hs) (g : Hg) (a0 : Nat) (x1 : Int32) (x2 : Int32) : Option (Int32 × Hs × Hg × Nat × Nat) := b_X11_fork_0 N S g a0 x1 x2
set_option maxHeartbeats 4000000 in
set_option maxRecDepth 100000 in
theorem w_X11_fork_0 (hx : p.tables.exec = Jvm.exec) (hb : c.code = cX11_fork) (hml : c.maxLocals = 5) (hr : meth.sig.returnType = (some .int)) (hlk : meth.locks = false) (hown : s.vm.findClass RX11 = some m.cls) (hX : Kx D cA lo tS s) (hRf : 4 ≤ R.frames) (hRl : 240 ≤ R.locals) {N : Nat} {rv : Int32} {g1 : Hg} {S0 S1 : Hs} {cT wT : Nat} (hRc : cT ≤ R.cells) (hRs : wT ≤ R.slots) : ∀ (H : Heap) (locs : List Loc) (ls : Array Slot) (cells slots k w : Nat) (S : Hs) (g : Hg) (a0 : Nat) (x1 : Int32) (x2 : Int32), Mm D cA lo S g s H locs → Ext lo S0 S → Rf lo S a0 11 → lv_has ls 5 [(0, .ref a0), (1, .int x1), (2, .int x2)] → b_X11_fork_0 N S g a0 x1 x2 = some (rv, S1, g1, k, w) → cells + k = cT → slots + w = wT → W p l e R s m args below meth c H locs cells slots (MQ below (Qcx D cA lo S0 (some (.int rv)) S1 g1 True) args s cT wT (fun q : Nat => lo ≤ q)) (F0 m 0 ls []) := by
  intro H locs ls cells slots k w S g a0 x1 x2 M hE ra0 hl q hc hs
  unfold b_X11_fork_0 at q
  refine lv_aload_n hx hb dX11_fork_0 rfl (lv_at hl 0 rfl) ?_
  replace q := nn_s q
  obtain ⟨a_1, e_a_1, q⟩ := q
  refine x_getR hx hb hown hX M e_a_1 okX11 ra0 (by decide) rfl kw_359 dX11_fork_1 (fun ra_1 => ?_)
  refine lv_iload_n hx hb dX11_fork_4 rfl (lv_at hl 1 rfl) ?_
  replace q := c2_s q
  obtain ⟨o_3, g_2, qc, q⟩ := q
  refine x_callV hx hb hml hl.1 hown hX M (S1 := S) (As := [.int x1]) (rest := []) okX1 ra_1 rfl kw_495 kw_496 mok_X1_logAt (c_X1_logAt ra_1 qc (Nat.le_refl 1)) kw_494 rfl rfl dX11_fork_5 (Nat.le_of_ble_eq_true rfl) ⟨Nat.le_trans (by decide) hRf, Nat.le_trans (by decide) hRl⟩ (hz_step hc hRc) (hz_step hs hRs) (fun H locs M hEF => ?_)
  have ro_3 := hEF.2
  refine x_astore_n (lv' := [(3, va_rf o_3), (0, .ref a0), (1, .int x1), (2, .int x2)]) hx hb dX11_fork_8 rfl hl (by decide) rfl (fun ls hl => ?_)
  refine x_aload_n hx hb dX11_fork_9 rfl (lv_at hl 0 rfl) ?_
  refine x_ifnull (tgt := 21) hx hb dX11_fork_10 (by decide) (fun c_21 => ?_) (fun a_4 c_21 => ?_)
  · replace q := on_n c_21 q
    refine lv_iconst (v := -1) hx hb dX11_fork_21 (by decide) ?_
    cases q
    have hc : cells = cT := hc
    have hs : slots = wT := hs
    subst hc
    subst hs
    exact x_iret hx hb hr hlk M hE dX11_fork_22
  · subst c_21
    replace q := on_s rfl q
    have ra_4 := ro_3 a_4 rfl
    have hl : lv_has ls 5 [(3, .ref a_4), (0, .ref a0), (1, .int x1), (2, .int x2)] := hl
    refine lv_aload_n hx hb dX11_fork_13 rfl (lv_at hl 0 rfl) ?_
    refine lv_iload_n hx hb dX11_fork_14 rfl (lv_at hl 3 rfl) ?_
    replace q := c2_s q
    obtain ⟨x_6, g_5, qc, q⟩ := q
    refine x_callV hx hb hml hl.1 hown hX M (S1 := S) (As := [.int x2]) (rest := []) okX3 ra_4 rfl kw_550 kw_551 mok_X3_reaches (c_X3_reaches ra_4 qc (Nat.le_refl 1)) kw_549 rfl rfl dX11_fork_15 (Nat.le_of_ble_eq_true rfl) ⟨Nat.le_trans (by decide) hRf, Nat.le_trans (by decide) hRl⟩ (hz_step hc hRc) (hz_step hs hRs) (fun H locs M hEF => ?_)
    refine lv_if_ne (tgt := 23) hx hb dX11_fork_18 (by decide) (fun c_7 => ?_) (fun c_7 => ?_)
    · replace q := if_f c_7 q
      refine lv_aload_n hx hb dX11_fork_23 rfl (lv_at hl 1 rfl) ?_
      replace q := nn_s q
      obtain ⟨a_8, e_a_8, q⟩ := q
      refine x_getR hx hb hown hX M e_a_8 okX11 ra0 (by decide) rfl kw_359 dX11_fork_24 (fun ra_8 => ?_)
      replace q := c5_s q
      obtain ⟨o_10, S_11, g_9, k_12, w_13, k_14, w_15, qc, ek, ew, q⟩ := q
      refine x_callV hx hb hml hl.1 hown hX M (As := []) (rest := []) okX1 ra_8 rfl kw_383 kw_384 mok_X1_nextLog (c_X1_nextLog ra_8 qc (Nat.le_refl 3)) kw_382 rfl rfl dX11_fork_27 (Nat.le_of_ble_eq_true rfl) ⟨Nat.le_trans (by decide) hRf, Nat.le_trans (by decide) hRl⟩ (hb_step hc ek hRc) (hb_step hs ew hRs) (fun H locs M hEF => ?_)
      have ro_10 := hEF.2
      replace ra0 := ra0.ext hEF.1
      replace ra_4 := ra_4.ext hEF.1
      replace hE := hE.tr hEF.1
      replace hc := hc_step hc ek
      replace hs := hc_step hs ew
      clear ek ew
      refine x_astore (lv' := [(4, va_rf o_10), (3, .ref a_4), (0, .ref a0), (1, .int x1), (2, .int x2)]) hx hb dX11_fork_30 hl (by decide) rfl (fun ls hl => ?_)
      refine x_aload hx hb dX11_fork_32 (lv_at hl 0 rfl) ?_
      refine x_ifnonnull (tgt := 39) hx hb dX11_fork_34 (by decide) (fun a_16 c_20 => ?_) (fun c_20 => ?_)
      · subst c_20
        replace q := on_s rfl q
        have ra_16 := ro_10 a_16 rfl
        have hl : lv_has ls 5 [(4, .ref a_16), (3, .ref a_4), (0, .ref a0), (1, .int x1), (2, .int x2)] := hl
        refine lv_aload hx hb dX11_fork_39 (lv_at hl 0 rfl) ?_
        refine lv_aload_n hx hb dX11_fork_41 rfl (lv_at hl 1 rfl) ?_
        refine lv_iload_n hx hb dX11_fork_42 rfl (lv_at hl 4 rfl) ?_
        replace q := c2_s q
        obtain ⟨u_18, g_17, qc, q⟩ := q
        refine x_callV hx hb hml hl.1 hown hX M (S1 := S_11) (As := [.ref a_4, .int x2]) (rest := []) okX3 ra_16 rfl kw_554 kw_555 mok_X3_copyFirst (c_X3_copyFirst ra_16 ra_4 qc (Nat.le_refl 2)) kw_553 rfl rfl dX11_fork_43 (Nat.le_of_ble_eq_true rfl) ⟨Nat.le_trans (by decide) hRf, Nat.le_trans (by decide) hRl⟩ (hz_step hc hRc) (hz_step hs hRs) (fun H locs M hEF => ?_)
        refine lv_aload_n hx hb dX11_fork_46 rfl (lv_at hl 2 rfl) ?_
        replace q := nn_s q
        obtain ⟨a_19, e_a_19, q⟩ := q
        refine x_getR hx hb hown hX M e_a_19 okX11 ra0 (by decide) rfl kw_359 dX11_fork_47 (fun ra_19 => ?_)
        refine x_getI hx hb hown hX M (k := 1) okX1 ra_19 (by decide) rfl kw_321 dX11_fork_50 ?_
        refine lv_iconst (v := 1) hx hb dX11_fork_53 (by decide) ?_
        refine lv_isub hx hb dX11_fork_54 ?_
        cases q
        have hc : cells + k_12 = cT := hc
        have hs : slots + w_13 = wT := hs
        subst hc
        subst hs
        exact x_iret hx hb hr hlk M hE dX11_fork_55
      · replace q := on_n c_20 q
        refine lv_iconst (v := -1) hx hb dX11_fork_37 (by decide) ?_
        cases q
        have hc : cells + k_12 = cT := hc
        have hs : slots + w_13 = wT := hs
        subst hc
        subst hs
        exact x_iret hx hb hr hlk M hE dX11_fork_38
    · replace q := if_t c_7 q
      refine lv_iconst (v := -1) hx hb dX11_fork_21 (by decide) ?_
      cases q
      have hc : cells = cT := hc
      have hs : slots = wT := hs
      subst hc
      subst hs
      exact x_iret hx hb hr hlk M hE dX11_fork_22
set_option maxRecDepth 100000 in
theorem c_X11_fork {l : Launch} {D : va_G} {cA : Nat → ClassId} {lo tS N : Nat} {S S1 : Hs} {g g1 : Hg} {k w : Nat} {rv : Int32} {a0 : Nat} {x1 : Int32} {x2 : Int32} (ra0 : Rf lo S a0 11) (q : f_X11_fork N S g a0 x1 x2 = some (rv, S1, g1, k, w)) {d : Nat} (hd : 4 ≤ d) : Ctr l yX11_fork cX11_fork 5 (some .int) D cA lo tS [.ref a0, .int x1, .int x2] S g d (some (.int rv)) S1 g1 True k w := by
  refine x_met (by decide) (Nat.le_of_ble_eq_true rfl) ?_
  intro p e s m below meth c ls hx hb hml hr hlk hown hnm hX M hl
  exact w_X11_fork_0 hx hb hml hr hlk hown hX hd (Nat.mul_le_mul_left 60 hd) (N := N) (Nat.le_refl k) (Nat.le_refl w) _ _ _ _ _ _ _ _ _ _ _ _ M Ext.rf ra0 (lv_sub hl [0, 1, 2] rfl) q (Nat.zero_add k) (Nat.zero_add w)
end W6
