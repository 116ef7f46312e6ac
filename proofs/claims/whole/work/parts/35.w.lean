section W15
variable {p : Program} {l : Launch} {e : Env} {R : Room} {s : State} {m : MethodId} {args : Array Value} {below : List Frame} {meth : Method} {c : Code} {D : va_G} {cA : Nat → ClassId} {lo tS : Nat}
def b_X12_isSpanRight_68 (N : Nat) (S : Hs) (k68 : Hg → Nat → Int32 → Nat → Int32 → Int32 → Int32 → Int32 → Option (Int32 × Hg)) (g : Hg) (a0 : Nat) (x1 : Int32) (a2 : Nat) (x3 : Int32) (x4 : Int32) (x5 : Int32) (x6 : Int32) : Option (Int32 × Hg) :=
if x5 ≤ x6 then (
nn (rdR g a0 9) (fun a_2 =>
ck (inb (((8 : Int32) * x1) + (2 : Int32)) (hpL S a_2)) (
c2 (f_X12_laySteps N S g a0 x1 x5 (rdI g a_2 (((8 : Int32) * x1) + (2 : Int32)).toNatClampNeg)) (fun u_4 g_3 =>
nn (rdR g_3 a0 64) (fun a_5 =>
c2 (f_X12_top N S g_3 a0 a_5 (0 : Int32)) (fun u_7 g_6 =>
nn (rdR g_6 a0 64) (fun a_8 =>
c2 (f_X12_areLike N S g_6 a_8 (0 : Int32) a2 (x3 + (4 : Int32))) (fun x_10 g_9 =>
ck (zb x_10) (
some (x_10, g_9)))))))))) else (
nn (rdR g a0 10) (fun a_11 =>
ck (inb ((((40 : Int32) * x1) + x6) - x4) (hpL S a_11)) (
nn (rdR g a0 11) (fun a_12 =>
ck (inb ((((40 : Int32) * x1) + x6) - x4) (hpL S a_12)) (
nn (rdR g a0 51) (fun a_13 =>
c2 (f_X12_entrySum N S g a0 (rdI g a_11 ((((40 : Int32) * x1) + x6) - x4).toNatClampNeg) (rdL g a_12 ((((40 : Int32) * x1) + x6) - x4).toNatClampNeg) a_13 (0 : Int32)) (fun u_15 g_14 =>
nn (rdR g_14 a0 51) (fun a_16 =>
c2 (f_X12_lay N S g_14 a0 x6 (1 : Int32) a_16 (0 : Int32)) (fun u_18 g_17 =>
nm (x6 + 1) (fun x_19 =>
k68 g_17 a0 x1 a2 x3 x4 x5 x_19))))))))))
def n_X12_isSpanRight_68 (N : Nat) (S : Hs) : Nat → Hg → Nat → Int32 → Nat → Int32 → Int32 → Int32 → Int32 → Option (Int32 × Hg)
  | 0 => fun _ _ _ _ _ _ _ _ => none
  | n + 1 => fun g a0 x1 a2 x3 x4 x5 x6 => b_X12_isSpanRight_68 N S (n_X12_isSpanRight_68 N S n) g a0 x1 a2 x3 x4 x5 x6
def b_X12_isSpanRight_44 (N : Nat) (S : Hs) (g : Hg) (a0 : Nat) (x1 : Int32) (a2 : Nat) (x3 : Int32) (x4 : Int32) (sx0 : Int32) : Option (Int32 × Hg) :=
nm (wrI g a0 49 (0 : Int32)) (fun g_1 =>
nm (wrI g_1 a0 63 (0 : Int32)) (fun g_2 =>
c2 (f_X12_laySteps N S g_2 a0 x1 (0 : Int32) x4) (fun u_4 g_3 =>
n_X12_isSpanRight_68 N S N g_3 a0 x1 a2 x3 x4 sx0 x4)))
def b_X12_isSpanRight_0 (N : Nat) (S : Hs) (g : Hg) (a0 : Nat) (x1 : Int32) (a2 : Nat) (x3 : Int32) : Option (Int32 × Hg) :=
nn (rdR g a0 9) (fun a_1 =>
ck (inb (((8 : Int32) * x1) + (3 : Int32)) (hpL S a_1)) (
nm (rdI g a_1 (((8 : Int32) * x1) + (3 : Int32)).toNatClampNeg) (fun x_2 =>
nn (rdR g a0 9) (fun a_3 =>
ck (inb ((8 : Int32) * x1) (hpL S a_3)) (
if (rdI g a_3 ((8 : Int32) * x1).toNatClampNeg) = (1 : Int32) then (
b_X12_isSpanRight_44 N S g a0 x1 a2 x3 x_2 (x_2 + (1 : Int32))) else (
nn (rdR g a0 9) (fun a_5 =>
ck (inb (((8 : Int32) * x1) + (4 : Int32)) (hpL S a_5)) (
b_X12_isSpanRight_44 N S g a0 x1 a2 x3 x_2 (rdI g a_5 (((8 : Int32) * x1) + (4 : Int32)).toNatClampNeg)))))))))
def f_X12_isSpanRight (N : Nat) (S : Hs) (g : Hg) (a0 : Nat) (x1 : Int32) (a2 : Nat) (x3 : Int32) : Option (Int32 × Hg) := b_X12_isSpanRight_0 N S g a0 x1 a2 x3
set_option maxHeartbeats 4000000 in
set_option maxRecDepth 100000 in
theorem w_X12_isSpanRight_68 (hx : p.tables.exec = Jvm.exec) (hb : c.code = cX12_isSpanRight) (hml : c.maxLocals = 7) (hr : meth.sig.returnType = (some .boolean)) (hlk : meth.locks = false) (hown : s.vm.findClass RX12 = some m.cls) (hX : Kx D cA lo tS s) (hRf : 6 ≤ R.frames) (hRl : 360 ≤ R.locals) {N : Nat} {rv : Int32} {g1 : Hg} {S : Hs} {k68 : Hg → Nat → Int32 → Nat → Int32 → Int32 → Int32 → Int32 → Option (Int32 × Hg)} (hk68 : ∀ (H : Heap) (locs : List Loc) (ls : Array Slot) (g : Hg) (a0 : Nat) (x1 : Int32) (a2 : Nat) (x3 : Int32) (x4 : Int32) (x5 : Int32) (x6 : Int32), Mm D cA lo S g s H locs → Rf lo S a0 12 → Rf lo S a2 20 → lv_has ls 7 [(0, .ref a0), (1, .int x1), (2, .ref a2), (3, .int x3), (4, .int x4), (5, .int x5), (6, .int x6)] → k68 g a0 x1 a2 x3 x4 x5 x6 = some (rv, g1) → W p l e R s m args below meth c H locs 0 0 (MQ below (Qcx D cA lo S (some (.int rv)) S g1 True) args s 0 0 (fun q : Nat => lo ≤ q)) (F0 m 68 ls [])) : ∀ (H : Heap) (locs : List Loc) (ls : Array Slot) (g : Hg) (a0 : Nat) (x1 : Int32) (a2 : Nat) (x3 : Int32) (x4 : Int32) (x5 : Int32) (x6 : Int32), Mm D cA lo S g s H locs → Rf lo S a0 12 → Rf lo S a2 20 → lv_has ls 7 [(0, .ref a0), (1, .int x1), (2, .ref a2), (3, .int x3), (4, .int x4), (5, .int x5), (6, .int x6)] → b_X12_isSpanRight_68 N S k68 g a0 x1 a2 x3 x4 x5 x6 = some (rv, g1) → W p l e R s m args below meth c H locs 0 0 (MQ below (Qcx D cA lo S (some (.int rv)) S g1 True) args s 0 0 (fun q : Nat => lo ≤ q)) (F0 m 68 ls []) := by
  intro H locs ls g a0 x1 a2 x3 x4 x5 x6 M ra0 ra2 hl q
  unfold b_X12_isSpanRight_68 at q
  refine lv_iload hx hb dX12_isSpanRight_68 (lv_at hl 6 rfl) ?_
  refine lv_iload hx hb dX12_isSpanRight_70 (lv_at hl 5 rfl) ?_
  refine lv_icmp_ge (tgt := 132) hx hb dX12_isSpanRight_72 (by decide) (fun c_1 => ?_) (fun c_1 => ?_)
  · replace q := if_t c_1 q
    refine lv_aload_n hx hb dX12_isSpanRight_132 rfl (lv_at hl 0 rfl) ?_
    refine lv_iload_n hx hb dX12_isSpanRight_133 rfl (lv_at hl 1 rfl) ?_
    refine lv_iload hx hb dX12_isSpanRight_134 (lv_at hl 5 rfl) ?_
    refine lv_aload_n hx hb dX12_isSpanRight_136 rfl (lv_at hl 0 rfl) ?_
    replace q := nn_s q
    obtain ⟨a_2, e_a_2, q⟩ := q
    refine x_getR hx hb hown hX M e_a_2 okX12 ra0 (by decide) rfl kw_1021 dX12_isSpanRight_137 (fun ra_2 => ?_)
    refine lv_bipush (v := 8) hx hb dX12_isSpanRight_140 (by decide) ?_
    refine lv_iload_n hx hb dX12_isSpanRight_142 rfl (lv_at hl 1 rfl) ?_
    refine lv_imul hx hb dX12_isSpanRight_143 ?_
    refine lv_iconst (v := 2) hx hb dX12_isSpanRight_144 (by decide) ?_
    refine lv_iadd hx hb dX12_isSpanRight_145 ?_
    replace q := ck_s q
    obtain ⟨hin, q⟩ := q
    refine x_iald hx hb hX M ra_2 (inb_in hin) dX12_isSpanRight_146 ?_
    replace q := c2_s q
    obtain ⟨u_4, g_3, qc, q⟩ := q
    refine x_callV hx hb hml hl.1 hown hX M (S1 := S) (As := [.int x1, .int x5, .int (rdI g a_2 (((8 : Int32) * x1) + (2 : Int32)).toNatClampNeg)]) (rest := []) okX12 ra0 rfl kw_1429 kw_45 mok_X12_laySteps (c_X12_laySteps ra0 qc (Nat.le_refl 5)) kw_1427 rfl rfl dX12_isSpanRight_147 (Nat.le_of_ble_eq_true rfl) ⟨Nat.le_trans (by decide) hRf, Nat.le_trans (by decide) hRl⟩ (Nat.zero_le _) (Nat.zero_le _) (fun H locs M hEF => ?_)
    refine lv_aload_n hx hb dX12_isSpanRight_150 rfl (lv_at hl 0 rfl) ?_
    refine lv_aload_n hx hb dX12_isSpanRight_151 rfl (lv_at hl 0 rfl) ?_
    replace q := nn_s q
    obtain ⟨a_5, e_a_5, q⟩ := q
    refine x_getR hx hb hown hX M e_a_5 okX12 ra0 (by decide) rfl kw_1076 dX12_isSpanRight_152 (fun ra_5 => ?_)
    refine lv_iconst (v := 0) hx hb dX12_isSpanRight_155 (by decide) ?_
    replace q := c2_s q
    obtain ⟨u_7, g_6, qc, q⟩ := q
    refine x_callV hx hb hml hl.1 hown hX M (S1 := S) (As := [.ref a_5, .int (0 : Int32)]) (rest := []) okX12 ra0 rfl kw_1329 kw_32 mok_X12_top (c_X12_top ra0 ra_5 qc (Nat.le_refl 4)) kw_1327 rfl rfl dX12_isSpanRight_156 (Nat.le_of_ble_eq_true rfl) ⟨Nat.le_trans (by decide) hRf, Nat.le_trans (by decide) hRl⟩ (Nat.zero_le _) (Nat.zero_le _) (fun H locs M hEF => ?_)
    refine lv_aload_n hx hb dX12_isSpanRight_159 rfl (lv_at hl 0 rfl) ?_
    replace q := nn_s q
    obtain ⟨a_8, e_a_8, q⟩ := q
    refine x_getR hx hb hown hX M e_a_8 okX12 ra0 (by decide) rfl kw_1076 dX12_isSpanRight_160 (fun ra_8 => ?_)
    refine lv_iconst (v := 0) hx hb dX12_isSpanRight_163 (by decide) ?_
    refine lv_aload_n hx hb dX12_isSpanRight_164 rfl (lv_at hl 2 rfl) ?_
    refine lv_iload_n hx hb dX12_isSpanRight_165 rfl (lv_at hl 3 rfl) ?_
    refine lv_iconst (v := 4) hx hb dX12_isSpanRight_166 (by decide) ?_
    refine lv_iadd hx hb dX12_isSpanRight_167 ?_
    replace q := c2_s q
    obtain ⟨x_10, g_9, qc, q⟩ := q
    refine x_callS hx hb hml hl.1 hown hX M (S1 := S) (As := [.ref a_8, .int (0 : Int32), .ref a2, .int (x3 + (4 : Int32))]) (rest := []) kw_1432 mok_X12_areLike (c_X12_areLike ra_8 ra2 qc (Nat.le_refl 1)) kw_1431 rfl rfl dX12_isSpanRight_168 (Nat.le_of_ble_eq_true rfl) ⟨Nat.le_trans (by decide) hRf, Nat.le_trans (by decide) hRl⟩ (Nat.zero_le _) (Nat.zero_le _) (fun H locs M hEF => ?_)
    replace q := ck_s q
    obtain ⟨hz, q⟩ := q
    cases q
    exact x_zret hx hb hr hlk (zb_nar hz) M Ext.rf dX12_isSpanRight_171
  · replace q := if_f c_1 q
    refine lv_aload_n hx hb dX12_isSpanRight_75 rfl (lv_at hl 0 rfl) ?_
    refine lv_aload_n hx hb dX12_isSpanRight_76 rfl (lv_at hl 0 rfl) ?_
    replace q := nn_s q
    obtain ⟨a_11, e_a_11, q⟩ := q
    refine x_getR hx hb hown hX M e_a_11 okX12 ra0 (by decide) rfl kw_1022 dX12_isSpanRight_77 (fun ra_11 => ?_)
    refine lv_bipush (v := 40) hx hb dX12_isSpanRight_80 (by decide) ?_
    refine lv_iload_n hx hb dX12_isSpanRight_82 rfl (lv_at hl 1 rfl) ?_
    refine lv_imul hx hb dX12_isSpanRight_83 ?_
    refine lv_iload hx hb dX12_isSpanRight_84 (lv_at hl 6 rfl) ?_
    refine lv_iadd hx hb dX12_isSpanRight_86 ?_
    refine lv_iload hx hb dX12_isSpanRight_87 (lv_at hl 4 rfl) ?_
    refine lv_isub hx hb dX12_isSpanRight_89 ?_
    replace q := ck_s q
    obtain ⟨hin, q⟩ := q
    refine x_iald hx hb hX M ra_11 (inb_in hin) dX12_isSpanRight_90 ?_
    refine lv_aload_n hx hb dX12_isSpanRight_91 rfl (lv_at hl 0 rfl) ?_
    replace q := nn_s q
    obtain ⟨a_12, e_a_12, q⟩ := q
    refine x_getR hx hb hown hX M e_a_12 okX12 ra0 (by decide) rfl kw_1023 dX12_isSpanRight_92 (fun ra_12 => ?_)
    refine lv_bipush (v := 40) hx hb dX12_isSpanRight_95 (by decide) ?_
    refine lv_iload_n hx hb dX12_isSpanRight_97 rfl (lv_at hl 1 rfl) ?_
    refine lv_imul hx hb dX12_isSpanRight_98 ?_
    refine lv_iload hx hb dX12_isSpanRight_99 (lv_at hl 6 rfl) ?_
    refine lv_iadd hx hb dX12_isSpanRight_101 ?_
    refine lv_iload hx hb dX12_isSpanRight_102 (lv_at hl 4 rfl) ?_
    refine lv_isub hx hb dX12_isSpanRight_104 ?_
    replace q := ck_s q
    obtain ⟨hin, q⟩ := q
    refine x_lald hx hb hX M ra_12 (inb_in hin) dX12_isSpanRight_105 ?_
    refine lv_aload_n hx hb dX12_isSpanRight_106 rfl (lv_at hl 0 rfl) ?_
    replace q := nn_s q
    obtain ⟨a_13, e_a_13, q⟩ := q
    refine x_getR hx hb hown hX M e_a_13 okX12 ra0 (by decide) rfl kw_1063 dX12_isSpanRight_107 (fun ra_13 => ?_)
    refine lv_iconst (v := 0) hx hb dX12_isSpanRight_110 (by decide) ?_
    replace q := c2_s q
    obtain ⟨u_15, g_14, qc, q⟩ := q
    refine x_callV hx hb hml hl.1 hown hX M (S1 := S) (As := [.int (rdI g a_11 ((((40 : Int32) * x1) + x6) - x4).toNatClampNeg), .long (rdL g a_12 ((((40 : Int32) * x1) + x6) - x4).toNatClampNeg), .ref a_13, .int (0 : Int32)]) (rest := []) okX12 ra0 rfl kw_1317 kw_29 mok_X12_entrySum (c_X12_entrySum ra0 ra_13 qc (Nat.le_refl 3)) kw_1315 rfl rfl dX12_isSpanRight_111 (Nat.le_of_ble_eq_true rfl) ⟨Nat.le_trans (by decide) hRf, Nat.le_trans (by decide) hRl⟩ (Nat.zero_le _) (Nat.zero_le _) (fun H locs M hEF => ?_)
    refine lv_aload_n hx hb dX12_isSpanRight_114 rfl (lv_at hl 0 rfl) ?_
    refine lv_iload hx hb dX12_isSpanRight_115 (lv_at hl 6 rfl) ?_
    refine lv_iconst (v := 1) hx hb dX12_isSpanRight_117 (by decide) ?_
    refine lv_aload_n hx hb dX12_isSpanRight_118 rfl (lv_at hl 0 rfl) ?_
    replace q := nn_s q
    obtain ⟨a_16, e_a_16, q⟩ := q
    refine x_getR hx hb hown hX M e_a_16 okX12 ra0 (by decide) rfl kw_1063 dX12_isSpanRight_119 (fun ra_16 => ?_)
    refine lv_iconst (v := 0) hx hb dX12_isSpanRight_122 (by decide) ?_
    replace q := c2_s q
    obtain ⟨u_18, g_17, qc, q⟩ := q
    refine x_callV hx hb hml hl.1 hown hX M (S1 := S) (As := [.int x6, .int (1 : Int32), .ref a_16, .int (0 : Int32)]) (rest := []) okX12 ra0 rfl kw_1325 kw_31 mok_X12_lay (c_X12_lay ra0 ra_16 qc (Nat.le_refl 4)) kw_1323 rfl rfl dX12_isSpanRight_123 (Nat.le_of_ble_eq_true rfl) ⟨Nat.le_trans (by decide) hRf, Nat.le_trans (by decide) hRl⟩ (Nat.zero_le _) (Nat.zero_le _) (fun H locs M hEF => ?_)
    obtain ⟨x_19, e_x_19⟩ : ∃ y : Int32, y = x6 + 1 := ⟨_, rfl⟩
    replace q := nm_s q e_x_19
    refine lv_iinc (v := x_19) (lv' := [(6, .int x_19), (0, .ref a0), (1, .int x1), (2, .ref a2), (3, .int x3), (4, .int x4), (5, .int x5)]) hx hb dX12_isSpanRight_126 hl (k := 6) rfl (by rw [e_x_19]; rfl) (by decide) rfl (fun ls hl => ?_)
    refine lv_goto (tgt := 68) hx hb dX12_isSpanRight_129 (by decide) ?_
    exact hk68 _ _ _ _ _ _ _ _ _ _ _ M ra0 ra2 (lv_sub hl [1, 2, 3, 4, 5, 6, 0] rfl) q
set_option maxRecDepth 100000 in
theorem l_X12_isSpanRight_68 (hx : p.tables.exec = Jvm.exec) (hb : c.code = cX12_isSpanRight) (hml : c.maxLocals = 7) (hr : meth.sig.returnType = (some .boolean)) (hlk : meth.locks = false) (hown : s.vm.findClass RX12 = some m.cls) (hX : Kx D cA lo tS s) (hRf : 6 ≤ R.frames) (hRl : 360 ≤ R.locals) {N : Nat} {rv : Int32} {g1 : Hg} {S : Hs} : ∀ (n : Nat), ∀ (H : Heap) (locs : List Loc) (ls : Array Slot) (g : Hg) (a0 : Nat) (x1 : Int32) (a2 : Nat) (x3 : Int32) (x4 : Int32) (x5 : Int32) (x6 : Int32), Mm D cA lo S g s H locs → Rf lo S a0 12 → Rf lo S a2 20 → lv_has ls 7 [(0, .ref a0), (1, .int x1), (2, .ref a2), (3, .int x3), (4, .int x4), (5, .int x5), (6, .int x6)] → n_X12_isSpanRight_68 N S n g a0 x1 a2 x3 x4 x5 x6 = some (rv, g1) → W p l e R s m args below meth c H locs 0 0 (MQ below (Qcx D cA lo S (some (.int rv)) S g1 True) args s 0 0 (fun q : Nat => lo ≤ q)) (F0 m 68 ls []) := by
  intro n
  induction n with
  | zero =>
    intro H locs ls g a0 x1 a2 x3 x4 x5 x6 M ra0 ra2 hl q
    exact absurd q (by simp [n_X12_isSpanRight_68])
  | succ n ih => exact w_X12_isSpanRight_68 hx hb hml hr hlk hown hX hRf hRl (N := N)  ih
set_option maxHeartbeats 4000000 in
set_option maxRecDepth 100000 in
theorem w_X12_isSpanRight_44 (hx : p.tables.exec = Jvm.exec) (hb : c.code = cX12_isSpanRight) (hml : c.maxLocals = 7) (hr : meth.sig.returnType = (some .boolean)) (hlk : meth.locks = false) (hown : s.vm.findClass RX12 = some m.cls) (hX : Kx D cA lo tS s) (hRf : 6 ≤ R.frames) (hRl : 360 ≤ R.locals) {N : Nat} {rv : Int32} {g1 : Hg} {S : Hs} : ∀ (H : Heap) (locs : List Loc) (ls : Array Slot) (g : Hg) (a0 : Nat) (x1 : Int32) (a2 : Nat) (x3 : Int32) (x4 : Int32) (sx0 : Int32), Mm D cA lo S g s H locs → Rf lo S a0 12 → Rf lo S a2 20 → lv_has ls 7 [(0, .ref a0), (1, .int x1), (2, .ref a2), (3, .int x3), (4, .int x4)] → b_X12_isSpanRight_44 N S g a0 x1 a2 x3 x4 sx0 = some (rv, g1) → W p l e R s m args below meth c H locs 0 0 (MQ below (Qcx D cA lo S (some (.int rv)) S g1 True) args s 0 0 (fun q : Nat => lo ≤ q)) (F0 m 44 ls [.int sx0]) := by
  intro H locs ls g a0 x1 a2 x3 x4 sx0 M ra0 ra2 hl q
  unfold b_X12_isSpanRight_44 at q
  refine lv_istore (lv' := [(5, .int sx0), (0, .ref a0), (1, .int x1), (2, .ref a2), (3, .int x3), (4, .int x4)]) hx hb dX12_isSpanRight_44 hl (by decide) rfl (fun ls hl => ?_)
  refine lv_aload_n hx hb dX12_isSpanRight_46 rfl (lv_at hl 1 rfl) ?_
  refine lv_iconst (v := 0) hx hb dX12_isSpanRight_47 (by decide) ?_
  refine x_putI hx hb hown hX M (k := 49) okX12 ra0 (by decide) rfl (Or.inl rfl) rfl rfl kw_1061 dX12_isSpanRight_48 (fun H locs M => ?_)
  replace q := gen_g M q
  obtain ⟨g_1, -, M, q⟩ := q
  refine lv_aload_n hx hb dX12_isSpanRight_51 rfl (lv_at hl 1 rfl) ?_
  refine lv_iconst (v := 0) hx hb dX12_isSpanRight_52 (by decide) ?_
  refine x_putI hx hb hown hX M (k := 63) okX12 ra0 (by decide) rfl (Or.inl rfl) rfl rfl kw_1075 dX12_isSpanRight_53 (fun H locs M => ?_)
  replace q := gen_g M q
  obtain ⟨g_2, -, M, q⟩ := q
  refine lv_aload_n hx hb dX12_isSpanRight_56 rfl (lv_at hl 1 rfl) ?_
  refine lv_iload_n hx hb dX12_isSpanRight_57 rfl (lv_at hl 2 rfl) ?_
  refine lv_iconst (v := 0) hx hb dX12_isSpanRight_58 (by decide) ?_
  refine lv_iload hx hb dX12_isSpanRight_59 (lv_at hl 5 rfl) ?_
  replace q := c2_s q
  obtain ⟨u_4, g_3, qc, q⟩ := q
  refine x_callV hx hb hml hl.1 hown hX M (S1 := S) (As := [.int x1, .int (0 : Int32), .int x4]) (rest := []) okX12 ra0 rfl kw_1429 kw_45 mok_X12_laySteps (c_X12_laySteps ra0 qc (Nat.le_refl 5)) kw_1427 rfl rfl dX12_isSpanRight_61 (Nat.le_of_ble_eq_true rfl) ⟨Nat.le_trans (by decide) hRf, Nat.le_trans (by decide) hRl⟩ (Nat.zero_le _) (Nat.zero_le _) (fun H locs M hEF => ?_)
  refine lv_iload hx hb dX12_isSpanRight_64 (lv_at hl 5 rfl) ?_
  refine lv_istore (lv' := [(6, .int x4), (5, .int sx0), (0, .ref a0), (1, .int x1), (2, .ref a2), (3, .int x3), (4, .int x4)]) hx hb dX12_isSpanRight_66 hl (by decide) rfl (fun ls hl => ?_)
  exact l_X12_isSpanRight_68 hx hb hml hr hlk hown hX hRf hRl (N := N)  N _ _ _ _ _ _ _ _ _ _ _ M ra0 ra2 (lv_sub hl [2, 3, 4, 5, 6, 1, 0] rfl) q
set_option maxHeartbeats 4000000 in
set_option maxRecDepth 100000 in
theorem w_X12_isSpanRight_0 (hx : p.tables.exec = Jvm.exec) (hb : c.code = cX12_isSpanRight) (hml : c.maxLocals = 7) (hr : meth.sig.returnType = (some .boolean)) (hlk : meth.locks = false) (hown : s.vm.findClass RX12 = some m.cls) (hX : Kx D cA lo tS s) (hRf : 6 ≤ R.frames) (hRl : 360 ≤ R.locals) {N : Nat} {rv : Int32} {g1 : Hg} {S : Hs} : ∀ (H : Heap) (locs : List Loc) (ls : Array Slot) (g : Hg) (a0 : Nat) (x1 : Int32) (a2 : Nat) (x3 : Int32), Mm D cA lo S g s H locs → Rf lo S a0 12 → Rf lo S a2 20 → lv_has ls 7 [(0, .ref a0), (1, .int x1), (2, .ref a2), (3, .int x3)] → b_X12_isSpanRight_0 N S g a0 x1 a2 x3 = some (rv, g1) → W p l e R s m args below meth c H locs 0 0 (MQ below (Qcx D cA lo S (some (.int rv)) S g1 True) args s 0 0 (fun q : Nat => lo ≤ q)) (F0 m 0 ls []) := by
  intro H locs ls g a0 x1 a2 x3 M ra0 ra2 hl q
  unfold b_X12_isSpanRight_0 at q
  refine lv_aload_n hx hb dX12_isSpanRight_0 rfl (lv_at hl 0 rfl) ?_
  replace q := nn_s q
  obtain ⟨a_1, e_a_1, q⟩ := q
  refine x_getR hx hb hown hX M e_a_1 okX12 ra0 (by decide) rfl kw_1021 dX12_isSpanRight_1 (fun ra_1 => ?_)
  refine lv_bipush (v := 8) hx hb dX12_isSpanRight_4 (by decide) ?_
  refine lv_iload_n hx hb dX12_isSpanRight_6 rfl (lv_at hl 1 rfl) ?_
  refine lv_imul hx hb dX12_isSpanRight_7 ?_
  refine lv_iconst (v := 3) hx hb dX12_isSpanRight_8 (by decide) ?_
  refine lv_iadd hx hb dX12_isSpanRight_9 ?_
  replace q := ck_s q
  obtain ⟨hin, q⟩ := q
  refine x_iald hx hb hX M ra_1 (inb_in hin) dX12_isSpanRight_10 ?_
  refine lv_topi (fun x_2 e_x_2 => ?_)
  replace q := nm_s q e_x_2
  refine lv_istore (lv' := [(4, .int x_2), (0, .ref a0), (1, .int x1), (2, .ref a2), (3, .int x3)]) hx hb dX12_isSpanRight_11 hl (by decide) rfl (fun ls hl => ?_)
  refine lv_aload_n hx hb dX12_isSpanRight_13 rfl (lv_at hl 1 rfl) ?_
  replace q := nn_s q
  obtain ⟨a_3, e_a_3, q⟩ := q
  refine x_getR hx hb hown hX M e_a_3 okX12 ra0 (by decide) rfl kw_1021 dX12_isSpanRight_14 (fun ra_3 => ?_)
  refine lv_bipush (v := 8) hx hb dX12_isSpanRight_17 (by decide) ?_
  refine lv_iload_n hx hb dX12_isSpanRight_19 rfl (lv_at hl 2 rfl) ?_
  refine lv_imul hx hb dX12_isSpanRight_20 ?_
  replace q := ck_s q
  obtain ⟨hin, q⟩ := q
  refine x_iald hx hb hX M ra_3 (inb_in hin) dX12_isSpanRight_21 ?_
  refine lv_iconst (v := 1) hx hb dX12_isSpanRight_22 (by decide) ?_
  refine lv_icmp_ne (tgt := 33) hx hb dX12_isSpanRight_23 (by decide) (fun c_4 => ?_) (fun c_4 => ?_)
  · replace q := if_f c_4 q
    refine lv_aload_n hx hb dX12_isSpanRight_33 rfl (lv_at hl 1 rfl) ?_
    replace q := nn_s q
    obtain ⟨a_5, e_a_5, q⟩ := q
    refine x_getR hx hb hown hX M e_a_5 okX12 ra0 (by decide) rfl kw_1021 dX12_isSpanRight_34 (fun ra_5 => ?_)
    refine lv_bipush (v := 8) hx hb dX12_isSpanRight_37 (by decide) ?_
    refine lv_iload_n hx hb dX12_isSpanRight_39 rfl (lv_at hl 2 rfl) ?_
    refine lv_imul hx hb dX12_isSpanRight_40 ?_
    refine lv_iconst (v := 4) hx hb dX12_isSpanRight_41 (by decide) ?_
    refine lv_iadd hx hb dX12_isSpanRight_42 ?_
    replace q := ck_s q
    obtain ⟨hin, q⟩ := q
    refine x_iald hx hb hX M ra_5 (inb_in hin) dX12_isSpanRight_43 ?_
    exact w_X12_isSpanRight_44 hx hb hml hr hlk hown hX hRf hRl (N := N)  _ _ _ _ _ _ _ _ _ _ M ra0 ra2 (lv_sub hl [1, 2, 3, 4, 0] rfl) q
  · replace q := if_t c_4 q
    refine lv_iload hx hb dX12_isSpanRight_26 (lv_at hl 0 rfl) ?_
    refine lv_iconst (v := 1) hx hb dX12_isSpanRight_28 (by decide) ?_
    refine lv_iadd hx hb dX12_isSpanRight_29 ?_
    refine lv_goto (tgt := 44) hx hb dX12_isSpanRight_30 (by decide) ?_
    exact w_X12_isSpanRight_44 hx hb hml hr hlk hown hX hRf hRl (N := N)  _ _ _ _ _ _ _ _ _ _ M ra0 ra2 (lv_sub hl [1, 2, 3, 4, 0] rfl) q
set_option maxRecDepth 100000 in
theorem c_X12_isSpanRight {l : Launch} {D : va_G} {cA : Nat → ClassId} {lo tS N : Nat} {S : Hs} {g g1 : Hg} {rv : Int32} {a0 : Nat} {x1 : Int32} {a2 : Nat} {x3 : Int32} (ra0 : Rf lo S a0 12) (ra2 : Rf lo S a2 20) (q : f_X12_isSpanRight N S g a0 x1 a2 x3 = some (rv, g1)) {d : Nat} (hd : 6 ≤ d) : Ctr l yX12_isSpanRight cX12_isSpanRight 7 (some .boolean) D cA lo tS [.ref a0, .int x1, .ref a2, .int x3] S g d (some (.int rv)) S g1 True 0 0 := by
  refine x_met (by decide) (Nat.le_of_ble_eq_true rfl) ?_
  intro p e s m below meth c ls hx hb hml hr hlk hown hnm hX M hl
  exact w_X12_isSpanRight_0 hx hb hml hr hlk hown hX hd (Nat.mul_le_mul_left 60 hd) (N := N) _ _ _ _ _ _ _ _ M ra0 ra2 (lv_sub hl [0, 1, 2, 3] rfl) q
def b_X12_isWayRight_193 (N : Nat) (S : Hs) (k193 : Hg → Nat → Int32 → Nat → Int32 → Int32 → Option (Int32 × Hg)) (g : Hg) (a0 : Nat) (x1 : Int32) (a2 : Nat) (x3 : Int32) (x6 : Int32) : Option (Int32 × Hg) :=
if x6 < 0 then (
nn (rdR g a0 64) (fun a_2 =>
c2 (f_X12_areLike N S g a_2 (0 : Int32) a2 (x3 + (12 : Int32))) (fun x_4 g_3 =>
ck (zb x_4) (
some (x_4, g_3))))) else (
nm ((8 : Int32) * (((256 : Int32) * x1) + x6)) (fun x_5 =>
nn (rdR g a0 61) (fun a_6 =>
c2 (f_X12_isOne N S g a_6 (0 : Int32) x6) (fun x_8 g_7 =>
if x_8 = 0 then (
nn (rdR g_7 a0 64) (fun a_10 =>
nn (rdR g_7 a0 12) (fun a_11 =>
nn (rdR g_7 a0 64) (fun a_12 =>
c2 (f_X12_join N S g_7 a0 a_10 (0 : Int32) a_11 x_5 a_12 (0 : Int32)) (fun u_14 g_13 =>
nm (x6 + (-1)) (fun x_15 =>
k193 g_13 a0 x1 a2 x3 x_15)))))) else (
nn (rdR g_7 a0 12) (fun a_16 =>
nn (rdR g_7 a0 64) (fun a_17 =>
nn (rdR g_7 a0 64) (fun a_18 =>
c2 (f_X12_join N S g_7 a0 a_16 x_5 a_17 (0 : Int32) a_18 (0 : Int32)) (fun u_20 g_19 =>
nm (x6 + (-1)) (fun x_21 =>
k193 g_19 a0 x1 a2 x3 x_21))))))))))
def n_X12_isWayRight_193 (N : Nat) (S : Hs) : Nat → Hg → Nat → Int32 → Nat → Int32 → Int32 → Option (Int32 × Hg)
  | 0 => fun _ _ _ _ _ _ => none
  | n + 1 => fun g a0 x1 a2 x3 x6 => b_X12_isWayRight_193 N S (n_X12_isWayRight_193 N S n) g a0 x1 a2 x3 x6
def b_X12_isWayRight_163 (N : Nat) (S : Hs) (g : Hg) (a0 : Nat) (x1 : Int32) (a2 : Nat) (x3 : Int32) (x5 : Int32) : Option (Int32 × Hg) :=
c2 (f_X12_wayOf N S g a0 x5) (fun u_2 g_1 =>
nn (rdR g_1 a0 61) (fun a_3 =>
c2 (f_X12_toRow N S g_1 a0 a_3 (0 : Int32)) (fun u_5 g_4 =>
nn (rdR g_4 a0 9) (fun a_6 =>
ck (inb (((8 : Int32) * x1) + (1 : Int32)) (hpL S a_6)) (
nm ((rdI g_4 a_6 (((8 : Int32) * x1) + (1 : Int32)).toNatClampNeg) - (1 : Int32)) (fun x_7 =>
n_X12_isWayRight_193 N S N g_4 a0 x1 a2 x3 x_7))))))
def b_X12_isWayRight_142 (N : Nat) (S : Hs) (k142 : Hg → Nat → Int32 → Nat → Int32 → Int32 → Int32 → Option (Int32 × Hg)) (g : Hg) (a0 : Nat) (x1 : Int32) (a2 : Nat) (x3 : Int32) (x5 : Int32) (x6 : Int32) : Option (Int32 × Hg) :=
if (8 : Int32) ≤ x6 then (
b_X12_isWayRight_163 N S g a0 x1 a2 x3 x5) else (
nn (rdR g a0 64) (fun a_2 =>
ck (inb x6 (hpL S a_2)) (
nm (wrI g a_2 x6.toNatClampNeg (0 : Int32)) (fun g_3 =>
nm (x6 + 1) (fun x_4 =>
k142 g_3 a0 x1 a2 x3 x5 x_4)))))
def n_X12_isWayRight_142 (N : Nat) (S : Hs) : Nat → Hg → Nat → Int32 → Nat → Int32 → Int32 → Int32 → Option (Int32 × Hg)
  | 0 => fun _ _ _ _ _ _ _ => none
  | n + 1 => fun g a0 x1 a2 x3 x5 x6 => b_X12_isWayRight_142 N S (n_X12_isWayRight_142 N S n) g a0 x1 a2 x3 x5 x6
def b_X12_isWayRight_18 (N : Nat) (S : Hs) (g : Hg) (a0 : Nat) (x1 : Int32) (a2 : Nat) (x3 : Int32) (sx0 : Int32) : Option (Int32 × Hg) :=
nn (rdR g a0 10) (fun a_1 =>
ck (inb ((40 : Int32) * x1) (hpL S a_1)) (
nm (rdI g a_1 ((40 : Int32) * x1).toNatClampNeg) (fun x_2 =>
if sx0 = 0 then (
nn (rdR g a0 9) (fun a_4 =>
ck (inb (((8 : Int32) * x1) + (7 : Int32)) (hpL S a_4)) (
if (rdI g a_4 (((8 : Int32) * x1) + (7 : Int32)).toNatClampNeg) = (1 : Int32) then (
nn (rdR g a0 9) (fun a_6 =>
ck (inb (((8 : Int32) * x1) + (6 : Int32)) (hpL S a_6)) (
if (rdI g a_6 (((8 : Int32) * x1) + (6 : Int32)).toNatClampNeg) = x_2 then (
some ((0 : Int32), g)) else (
nn (rdR g a0 9) (fun a_8 =>
ck (inb (((8 : Int32) * x1) + (6 : Int32)) (hpL S a_8)) (
nn (rdR g a0 9) (fun a_9 =>
ck (inb (((8 : Int32) * x1) + (5 : Int32)) (hpL S a_9)) (
c2 (f_X12_leaf N S g a0 (rdI g a_8 (((8 : Int32) * x1) + (6 : Int32)).toNatClampNeg) (rdI g a_9 (((8 : Int32) * x1) + (5 : Int32)).toNatClampNeg)) (fun u_11 g_10 =>
nn (rdR g_10 a0 64) (fun a_12 =>
c2 (f_X12_toRow N S g_10 a0 a_12 (0 : Int32)) (fun u_14 g_13 =>
b_X12_isWayRight_163 N S g_13 a0 x1 a2 x3 x_2))))))))))) else (
n_X12_isWayRight_142 N S N g a0 x1 a2 x3 x_2 (0 : Int32))))) else (
nn (rdR g a0 9) (fun a_15 =>
ck (inb (((8 : Int32) * x1) + (5 : Int32)) (hpL S a_15)) (
c2 (f_X12_leaf N S g a0 x_2 (rdI g a_15 (((8 : Int32) * x1) + (5 : Int32)).toNatClampNeg)) (fun u_17 g_16 =>
nn (rdR g_16 a0 64) (fun a_18 =>
c2 (f_X12_toRow N S g_16 a0 a_18 (0 : Int32)) (fun u_20 g_19 =>
b_X12_isWayRight_163 N S g_19 a0 x1 a2 x3 x_2)))))))))
def b_X12_isWayRight_0 (N : Nat) (S : Hs) (g : Hg) (a0 : Nat) (x1 : Int32) (a2 : Nat) (x3 : Int32) : Option (Int32 × Hg) :=
nn (rdR g a0 9) (fun a_1 =>
ck (inb ((8 : Int32) * x1) (hpL S a_1)) (
if (rdI g a_1 ((8 : Int32) * x1).toNatClampNeg) = (3 : Int32) then (
b_X12_isWayRight_18 N S g a0 x1 a2 x3 (1 : Int32)) else (
b_X12_isWayRight_18 N S g a0 x1 a2 x3 (0 : Int32))))
def f_X12_isWayRight (N : Nat) (S : Hs) (g : Hg) (a0 : Nat) (x1 : Int32) (a2 : Nat) (x3 : Int32) : Option (Int32 × Hg) := b_X12_isWayRight_0 N S g a0 x1 a2 x3
set_option maxHeartbeats 4000000 in
set_option maxRecDepth 100000 in
theorem w_X12_isWayRight_193 (hx : p.tables.exec = Jvm.exec) (hb : c.code = cX12_isWayRight) (hml : c.maxLocals = 8) (hr : meth.sig.returnType = (some .boolean)) (hlk : meth.locks = false) (hown : s.vm.findClass RX12 = some m.cls) (hX : Kx D cA lo tS s) (hRf : 4 ≤ R.frames) (hRl : 240 ≤ R.locals) {N : Nat} {rv : Int32} {g1 : Hg} {S : Hs} {k193 : Hg → Nat → Int32 → Nat → Int32 → Int32 → Option (Int32 × Hg)} (hk193 : ∀ (H : Heap) (locs : List Loc) (ls : Array Slot) (g : Hg) (a0 : Nat) (x1 : Int32) (a2 : Nat) (x3 : Int32) (x6 : Int32), Mm D cA lo S g s H locs → Rf lo S a0 12 → Rf lo S a2 20 → lv_has ls 8 [(0, .ref a0), (1, .int x1), (2, .ref a2), (3, .int x3), (6, .int x6)] → k193 g a0 x1 a2 x3 x6 = some (rv, g1) → W p l e R s m args below meth c H locs 0 0 (MQ below (Qcx D cA lo S (some (.int rv)) S g1 True) args s 0 0 (fun q : Nat => lo ≤ q)) (F0 m 193 ls [])) : ∀ (H : Heap) (locs : List Loc) (ls : Array Slot) (g : Hg) (a0 : Nat) (x1 : Int32) (a2 : Nat) (x3 : Int32) (x6 : Int32), Mm D cA lo S g s H locs → Rf lo S a0 12 → Rf lo S a2 20 → lv_has ls 8 [(0, .ref a0), (1, .int x1), (2, .ref a2), (3, .int x3), (6, .int x6)] → b_X12_isWayRight_193 N S k193 g a0 x1 a2 x3 x6 = some (rv, g1) → W p l e R s m args below meth c H locs 0 0 (MQ below (Qcx D cA lo S (some (.int rv)) S g1 True) args s 0 0 (fun q : Nat => lo ≤ q)) (F0 m 193 ls []) := by
  intro H locs ls g a0 x1 a2 x3 x6 M ra0 ra2 hl q
  unfold b_X12_isWayRight_193 at q
  refine lv_iload hx hb dX12_isWayRight_193 (lv_at hl 4 rfl) ?_
  refine lv_if_lt (tgt := 273) hx hb dX12_isWayRight_195 (by decide) (fun c_1 => ?_) (fun c_1 => ?_)
  · replace q := if_t c_1 q
    refine lv_aload_n hx hb dX12_isWayRight_273 rfl (lv_at hl 0 rfl) ?_
    replace q := nn_s q
    obtain ⟨a_2, e_a_2, q⟩ := q
    refine x_getR hx hb hown hX M e_a_2 okX12 ra0 (by decide) rfl kw_1076 dX12_isWayRight_274 (fun ra_2 => ?_)
    refine lv_iconst (v := 0) hx hb dX12_isWayRight_277 (by decide) ?_
    refine lv_aload_n hx hb dX12_isWayRight_278 rfl (lv_at hl 2 rfl) ?_
    refine lv_iload_n hx hb dX12_isWayRight_279 rfl (lv_at hl 3 rfl) ?_
    refine lv_bipush (v := 12) hx hb dX12_isWayRight_280 (by decide) ?_
    refine lv_iadd hx hb dX12_isWayRight_282 ?_
    replace q := c2_s q
    obtain ⟨x_4, g_3, qc, q⟩ := q
    refine x_callS hx hb hml hl.1 hown hX M (S1 := S) (As := [.ref a_2, .int (0 : Int32), .ref a2, .int (x3 + (12 : Int32))]) (rest := []) kw_1432 mok_X12_areLike (c_X12_areLike ra_2 ra2 qc (Nat.le_refl 1)) kw_1431 rfl rfl dX12_isWayRight_283 (Nat.le_of_ble_eq_true rfl) ⟨Nat.le_trans (by decide) hRf, Nat.le_trans (by decide) hRl⟩ (Nat.zero_le _) (Nat.zero_le _) (fun H locs M hEF => ?_)
    replace q := ck_s q
    obtain ⟨hz, q⟩ := q
    cases q
    exact x_zret hx hb hr hlk (zb_nar hz) M Ext.rf dX12_isWayRight_286
  · replace q := if_f c_1 q
    refine lv_bipush (v := 8) hx hb dX12_isWayRight_198 (by decide) ?_
    refine lv_sipush (v := 256) hx hb dX12_isWayRight_200 (by decide) ?_
    refine lv_iload_n hx hb dX12_isWayRight_203 rfl (lv_at hl 1 rfl) ?_
    refine lv_imul hx hb dX12_isWayRight_204 ?_
    refine lv_iload hx hb dX12_isWayRight_205 (lv_at hl 4 rfl) ?_
    refine lv_iadd hx hb dX12_isWayRight_207 ?_
    refine lv_imul hx hb dX12_isWayRight_208 ?_
    refine lv_topi (fun x_5 e_x_5 => ?_)
    replace q := nm_s q e_x_5
    refine lv_istore (lv' := [(7, .int x_5), (0, .ref a0), (1, .int x1), (2, .ref a2), (3, .int x3), (6, .int x6)]) hx hb dX12_isWayRight_209 hl (by decide) rfl (fun ls hl => ?_)
    refine lv_aload_n hx hb dX12_isWayRight_211 rfl (lv_at hl 1 rfl) ?_
    replace q := nn_s q
    obtain ⟨a_6, e_a_6, q⟩ := q
    refine x_getR hx hb hown hX M e_a_6 okX12 ra0 (by decide) rfl kw_1073 dX12_isWayRight_212 (fun ra_6 => ?_)
    refine lv_iconst (v := 0) hx hb dX12_isWayRight_215 (by decide) ?_
    refine lv_iload hx hb dX12_isWayRight_216 (lv_at hl 5 rfl) ?_
    replace q := c2_s q
    obtain ⟨x_8, g_7, qc, q⟩ := q
    refine x_callS hx hb hml hl.1 hown hX M (S1 := S) (As := [.ref a_6, .int (0 : Int32), .int x6]) (rest := []) kw_1344 mok_X12_isOne (c_X12_isOne ra_6 qc (Nat.le_refl 1)) kw_1343 rfl rfl dX12_isWayRight_218 (Nat.le_of_ble_eq_true rfl) ⟨Nat.le_trans (by decide) hRf, Nat.le_trans (by decide) hRl⟩ (Nat.zero_le _) (Nat.zero_le _) (fun H locs M hEF => ?_)
    refine lv_if_eq (tgt := 247) hx hb dX12_isWayRight_221 (by decide) (fun c_9 => ?_) (fun c_9 => ?_)
    · replace q := if_t c_9 q
      refine lv_aload_n hx hb dX12_isWayRight_247 rfl (lv_at hl 1 rfl) ?_
      refine lv_aload_n hx hb dX12_isWayRight_248 rfl (lv_at hl 1 rfl) ?_
      replace q := nn_s q
      obtain ⟨a_10, e_a_10, q⟩ := q
      refine x_getR hx hb hown hX M e_a_10 okX12 ra0 (by decide) rfl kw_1076 dX12_isWayRight_249 (fun ra_10 => ?_)
      refine lv_iconst (v := 0) hx hb dX12_isWayRight_252 (by decide) ?_
      refine lv_aload_n hx hb dX12_isWayRight_253 rfl (lv_at hl 1 rfl) ?_
      replace q := nn_s q
      obtain ⟨a_11, e_a_11, q⟩ := q
      refine x_getR hx hb hown hX M e_a_11 okX12 ra0 (by decide) rfl kw_1024 dX12_isWayRight_254 (fun ra_11 => ?_)
      refine lv_iload hx hb dX12_isWayRight_257 (lv_at hl 0 rfl) ?_
      refine lv_aload_n hx hb dX12_isWayRight_259 rfl (lv_at hl 1 rfl) ?_
      replace q := nn_s q
      obtain ⟨a_12, e_a_12, q⟩ := q
      refine x_getR hx hb hown hX M e_a_12 okX12 ra0 (by decide) rfl kw_1076 dX12_isWayRight_260 (fun ra_12 => ?_)
      refine lv_iconst (v := 0) hx hb dX12_isWayRight_263 (by decide) ?_
      replace q := c2_s q
      obtain ⟨u_14, g_13, qc, q⟩ := q
      refine x_callV hx hb hml hl.1 hown hX M (S1 := S) (As := [.ref a_10, .int (0 : Int32), .ref a_11, .int x_5, .ref a_12, .int (0 : Int32)]) (rest := []) okX12 ra0 rfl kw_1321 kw_30 mok_X12_join (c_X12_join ra0 ra_10 ra_11 ra_12 qc (Nat.le_refl 3)) kw_1319 rfl rfl dX12_isWayRight_264 (Nat.le_of_ble_eq_true rfl) ⟨Nat.le_trans (by decide) hRf, Nat.le_trans (by decide) hRl⟩ (Nat.zero_le _) (Nat.zero_le _) (fun H locs M hEF => ?_)
      obtain ⟨x_15, e_x_15⟩ : ∃ y : Int32, y = x6 + (-1) := ⟨_, rfl⟩
      replace q := nm_s q e_x_15
      refine lv_iinc (v := x_15) (lv' := [(6, .int x_15), (7, .int x_5), (0, .ref a0), (1, .int x1), (2, .ref a2), (3, .int x3)]) hx hb dX12_isWayRight_267 hl (k := 5) rfl (by rw [e_x_15]; rfl) (by decide) rfl (fun ls hl => ?_)
      refine lv_goto (tgt := 193) hx hb dX12_isWayRight_270 (by decide) ?_
      exact hk193 _ _ _ _ _ _ _ _ _ M ra0 ra2 (lv_sub hl [2, 3, 4, 5, 0] rfl) q
    · replace q := if_f c_9 q
      refine lv_aload_n hx hb dX12_isWayRight_224 rfl (lv_at hl 1 rfl) ?_
      refine lv_aload_n hx hb dX12_isWayRight_225 rfl (lv_at hl 1 rfl) ?_
      replace q := nn_s q
      obtain ⟨a_16, e_a_16, q⟩ := q
      refine x_getR hx hb hown hX M e_a_16 okX12 ra0 (by decide) rfl kw_1024 dX12_isWayRight_226 (fun ra_16 => ?_)
      refine lv_iload hx hb dX12_isWayRight_229 (lv_at hl 0 rfl) ?_
      refine lv_aload_n hx hb dX12_isWayRight_231 rfl (lv_at hl 1 rfl) ?_
      replace q := nn_s q
      obtain ⟨a_17, e_a_17, q⟩ := q
      refine x_getR hx hb hown hX M e_a_17 okX12 ra0 (by decide) rfl kw_1076 dX12_isWayRight_232 (fun ra_17 => ?_)
      refine lv_iconst (v := 0) hx hb dX12_isWayRight_235 (by decide) ?_
      refine lv_aload_n hx hb dX12_isWayRight_236 rfl (lv_at hl 1 rfl) ?_
      replace q := nn_s q
      obtain ⟨a_18, e_a_18, q⟩ := q
      refine x_getR hx hb hown hX M e_a_18 okX12 ra0 (by decide) rfl kw_1076 dX12_isWayRight_237 (fun ra_18 => ?_)
      refine lv_iconst (v := 0) hx hb dX12_isWayRight_240 (by decide) ?_
      replace q := c2_s q
      obtain ⟨u_20, g_19, qc, q⟩ := q
      refine x_callV hx hb hml hl.1 hown hX M (S1 := S) (As := [.ref a_16, .int x_5, .ref a_17, .int (0 : Int32), .ref a_18, .int (0 : Int32)]) (rest := []) okX12 ra0 rfl kw_1321 kw_30 mok_X12_join (c_X12_join ra0 ra_16 ra_17 ra_18 qc (Nat.le_refl 3)) kw_1319 rfl rfl dX12_isWayRight_241 (Nat.le_of_ble_eq_true rfl) ⟨Nat.le_trans (by decide) hRf, Nat.le_trans (by decide) hRl⟩ (Nat.zero_le _) (Nat.zero_le _) (fun H locs M hEF => ?_)
      refine lv_goto (tgt := 267) hx hb dX12_isWayRight_244 (by decide) ?_
      obtain ⟨x_21, e_x_21⟩ : ∃ y : Int32, y = x6 + (-1) := ⟨_, rfl⟩
      replace q := nm_s q e_x_21
      refine lv_iinc (v := x_21) (lv' := [(6, .int x_21), (7, .int x_5), (0, .ref a0), (1, .int x1), (2, .ref a2), (3, .int x3)]) hx hb dX12_isWayRight_267 hl (k := 5) rfl (by rw [e_x_21]; rfl) (by decide) rfl (fun ls hl => ?_)
      refine lv_goto (tgt := 193) hx hb dX12_isWayRight_270 (by decide) ?_
      exact hk193 _ _ _ _ _ _ _ _ _ M ra0 ra2 (lv_sub hl [2, 3, 4, 5, 0] rfl) q
set_option maxRecDepth 100000 in
theorem l_X12_isWayRight_193 (hx : p.tables.exec = Jvm.exec) (hb : c.code = cX12_isWayRight) (hml : c.maxLocals = 8) (hr : meth.sig.returnType = (some .boolean)) (hlk : meth.locks = false) (hown : s.vm.findClass RX12 = some m.cls) (hX : Kx D cA lo tS s) (hRf : 4 ≤ R.frames) (hRl : 240 ≤ R.locals) {N : Nat} {rv : Int32} {g1 : Hg} {S : Hs} : ∀ (n : Nat), ∀ (H : Heap) (locs : List Loc) (ls : Array Slot) (g : Hg) (a0 : Nat) (x1 : Int32) (a2 : Nat) (x3 : Int32) (x6 : Int32), Mm D cA lo S g s H locs → Rf lo S a0 12 → Rf lo S a2 20 → lv_has ls 8 [(0, .ref a0), (1, .int x1), (2, .ref a2), (3, .int x3), (6, .int x6)] → n_X12_isWayRight_193 N S n g a0 x1 a2 x3 x6 = some (rv, g1) → W p l e R s m args below meth c H locs 0 0 (MQ below (Qcx D cA lo S (some (.int rv)) S g1 True) args s 0 0 (fun q : Nat => lo ≤ q)) (F0 m 193 ls []) := by
  intro n
  induction n with
  | zero =>
    intro H locs ls g a0 x1 a2 x3 x6 M ra0 ra2 hl q
    exact absurd q (by simp [n_X12_isWayRight_193])
  | succ n ih => exact w_X12_isWayRight_193 hx hb hml hr hlk hown hX hRf hRl (N := N)  ih
set_option maxHeartbeats 4000000 in
set_option maxRecDepth 100000 in
theorem w_X12_isWayRight_163 (hx : p.tables.exec = Jvm.exec) (hb : c.code = cX12_isWayRight) (hml : c.maxLocals = 8) (hr : meth.sig.returnType = (some .boolean)) (hlk : meth.locks = false) (hown : s.vm.findClass RX12 = some m.cls) (hX : Kx D cA lo tS s) (hRf : 4 ≤ R.frames) (hRl : 240 ≤ R.locals) {N : Nat} {rv : Int32} {g1 : Hg} {S : Hs} : ∀ (H : Heap) (locs : List Loc) (ls : Array Slot) (g : Hg) (a0 : Nat) (x1 : Int32) (a2 : Nat) (x3 : Int32) (x5 : Int32), Mm D cA lo S g s H locs → Rf lo S a0 12 → Rf lo S a2 20 → lv_has ls 8 [(0, .ref a0), (1, .int x1), (2, .ref a2), (3, .int x3), (5, .int x5)] → b_X12_isWayRight_163 N S g a0 x1 a2 x3 x5 = some (rv, g1) → W p l e R s m args below meth c H locs 0 0 (MQ below (Qcx D cA lo S (some (.int rv)) S g1 True) args s 0 0 (fun q : Nat => lo ≤ q)) (F0 m 163 ls []) := by
  intro H locs ls g a0 x1 a2 x3 x5 M ra0 ra2 hl q
  unfold b_X12_isWayRight_163 at q
  refine lv_aload_n hx hb dX12_isWayRight_163 rfl (lv_at hl 0 rfl) ?_
  refine lv_iload hx hb dX12_isWayRight_164 (lv_at hl 4 rfl) ?_
  replace q := c2_s q
  obtain ⟨u_2, g_1, qc, q⟩ := q
  refine x_callV hx hb hml hl.1 hown hX M (S1 := S) (As := [.int x5]) (rest := []) okX12 ra0 rfl kw_1277 kw_22 mok_X12_wayOf (c_X12_wayOf ra0 qc (Nat.le_refl 3)) kw_1275 rfl rfl dX12_isWayRight_166 (Nat.le_of_ble_eq_true rfl) ⟨Nat.le_trans (by decide) hRf, Nat.le_trans (by decide) hRl⟩ (Nat.zero_le _) (Nat.zero_le _) (fun H locs M hEF => ?_)
  refine lv_aload_n hx hb dX12_isWayRight_169 rfl (lv_at hl 0 rfl) ?_
  refine lv_aload_n hx hb dX12_isWayRight_170 rfl (lv_at hl 0 rfl) ?_
  replace q := nn_s q
  obtain ⟨a_3, e_a_3, q⟩ := q
  refine x_getR hx hb hown hX M e_a_3 okX12 ra0 (by decide) rfl kw_1073 dX12_isWayRight_171 (fun ra_3 => ?_)
  refine lv_iconst (v := 0) hx hb dX12_isWayRight_174 (by decide) ?_
  replace q := c2_s q
  obtain ⟨u_5, g_4, qc, q⟩ := q
  refine x_callV hx hb hml hl.1 hown hX M (S1 := S) (As := [.ref a_3, .int (0 : Int32)]) (rest := []) okX12 ra0 rfl kw_1290 kw_25 mok_X12_toRow (c_X12_toRow ra0 ra_3 qc (Nat.le_refl 1)) kw_1288 rfl rfl dX12_isWayRight_175 (Nat.le_of_ble_eq_true rfl) ⟨Nat.le_trans (by decide) hRf, Nat.le_trans (by decide) hRl⟩ (Nat.zero_le _) (Nat.zero_le _) (fun H locs M hEF => ?_)
  refine lv_aload_n hx hb dX12_isWayRight_178 rfl (lv_at hl 0 rfl) ?_
  replace q := nn_s q
  obtain ⟨a_6, e_a_6, q⟩ := q
  refine x_getR hx hb hown hX M e_a_6 okX12 ra0 (by decide) rfl kw_1021 dX12_isWayRight_179 (fun ra_6 => ?_)
  refine lv_bipush (v := 8) hx hb dX12_isWayRight_182 (by decide) ?_
  refine lv_iload_n hx hb dX12_isWayRight_184 rfl (lv_at hl 1 rfl) ?_
  refine lv_imul hx hb dX12_isWayRight_185 ?_
  refine lv_iconst (v := 1) hx hb dX12_isWayRight_186 (by decide) ?_
  refine lv_iadd hx hb dX12_isWayRight_187 ?_
  replace q := ck_s q
  obtain ⟨hin, q⟩ := q
  refine x_iald hx hb hX M ra_6 (inb_in hin) dX12_isWayRight_188 ?_
  refine lv_iconst (v := 1) hx hb dX12_isWayRight_189 (by decide) ?_
  refine lv_isub hx hb dX12_isWayRight_190 ?_
  refine lv_topi (fun x_7 e_x_7 => ?_)
  replace q := nm_s q e_x_7
  refine lv_istore (lv' := [(6, .int x_7), (0, .ref a0), (1, .int x1), (2, .ref a2), (3, .int x3), (5, .int x5)]) hx hb dX12_isWayRight_191 hl (by decide) rfl (fun ls hl => ?_)
  exact l_X12_isWayRight_193 hx hb hml hr hlk hown hX hRf hRl (N := N)  N _ _ _ _ _ _ _ _ _ M ra0 ra2 (lv_sub hl [1, 2, 3, 4, 0] rfl) q
set_option maxHeartbeats 4000000 in
set_option maxRecDepth 100000 in
theorem w_X12_isWayRight_142 (hx : p.tables.exec = Jvm.exec) (hb : c.code = cX12_isWayRight) (hml : c.maxLocals = 8) (hr : meth.sig.returnType = (some .boolean)) (hlk : meth.locks = false) (hown : s.vm.findClass RX12 = some m.cls) (hX : Kx D cA lo tS s) (hRf : 4 ≤ R.frames) (hRl : 240 ≤ R.locals) {N : Nat} {rv : Int32} {g1 : Hg} {S : Hs} {k142 : Hg → Nat → Int32 → Nat → Int32 → Int32 → Int32 → Option (Int32 × Hg)} (hk142 : ∀ (H : Heap) (locs : List Loc) (ls : Array Slot) (g : Hg) (a0 : Nat) (x1 : Int32) (a2 : Nat) (x3 : Int32) (x5 : Int32) (x6 : Int32), Mm D cA lo S g s H locs → Rf lo S a0 12 → Rf lo S a2 20 → lv_has ls 8 [(0, .ref a0), (1, .int x1), (2, .ref a2), (3, .int x3), (5, .int x5), (6, .int x6)] → k142 g a0 x1 a2 x3 x5 x6 = some (rv, g1) → W p l e R s m args below meth c H locs 0 0 (MQ below (Qcx D cA lo S (some (.int rv)) S g1 True) args s 0 0 (fun q : Nat => lo ≤ q)) (F0 m 142 ls [])) : ∀ (H : Heap) (locs : List Loc) (ls : Array Slot) (g : Hg) (a0 : Nat) (x1 : Int32) (a2 : Nat) (x3 : Int32) (x5 : Int32) (x6 : Int32), Mm D cA lo S g s H locs → Rf lo S a0 12 → Rf lo S a2 20 → lv_has ls 8 [(0, .ref a0), (1, .int x1), (2, .ref a2), (3, .int x3), (5, .int x5), (6, .int x6)] → b_X12_isWayRight_142 N S k142 g a0 x1 a2 x3 x5 x6 = some (rv, g1) → W p l e R s m args below meth c H locs 0 0 (MQ below (Qcx D cA lo S (some (.int rv)) S g1 True) args s 0 0 (fun q : Nat => lo ≤ q)) (F0 m 142 ls []) := by
  intro H locs ls g a0 x1 a2 x3 x5 x6 M ra0 ra2 hl q
  unfold b_X12_isWayRight_142 at q
  refine lv_iload hx hb dX12_isWayRight_142 (lv_at hl 5 rfl) ?_
  refine lv_bipush (v := 8) hx hb dX12_isWayRight_144 (by decide) ?_
  refine lv_icmp_ge (tgt := 163) hx hb dX12_isWayRight_146 (by decide) (fun c_1 => ?_) (fun c_1 => ?_)
  · replace q := if_t c_1 q
    exact w_X12_isWayRight_163 hx hb hml hr hlk hown hX hRf hRl (N := N)  _ _ _ _ _ _ _ _ _ M ra0 ra2 (lv_sub hl [0, 1, 2, 3, 4] rfl) q
  · replace q := if_f c_1 q
    refine lv_aload_n hx hb dX12_isWayRight_149 rfl (lv_at hl 0 rfl) ?_
    replace q := nn_s q
    obtain ⟨a_2, e_a_2, q⟩ := q
    refine x_getR hx hb hown hX M e_a_2 okX12 ra0 (by decide) rfl kw_1076 dX12_isWayRight_150 (fun ra_2 => ?_)
    refine lv_iload hx hb dX12_isWayRight_153 (lv_at hl 5 rfl) ?_
    refine lv_iconst (v := 0) hx hb dX12_isWayRight_155 (by decide) ?_
    replace q := ck_s q
    obtain ⟨hin, q⟩ := q
    refine x_iast hx hb hX M ra_2 (inb_in hin) dX12_isWayRight_156 (fun H locs M => ?_)
    replace q := gen_g M q
    obtain ⟨g_3, -, M, q⟩ := q
    obtain ⟨x_4, e_x_4⟩ : ∃ y : Int32, y = x6 + 1 := ⟨_, rfl⟩
    replace q := nm_s q e_x_4
    refine lv_iinc (v := x_4) (lv' := [(6, .int x_4), (0, .ref a0), (1, .int x1), (2, .ref a2), (3, .int x3), (5, .int x5)]) hx hb dX12_isWayRight_157 hl (k := 5) rfl (by rw [e_x_4]; rfl) (by decide) rfl (fun ls hl => ?_)
    refine lv_goto (tgt := 142) hx hb dX12_isWayRight_160 (by decide) ?_
    exact hk142 _ _ _ _ _ _ _ _ _ _ M ra0 ra2 (lv_sub hl [1, 2, 3, 4, 5, 0] rfl) q
set_option maxRecDepth 100000 in
theorem l_X12_isWayRight_142 (hx : p.tables.exec = Jvm.exec) (hb : c.code = cX12_isWayRight) (hml : c.maxLocals = 8) (hr : meth.sig.returnType = (some .boolean)) (hlk : meth.locks = false) (hown : s.vm.findClass RX12 = some m.cls) (hX : Kx D cA lo tS s) (hRf : 4 ≤ R.frames) (hRl : 240 ≤ R.locals) {N : Nat} {rv : Int32} {g1 : Hg} {S : Hs} : ∀ (n : Nat), ∀ (H : Heap) (locs : List Loc) (ls : Array Slot) (g : Hg) (a0 : Nat) (x1 : Int32) (a2 : Nat) (x3 : Int32) (x5 : Int32) (x6 : Int32), Mm D cA lo S g s H locs → Rf lo S a0 12 → Rf lo S a2 20 → lv_has ls 8 [(0, .ref a0), (1, .int x1), (2, .ref a2), (3, .int x3), (5, .int x5), (6, .int x6)] → n_X12_isWayRight_142 N S n g a0 x1 a2 x3 x5 x6 = some (rv, g1) → W p l e R s m args below meth c H locs 0 0 (MQ below (Qcx D cA lo S (some (.int rv)) S g1 True) args s 0 0 (fun q : Nat => lo ≤ q)) (F0 m 142 ls []) := by
  intro n
  induction n with
  | zero =>
    intro H locs ls g a0 x1 a2 x3 x5 x6 M ra0 ra2 hl q
    exact absurd q (by simp [n_X12_isWayRight_142])
  | succ n ih => exact w_X12_isWayRight_142 hx hb hml hr hlk hown hX hRf hRl (N := N)  ih
set_option maxHeartbeats 4000000 in
set_option maxRecDepth 100000 in
theorem w_X12_isWayRight_18 (hx : p.tables.exec = Jvm.exec) (hb : c.code = cX12_isWayRight) (hml : c.maxLocals = 8) (hr : meth.sig.returnType = (some .boolean)) (hlk : meth.locks = false) (hown : s.vm.findClass RX12 = some m.cls) (hX : Kx D cA lo tS s) (hRf : 4 ≤ R.frames) (hRl : 240 ≤ R.locals) {N : Nat} {rv : Int32} {g1 : Hg} {S : Hs} : ∀ (H : Heap) (locs : List Loc) (ls : Array Slot) (g : Hg) (a0 : Nat) (x1 : Int32) (a2 : Nat) (x3 : Int32) (sx0 : Int32), Mm D cA lo S g s H locs → Rf lo S a0 12 → Rf lo S a2 20 → lv_has ls 8 [(0, .ref a0), (1, .int x1), (2, .ref a2), (3, .int x3)] → b_X12_isWayRight_18 N S g a0 x1 a2 x3 sx0 = some (rv, g1) → W p l e R s m args below meth c H locs 0 0 (MQ below (Qcx D cA lo S (some (.int rv)) S g1 True) args s 0 0 (fun q : Nat => lo ≤ q)) (F0 m 18 ls [.int sx0]) := by
  intro H locs ls g a0 x1 a2 x3 sx0 M ra0 ra2 hl q
  unfold b_X12_isWayRight_18 at q
  refine lv_istore (lv' := [(4, .int sx0), (0, .ref a0), (1, .int x1), (2, .ref a2), (3, .int x3)]) hx hb dX12_isWayRight_18 hl (by decide) rfl (fun ls hl => ?_)
  refine lv_aload_n hx hb dX12_isWayRight_20 rfl (lv_at hl 1 rfl) ?_
  replace q := nn_s q
  obtain ⟨a_1, e_a_1, q⟩ := q
  refine x_getR hx hb hown hX M e_a_1 okX12 ra0 (by decide) rfl kw_1022 dX12_isWayRight_21 (fun ra_1 => ?_)
  refine lv_bipush (v := 40) hx hb dX12_isWayRight_24 (by decide) ?_
  refine lv_iload_n hx hb dX12_isWayRight_26 rfl (lv_at hl 2 rfl) ?_
  refine lv_imul hx hb dX12_isWayRight_27 ?_
  replace q := ck_s q
  obtain ⟨hin, q⟩ := q
  refine x_iald hx hb hX M ra_1 (inb_in hin) dX12_isWayRight_28 ?_
  refine lv_topi (fun x_2 e_x_2 => ?_)
  replace q := nm_s q e_x_2
  refine lv_istore (lv' := [(5, .int x_2), (4, .int sx0), (0, .ref a0), (1, .int x1), (2, .ref a2), (3, .int x3)]) hx hb dX12_isWayRight_29 hl (by decide) rfl (fun ls hl => ?_)
  refine lv_iload hx hb dX12_isWayRight_31 (lv_at hl 1 rfl) ?_
  refine lv_if_eq (tgt := 65) hx hb dX12_isWayRight_33 (by decide) (fun c_3 => ?_) (fun c_3 => ?_)
  · replace q := if_t c_3 q
    refine lv_aload_n hx hb dX12_isWayRight_65 rfl (lv_at hl 2 rfl) ?_
    replace q := nn_s q
    obtain ⟨a_4, e_a_4, q⟩ := q
    refine x_getR hx hb hown hX M e_a_4 okX12 ra0 (by decide) rfl kw_1021 dX12_isWayRight_66 (fun ra_4 => ?_)
    refine lv_bipush (v := 8) hx hb dX12_isWayRight_69 (by decide) ?_
    refine lv_iload_n hx hb dX12_isWayRight_71 rfl (lv_at hl 3 rfl) ?_
    refine lv_imul hx hb dX12_isWayRight_72 ?_
    refine lv_bipush (v := 7) hx hb dX12_isWayRight_73 (by decide) ?_
    refine lv_iadd hx hb dX12_isWayRight_75 ?_
    replace q := ck_s q
    obtain ⟨hin, q⟩ := q
    refine x_iald hx hb hX M ra_4 (inb_in hin) dX12_isWayRight_76 ?_
    refine lv_iconst (v := 1) hx hb dX12_isWayRight_77 (by decide) ?_
    refine lv_icmp_ne (tgt := 139) hx hb dX12_isWayRight_78 (by decide) (fun c_5 => ?_) (fun c_5 => ?_)
    · replace q := if_f c_5 q
      refine lv_iconst (v := 0) hx hb dX12_isWayRight_139 (by decide) ?_
      refine lv_istore (lv' := [(6, .int (0 : Int32)), (5, .int x_2), (4, .int sx0), (0, .ref a0), (1, .int x1), (2, .ref a2), (3, .int x3)]) hx hb dX12_isWayRight_140 hl (by decide) rfl (fun ls hl => ?_)
      exact l_X12_isWayRight_142 hx hb hml hr hlk hown hX hRf hRl (N := N)  N _ _ _ _ _ _ _ _ _ _ M ra0 ra2 (lv_sub hl [3, 4, 5, 6, 1, 0] rfl) q
    · replace q := if_t c_5 q
      refine lv_aload_n hx hb dX12_isWayRight_81 rfl (lv_at hl 2 rfl) ?_
      replace q := nn_s q
      obtain ⟨a_6, e_a_6, q⟩ := q
      refine x_getR hx hb hown hX M e_a_6 okX12 ra0 (by decide) rfl kw_1021 dX12_isWayRight_82 (fun ra_6 => ?_)
      refine lv_bipush (v := 8) hx hb dX12_isWayRight_85 (by decide) ?_
      refine lv_iload_n hx hb dX12_isWayRight_87 rfl (lv_at hl 3 rfl) ?_
      refine lv_imul hx hb dX12_isWayRight_88 ?_
      refine lv_bipush (v := 6) hx hb dX12_isWayRight_89 (by decide) ?_
      refine lv_iadd hx hb dX12_isWayRight_91 ?_
      replace q := ck_s q
      obtain ⟨hin, q⟩ := q
      refine x_iald hx hb hX M ra_6 (inb_in hin) dX12_isWayRight_92 ?_
      refine lv_iload hx hb dX12_isWayRight_93 (lv_at hl 0 rfl) ?_
      refine lv_icmp_ne (tgt := 100) hx hb dX12_isWayRight_95 (by decide) (fun c_7 => ?_) (fun c_7 => ?_)
      · replace q := if_f c_7 q
        refine lv_aload_n hx hb dX12_isWayRight_100 rfl (lv_at hl 2 rfl) ?_
        refine lv_aload_n hx hb dX12_isWayRight_101 rfl (lv_at hl 2 rfl) ?_
        replace q := nn_s q
        obtain ⟨a_8, e_a_8, q⟩ := q
        refine x_getR hx hb hown hX M e_a_8 okX12 ra0 (by decide) rfl kw_1021 dX12_isWayRight_102 (fun ra_8 => ?_)
        refine lv_bipush (v := 8) hx hb dX12_isWayRight_105 (by decide) ?_
        refine lv_iload_n hx hb dX12_isWayRight_107 rfl (lv_at hl 3 rfl) ?_
        refine lv_imul hx hb dX12_isWayRight_108 ?_
        refine lv_bipush (v := 6) hx hb dX12_isWayRight_109 (by decide) ?_
        refine lv_iadd hx hb dX12_isWayRight_111 ?_
        replace q := ck_s q
        obtain ⟨hin, q⟩ := q
        refine x_iald hx hb hX M ra_8 (inb_in hin) dX12_isWayRight_112 ?_
        refine lv_aload_n hx hb dX12_isWayRight_113 rfl (lv_at hl 2 rfl) ?_
        replace q := nn_s q
        obtain ⟨a_9, e_a_9, q⟩ := q
        refine x_getR hx hb hown hX M e_a_9 okX12 ra0 (by decide) rfl kw_1021 dX12_isWayRight_114 (fun ra_9 => ?_)
        refine lv_bipush (v := 8) hx hb dX12_isWayRight_117 (by decide) ?_
        refine lv_iload_n hx hb dX12_isWayRight_119 rfl (lv_at hl 3 rfl) ?_
        refine lv_imul hx hb dX12_isWayRight_120 ?_
        refine lv_iconst (v := 5) hx hb dX12_isWayRight_121 (by decide) ?_
        refine lv_iadd hx hb dX12_isWayRight_122 ?_
        replace q := ck_s q
        obtain ⟨hin, q⟩ := q
        refine x_iald hx hb hX M ra_9 (inb_in hin) dX12_isWayRight_123 ?_
        replace q := c2_s q
        obtain ⟨u_11, g_10, qc, q⟩ := q
        refine x_callV hx hb hml hl.1 hown hX M (S1 := S) (As := [.int (rdI g a_8 (((8 : Int32) * x1) + (6 : Int32)).toNatClampNeg), .int (rdI g a_9 (((8 : Int32) * x1) + (5 : Int32)).toNatClampNeg)]) (rest := []) okX12 ra0 rfl kw_1337 kw_34 mok_X12_leaf (c_X12_leaf ra0 qc (Nat.le_refl 3)) kw_1335 rfl rfl dX12_isWayRight_124 (Nat.le_of_ble_eq_true rfl) ⟨Nat.le_trans (by decide) hRf, Nat.le_trans (by decide) hRl⟩ (Nat.zero_le _) (Nat.zero_le _) (fun H locs M hEF => ?_)
        refine lv_aload_n hx hb dX12_isWayRight_127 rfl (lv_at hl 2 rfl) ?_
        refine lv_aload_n hx hb dX12_isWayRight_128 rfl (lv_at hl 2 rfl) ?_
        replace q := nn_s q
        obtain ⟨a_12, e_a_12, q⟩ := q
        refine x_getR hx hb hown hX M e_a_12 okX12 ra0 (by decide) rfl kw_1076 dX12_isWayRight_129 (fun ra_12 => ?_)
        refine lv_iconst (v := 0) hx hb dX12_isWayRight_132 (by decide) ?_
        replace q := c2_s q
        obtain ⟨u_14, g_13, qc, q⟩ := q
        refine x_callV hx hb hml hl.1 hown hX M (S1 := S) (As := [.ref a_12, .int (0 : Int32)]) (rest := []) okX12 ra0 rfl kw_1290 kw_25 mok_X12_toRow (c_X12_toRow ra0 ra_12 qc (Nat.le_refl 1)) kw_1288 rfl rfl dX12_isWayRight_133 (Nat.le_of_ble_eq_true rfl) ⟨Nat.le_trans (by decide) hRf, Nat.le_trans (by decide) hRl⟩ (Nat.zero_le _) (Nat.zero_le _) (fun H locs M hEF => ?_)
        refine lv_goto (tgt := 163) hx hb dX12_isWayRight_136 (by decide) ?_
        exact w_X12_isWayRight_163 hx hb hml hr hlk hown hX hRf hRl (N := N)  _ _ _ _ _ _ _ _ _ M ra0 ra2 (lv_sub hl [2, 3, 4, 5, 0] rfl) q
      · replace q := if_t c_7 q
        refine lv_iconst (v := 0) hx hb dX12_isWayRight_98 (by decide) ?_
        cases q
        exact x_zret hx hb hr hlk rfl M Ext.rf dX12_isWayRight_99
  · replace q := if_f c_3 q
    refine lv_aload_n hx hb dX12_isWayRight_36 rfl (lv_at hl 2 rfl) ?_
    refine lv_iload hx hb dX12_isWayRight_37 (lv_at hl 0 rfl) ?_
    refine lv_aload_n hx hb dX12_isWayRight_39 rfl (lv_at hl 2 rfl) ?_
    replace q := nn_s q
    obtain ⟨a_15, e_a_15, q⟩ := q
    refine x_getR hx hb hown hX M e_a_15 okX12 ra0 (by decide) rfl kw_1021 dX12_isWayRight_40 (fun ra_15 => ?_)
    refine lv_bipush (v := 8) hx hb dX12_isWayRight_43 (by decide) ?_
    refine lv_iload_n hx hb dX12_isWayRight_45 rfl (lv_at hl 3 rfl) ?_
    refine lv_imul hx hb dX12_isWayRight_46 ?_
    refine lv_iconst (v := 5) hx hb dX12_isWayRight_47 (by decide) ?_
    refine lv_iadd hx hb dX12_isWayRight_48 ?_
    replace q := ck_s q
    obtain ⟨hin, q⟩ := q
    refine x_iald hx hb hX M ra_15 (inb_in hin) dX12_isWayRight_49 ?_
    replace q := c2_s q
    obtain ⟨u_17, g_16, qc, q⟩ := q
    refine x_callV hx hb hml hl.1 hown hX M (S1 := S) (As := [.int x_2, .int (rdI g a_15 (((8 : Int32) * x1) + (5 : Int32)).toNatClampNeg)]) (rest := []) okX12 ra0 rfl kw_1337 kw_34 mok_X12_leaf (c_X12_leaf ra0 qc (Nat.le_refl 3)) kw_1335 rfl rfl dX12_isWayRight_50 (Nat.le_of_ble_eq_true rfl) ⟨Nat.le_trans (by decide) hRf, Nat.le_trans (by decide) hRl⟩ (Nat.zero_le _) (Nat.zero_le _) (fun H locs M hEF => ?_)
    refine lv_aload_n hx hb dX12_isWayRight_53 rfl (lv_at hl 2 rfl) ?_
    refine lv_aload_n hx hb dX12_isWayRight_54 rfl (lv_at hl 2 rfl) ?_
    replace q := nn_s q
    obtain ⟨a_18, e_a_18, q⟩ := q
    refine x_getR hx hb hown hX M e_a_18 okX12 ra0 (by decide) rfl kw_1076 dX12_isWayRight_55 (fun ra_18 => ?_)
    refine lv_iconst (v := 0) hx hb dX12_isWayRight_58 (by decide) ?_
    replace q := c2_s q
    obtain ⟨u_20, g_19, qc, q⟩ := q
    refine x_callV hx hb hml hl.1 hown hX M (S1 := S) (As := [.ref a_18, .int (0 : Int32)]) (rest := []) okX12 ra0 rfl kw_1290 kw_25 mok_X12_toRow (c_X12_toRow ra0 ra_18 qc (Nat.le_refl 1)) kw_1288 rfl rfl dX12_isWayRight_59 (Nat.le_of_ble_eq_true rfl) ⟨Nat.le_trans (by decide) hRf, Nat.le_trans (by decide) hRl⟩ (Nat.zero_le _) (Nat.zero_le _) (fun H locs M hEF => ?_)
    refine lv_goto (tgt := 163) hx hb dX12_isWayRight_62 (by decide) ?_
    exact w_X12_isWayRight_163 hx hb hml hr hlk hown hX hRf hRl (N := N)  _ _ _ _ _ _ _ _ _ M ra0 ra2 (lv_sub hl [2, 3, 4, 5, 0] rfl) q
set_option maxHeartbeats 4000000 in
set_option maxRecDepth 100000 in
theorem w_X12_isWayRight_0 (hx : p.tables.exec = Jvm.exec) (hb : c.code = cX12_isWayRight) (hml : c.maxLocals = 8) (hr : meth.sig.returnType = (some .boolean)) (hlk : meth.locks = false) (hown : s.vm.findClass RX12 = some m.cls) (hX : Kx D cA lo tS s) (hRf : 4 ≤ R.frames) (hRl : 240 ≤ R.locals) {N : Nat} {rv : Int32} {g1 : Hg} {S : Hs} : ∀ (H : Heap) (locs : List Loc) (ls : Array Slot) (g : Hg) (a0 : Nat) (x1 : Int32) (a2 : Nat) (x3 : Int32), Mm D cA lo S g s H locs → Rf lo S a0 12 → Rf lo S a2 20 → lv_has ls 8 [(0, .ref a0), (1, .int x1), (2, .ref a2), (3, .int x3)] → b_X12_isWayRight_0 N S g a0 x1 a2 x3 = some (rv, g1) → W p l e R s m args below meth c H locs 0 0 (MQ below (Qcx D cA lo S (some (.int rv)) S g1 True) args s 0 0 (fun q : Nat => lo ≤ q)) (F0 m 0 ls []) := by
  intro H locs ls g a0 x1 a2 x3 M ra0 ra2 hl q
  unfold b_X12_isWayRight_0 at q
  refine lv_aload_n hx hb dX12_isWayRight_0 rfl (lv_at hl 0 rfl) ?_
  replace q := nn_s q
  obtain ⟨a_1, e_a_1, q⟩ := q
  refine x_getR hx hb hown hX M e_a_1 okX12 ra0 (by decide) rfl kw_1021 dX12_isWayRight_1 (fun ra_1 => ?_)
  refine lv_bipush (v := 8) hx hb dX12_isWayRight_4 (by decide) ?_
  refine lv_iload_n hx hb dX12_isWayRight_6 rfl (lv_at hl 1 rfl) ?_
  refine lv_imul hx hb dX12_isWayRight_7 ?_
  replace q := ck_s q
  obtain ⟨hin, q⟩ := q
  refine x_iald hx hb hX M ra_1 (inb_in hin) dX12_isWayRight_8 ?_
  refine lv_iconst (v := 3) hx hb dX12_isWayRight_9 (by decide) ?_
  refine lv_icmp_ne (tgt := 17) hx hb dX12_isWayRight_10 (by decide) (fun c_2 => ?_) (fun c_2 => ?_)
  · replace q := if_f c_2 q
    refine lv_iconst (v := 0) hx hb dX12_isWayRight_17 (by decide) ?_
    exact w_X12_isWayRight_18 hx hb hml hr hlk hown hX hRf hRl (N := N)  _ _ _ _ _ _ _ _ _ M ra0 ra2 (lv_sub hl [0, 1, 2, 3] rfl) q
  · replace q := if_t c_2 q
    refine lv_iconst (v := 1) hx hb dX12_isWayRight_13 (by decide) ?_
    refine lv_goto (tgt := 18) hx hb dX12_isWayRight_14 (by decide) ?_
    exact w_X12_isWayRight_18 hx hb hml hr hlk hown hX hRf hRl (N := N)  _ _ _ _ _ _ _ _ _ M ra0 ra2 (lv_sub hl [0, 1, 2, 3] rfl) q
set_option maxRecDepth 100000 in
theorem c_X12_isWayRight {l : Launch} {D : va_G} {cA : Nat → ClassId} {lo tS N : Nat} {S : Hs} {g g1 : Hg} {rv : Int32} {a0 : Nat} {x1 : Int32} {a2 : Nat} {x3 : Int32} (ra0 : Rf lo S a0 12) (ra2 : Rf lo S a2 20) (q : f_X12_isWayRight N S g a0 x1 a2 x3 = some (rv, g1)) {d : Nat} (hd : 4 ≤ d) : Ctr l yX12_isWayRight cX12_isWayRight 8 (some .boolean) D cA lo tS [.ref a0, .int x1, .ref a2, .int x3] S g d (some (.int rv)) S g1 True 0 0 := by
  refine x_met (by decide) (Nat.le_of_ble_eq_true rfl) ?_
  intro p e s m below meth c ls hx hb hml hr hlk hown hnm hX M hl
  exact w_X12_isWayRight_0 hx hb hml hr hlk hown hX hd (Nat.mul_le_mul_left 60 hd) (N := N) _ _ _ _ _ _ _ _ M ra0 ra2 (lv_sub hl [0, 1, 2, 3] rfl) q
def b_X12_check_229 (N : Nat) (S : Hs) (g : Hg) (sx0 : Int32) : Option (Int32 × Hg) :=
if sx0 = 0 then (
some ((0 : Int32), g)) else (
some ((1 : Int32), g))
def b_X12_check_200 (N : Nat) (S : Hs) (g : Hg) (a0 : Nat) (x1 : Int32) (x2 : Int32) : Option (Int32 × Hg) :=
nn (rdR g a0 13) (fun a_1 =>
c2 (f_X12_isSpanRight N S g a0 x1 a_1 ((28 : Int32) * x2)) (fun x_3 g_2 =>
b_X12_check_229 N S g_2 x_3))
def b_X12_check_126 (N : Nat) (S : Hs) (g : Hg) (a0 : Nat) (x1 : Int32) (x2 : Int32) (x3 : Int32) (sx0 : Int32) : Option (Int32 × Hg) :=
if sx0 = 0 then (
some ((0 : Int32), g)) else (
nn (rdR g a0 13) (fun a_2 =>
nn (rdR g a0 13) (fun a_3 =>
c2 (f_X12_isGrownRight N S g a0 x1 a_2 ((28 : Int32) * x2) a_3 ((28 : Int32) * x3)) (fun x_5 g_4 =>
if x_5 = 0 then (
some ((0 : Int32), g_4)) else (
some ((1 : Int32), g_4))))))
def b_X12_check_125 (N : Nat) (S : Hs) (g : Hg) (a0 : Nat) (x1 : Int32) (x2 : Int32) (x3 : Int32) : Option (Int32 × Hg) :=
b_X12_check_126 N S g a0 x1 x2 x3 (0 : Int32)
def b_X12_check_0 (N : Nat) (S : Hs) (g : Hg) (a0 : Nat) (x1 : Int32) (x2 : Int32) (x3 : Int32) : Option (Int32 × Hg) :=
c2 (f_X12_isSlot N S g a0 x1) (fun x_2 g_1 =>
if x_2 = 0 then (
some ((-1 : Int32), g_1)) else (
nn (rdR g_1 a0 9) (fun a_4 =>
ck (inb ((8 : Int32) * x1) (hpL S a_4)) (
if (rdI g_1 a_4 ((8 : Int32) * x1).toNatClampNeg) = 0 then (
some ((-1 : Int32), g_1)) else (
c2 (f_X12_isReader N S g_1 a0 x2) (fun x_7 g_6 =>
if x_7 = 0 then (
some ((-1 : Int32), g_6)) else (
nn (rdR g_6 a0 14) (fun a_9 =>
ck (inb x2 (hpL S a_9)) (
if (rdI g_6 a_9 x2.toNatClampNeg) = 0 then (
some ((-1 : Int32), g_6)) else (
nn (rdR g_6 a0 9) (fun a_11 =>
ck (inb ((8 : Int32) * x1) (hpL S a_11)) (
nm (rdI g_6 a_11 ((8 : Int32) * x1).toNatClampNeg) (fun x_12 =>
if x_12 = (2 : Int32) then (
c2 (f_X12_isReader N S g_6 a0 x3) (fun x_23 g_22 =>
if x_23 = 0 then (
some ((-1 : Int32), g_22)) else (
nn (rdR g_22 a0 14) (fun a_25 =>
ck (inb x3 (hpL S a_25)) (
if (rdI g_22 a_25 x3.toNatClampNeg) = 0 then (
some ((-1 : Int32), g_22)) else (
nn (rdR g_22 a0 13) (fun a_27 =>
ck (inb ((28 : Int32) * x2) (hpL S a_27)) (
nn (rdR g_22 a0 9) (fun a_28 =>
ck (inb (((8 : Int32) * x1) + (3 : Int32)) (hpL S a_28)) (
if (rdI g_22 a_27 ((28 : Int32) * x2).toNatClampNeg) = (rdI g_22 a_28 (((8 : Int32) * x1) + (3 : Int32)).toNatClampNeg) then (
nn (rdR g_22 a0 13) (fun a_30 =>
ck (inb ((28 : Int32) * x3) (hpL S a_30)) (
nn (rdR g_22 a0 9) (fun a_31 =>
ck (inb (((8 : Int32) * x1) + (2 : Int32)) (hpL S a_31)) (
if (rdI g_22 a_30 ((28 : Int32) * x3).toNatClampNeg) = (rdI g_22 a_31 (((8 : Int32) * x1) + (2 : Int32)).toNatClampNeg) then (
b_X12_check_126 N S g_22 a0 x1 x2 x3 (1 : Int32)) else (
b_X12_check_125 N S g_22 a0 x1 x2 x3)))))) else (
b_X12_check_125 N S g_22 a0 x1 x2 x3))))))))))) else (
nn (rdR g_6 a0 13) (fun a_14 =>
ck (inb ((28 : Int32) * x2) (hpL S a_14)) (
nn (rdR g_6 a0 9) (fun a_15 =>
ck (inb (((8 : Int32) * x1) + (2 : Int32)) (hpL S a_15)) (
if (rdI g_6 a_14 ((28 : Int32) * x2).toNatClampNeg) = (rdI g_6 a_15 (((8 : Int32) * x1) + (2 : Int32)).toNatClampNeg) then (
if x_12 = (1 : Int32) then (
b_X12_check_200 N S g_6 a0 x1 x2) else (
if x_12 = (5 : Int32) then (
b_X12_check_200 N S g_6 a0 x1 x2) else (
nn (rdR g_6 a0 13) (fun a_19 =>
c2 (f_X12_isWayRight N S g_6 a0 x1 a_19 ((28 : Int32) * x2)) (fun x_21 g_20 =>
b_X12_check_229 N S g_20 x_21))))) else (
some ((0 : Int32), g_6))))))))))))))))))))
def f_X12_check (N : Nat) (S : Hs) (g : Hg) (a0 : Nat) (x1 : Int32) (x2 : Int32) (x3 : Int32) : Option (Int32 × Hg) := b_X12_check_0 N S g a0 x1 x2 x3
set_option maxHeartbeats 4000000 in
set_option maxRecDepth 100000 in
theorem w_X12_check_229 (hx : p.tables.exec = Jvm.exec) (hb : c.code = cX12_check) (hml : c.maxLocals = 6) (hr : meth.sig.returnType = (some .int)) (hlk : meth.locks = false) (hown : s.vm.findClass RX12 = some m.cls) (hX : Kx D cA lo tS s) (hRf : 7 ≤ R.frames) (hRl : 420 ≤ R.locals) {N : Nat} {rv : Int32} {g1 : Hg} {S : Hs} : ∀ (H : Heap) (locs : List Loc) (ls : Array Slot) (g : Hg) (sx0 : Int32), Mm D cA lo S g s H locs → lv_has ls 6 [] → b_X12_check_229 N S g sx0 = some (rv, g1) → W p l e R s m args below meth c H locs 0 0 (MQ below (Qcx D cA lo S (some (.int rv)) S g1 True) args s 0 0 (fun q : Nat => lo ≤ q)) (F0 m 229 ls [.int sx0]) := by
  intro H locs ls g sx0 M hl q
  unfold b_X12_check_229 at q
  refine lv_istore (lv' := [(5, .int sx0)]) hx hb dX12_check_229 hl (by decide) rfl (fun ls hl => ?_)
  refine lv_iload hx hb dX12_check_231 (lv_at hl 0 rfl) ?_
  refine lv_if_eq (tgt := 240) hx hb dX12_check_233 (by decide) (fun c_1 => ?_) (fun c_1 => ?_)
  · replace q := if_t c_1 q
    refine lv_iconst (v := 0) hx hb dX12_check_240 (by decide) ?_
    cases q
    exact x_iret hx hb hr hlk M Ext.rf dX12_check_241
  · replace q := if_f c_1 q
    refine lv_iconst (v := 1) hx hb dX12_check_236 (by decide) ?_
    refine lv_goto (tgt := 241) hx hb dX12_check_237 (by decide) ?_
    cases q
    exact x_iret hx hb hr hlk M Ext.rf dX12_check_241
set_option maxHeartbeats 4000000 in
set_option maxRecDepth 100000 in
theorem w_X12_check_200 (hx : p.tables.exec = Jvm.exec) (hb : c.code = cX12_check) (hml : c.maxLocals = 6) (hr : meth.sig.returnType = (some .int)) (hlk : meth.locks = false) (hown : s.vm.findClass RX12 = some m.cls) (hX : Kx D cA lo tS s) (hRf : 7 ≤ R.frames) (hRl : 420 ≤ R.locals) {N : Nat} {rv : Int32} {g1 : Hg} {S : Hs} : ∀ (H : Heap) (locs : List Loc) (ls : Array Slot) (g : Hg) (a0 : Nat) (x1 : Int32) (x2 : Int32), Mm D cA lo S g s H locs → Rf lo S a0 12 → lv_has ls 6 [(0, .ref a0), (1, .int x1), (2, .int x2)] → b_X12_check_200 N S g a0 x1 x2 = some (rv, g1) → W p l e R s m args below meth c H locs 0 0 (MQ below (Qcx D cA lo S (some (.int rv)) S g1 True) args s 0 0 (fun q : Nat => lo ≤ q)) (F0 m 200 ls []) := by
  intro H locs ls g a0 x1 x2 M ra0 hl q
  unfold b_X12_check_200 at q
  refine lv_aload_n hx hb dX12_check_200 rfl (lv_at hl 0 rfl) ?_
  refine lv_iload_n hx hb dX12_check_201 rfl (lv_at hl 1 rfl) ?_
  refine lv_aload_n hx hb dX12_check_202 rfl (lv_at hl 0 rfl) ?_
  replace q := nn_s q
  obtain ⟨a_1, e_a_1, q⟩ := q
  refine x_getR hx hb hown hX M e_a_1 okX12 ra0 (by decide) rfl kw_1025 dX12_check_203 (fun ra_1 => ?_)
  refine lv_bipush (v := 28) hx hb dX12_check_206 (by decide) ?_
  refine lv_iload_n hx hb dX12_check_208 rfl (lv_at hl 2 rfl) ?_
  refine lv_imul hx hb dX12_check_209 ?_
  replace q := c2_s q
  obtain ⟨x_3, g_2, qc, q⟩ := q
  refine x_callV hx hb hml hl.1 hown hX M (S1 := S) (As := [.int x1, .ref a_1, .int ((28 : Int32) * x2)]) (rest := []) okX12 ra0 rfl kw_1436 kw_46 mok_X12_isSpanRight (c_X12_isSpanRight ra0 ra_1 qc (Nat.le_refl 6)) kw_1434 rfl rfl dX12_check_210 (Nat.le_of_ble_eq_true rfl) ⟨Nat.le_trans (by decide) hRf, Nat.le_trans (by decide) hRl⟩ (Nat.zero_le _) (Nat.zero_le _) (fun H locs M hEF => ?_)
  refine lv_goto (tgt := 229) hx hb dX12_check_213 (by decide) ?_
  exact w_X12_check_229 hx hb hml hr hlk hown hX hRf hRl (N := N)  _ _ _ _ _ M  (lv_sub hl [] rfl) q
set_option maxHeartbeats 4000000 in
set_option maxRecDepth 100000 in
theorem w_X12_check_126 (hx : p.tables.exec = Jvm.exec) (hb : c.code = cX12_check) (hml : c.maxLocals = 6) (hr : meth.sig.returnType = (some .int)) (hlk : meth.locks = false) (hown : s.vm.findClass RX12 = some m.cls) (hX : Kx D cA lo tS s) (hRf : 7 ≤ R.frames) (hRl : 420 ≤ R.locals) {N : Nat} {rv : Int32} {g1 : Hg} {S : Hs} : ∀ (H : Heap) (locs : List Loc) (ls : Array Slot) (g : Hg) (a0 : Nat) (x1 : Int32) (x2 : Int32) (x3 : Int32) (sx0 : Int32), Mm D cA lo S g s H locs → Rf lo S a0 12 → lv_has ls 6 [(0, .ref a0), (1, .int x1), (2, .int x2), (3, .int x3)] → b_X12_check_126 N S g a0 x1 x2 x3 sx0 = some (rv, g1) → W p l e R s m args below meth c H locs 0 0 (MQ below (Qcx D cA lo S (some (.int rv)) S g1 True) args s 0 0 (fun q : Nat => lo ≤ q)) (F0 m 126 ls [.int sx0]) := by
  intro H locs ls g a0 x1 x2 x3 sx0 M ra0 hl q
  unfold b_X12_check_126 at q
  refine lv_istore (lv' := [(5, .int sx0), (0, .ref a0), (1, .int x1), (2, .int x2), (3, .int x3)]) hx hb dX12_check_126 hl (by decide) rfl (fun ls hl => ?_)
  refine lv_iload hx hb dX12_check_128 (lv_at hl 0 rfl) ?_
  refine lv_if_eq (tgt := 161) hx hb dX12_check_130 (by decide) (fun c_1 => ?_) (fun c_1 => ?_)
  · replace q := if_t c_1 q
    refine lv_iconst (v := 0) hx hb dX12_check_161 (by decide) ?_
    cases q
    exact x_iret hx hb hr hlk M Ext.rf dX12_check_162
  · replace q := if_f c_1 q
    refine lv_aload_n hx hb dX12_check_133 rfl (lv_at hl 1 rfl) ?_
    refine lv_iload_n hx hb dX12_check_134 rfl (lv_at hl 2 rfl) ?_
    refine lv_aload_n hx hb dX12_check_135 rfl (lv_at hl 1 rfl) ?_
    replace q := nn_s q
    obtain ⟨a_2, e_a_2, q⟩ := q
    refine x_getR hx hb hown hX M e_a_2 okX12 ra0 (by decide) rfl kw_1025 dX12_check_136 (fun ra_2 => ?_)
    refine lv_bipush (v := 28) hx hb dX12_check_139 (by decide) ?_
    refine lv_iload_n hx hb dX12_check_141 rfl (lv_at hl 3 rfl) ?_
    refine lv_imul hx hb dX12_check_142 ?_
    refine lv_aload_n hx hb dX12_check_143 rfl (lv_at hl 1 rfl) ?_
    replace q := nn_s q
    obtain ⟨a_3, e_a_3, q⟩ := q
    refine x_getR hx hb hown hX M e_a_3 okX12 ra0 (by decide) rfl kw_1025 dX12_check_144 (fun ra_3 => ?_)
    refine lv_bipush (v := 28) hx hb dX12_check_147 (by decide) ?_
    refine lv_iload_n hx hb dX12_check_149 rfl (lv_at hl 4 rfl) ?_
    refine lv_imul hx hb dX12_check_150 ?_
    replace q := c2_s q
    obtain ⟨x_5, g_4, qc, q⟩ := q
    refine x_callV hx hb hml hl.1 hown hX M (S1 := S) (As := [.int x1, .ref a_2, .int ((28 : Int32) * x2), .ref a_3, .int ((28 : Int32) * x3)]) (rest := []) okX12 ra0 rfl kw_1425 kw_44 mok_X12_isGrownRight (c_X12_isGrownRight ra0 ra_2 ra_3 qc (Nat.le_refl 6)) kw_1423 rfl rfl dX12_check_151 (Nat.le_of_ble_eq_true rfl) ⟨Nat.le_trans (by decide) hRf, Nat.le_trans (by decide) hRl⟩ (Nat.zero_le _) (Nat.zero_le _) (fun H locs M hEF => ?_)
    refine lv_if_eq (tgt := 161) hx hb dX12_check_154 (by decide) (fun c_6 => ?_) (fun c_6 => ?_)
    · replace q := if_t c_6 q
      refine lv_iconst (v := 0) hx hb dX12_check_161 (by decide) ?_
      cases q
      exact x_iret hx hb hr hlk M Ext.rf dX12_check_162
    · replace q := if_f c_6 q
      refine lv_iconst (v := 1) hx hb dX12_check_157 (by decide) ?_
      refine lv_goto (tgt := 162) hx hb dX12_check_158 (by decide) ?_
      cases q
      exact x_iret hx hb hr hlk M Ext.rf dX12_check_162
set_option maxHeartbeats 4000000 in
set_option maxRecDepth 100000 in
theorem w_X12_check_125 (hx : p.tables.exec = Jvm.exec) (hb : c.code = cX12_check) (hml : c.maxLocals = 6) (hr : meth.sig.returnType = (some .int)) (hlk : meth.locks = false) (hown : s.vm.findClass RX12 = some m.cls) (hX : Kx D cA lo tS s) (hRf : 7 ≤ R.frames) (hRl : 420 ≤ R.locals) {N : Nat} {rv : Int32} {g1 : Hg} {S : Hs} : ∀ (H : Heap) (locs : List Loc) (ls : Array Slot) (g : Hg) (a0 : Nat) (x1 : Int32) (x2 : Int32) (x3 : Int32), Mm D cA lo S g s H locs → Rf lo S a0 12 → lv_has ls 6 [(0, .ref a0), (1, .int x1), (2, .int x2), (3, .int x3)] → b_X12_check_125 N S g a0 x1 x2 x3 = some (rv, g1) → W p l e R s m args below meth c H locs 0 0 (MQ below (Qcx D cA lo S (some (.int rv)) S g1 True) args s 0 0 (fun q : Nat => lo ≤ q)) (F0 m 125 ls []) := by
  intro H locs ls g a0 x1 x2 x3 M ra0 hl q
  unfold b_X12_check_125 at q
  refine lv_iconst (v := 0) hx hb dX12_check_125 (by decide) ?_
  exact w_X12_check_126 hx hb hml hr hlk hown hX hRf hRl (N := N)  _ _ _ _ _ _ _ _ _ M ra0 (lv_sub hl [0, 1, 2, 3] rfl) q
set_option maxHeartbeats 4000000 in
set_option maxRecDepth 100000 in
theorem w_X12_check_0 (hx : p.tables.exec = Jvm.exec) (hb : c.code = cX12_check) (hml : c.maxLocals = 6) (hr : meth.sig.returnType = (some .int)) (hlk : meth.locks = false) (hown : s.vm.findClass RX12 = some m.cls) (hX : Kx D cA lo tS s) (hRf : 7 ≤ R.frames) (hRl : 420 ≤ R.locals) {N : Nat} {rv : Int32} {g1 : Hg} {S : Hs} : ∀ (H : Heap) (locs : List Loc) (ls : Array Slot) (g : Hg) (a0 : Nat) (x1 : Int32) (x2 : Int32) (x3 : Int32), Mm D cA lo S g s H locs → Rf lo S a0 12 → lv_has ls 6 [(0, .ref a0), (1, .int x1), (2, .int x2), (3, .int x3)] → b_X12_check_0 N S g a0 x1 x2 x3 = some (rv, g1) → W p l e R s m args below meth c H locs 0 0 (MQ below (Qcx D cA lo S (some (.int rv)) S g1 True) args s 0 0 (fun q : Nat => lo ≤ q)) (F0 m 0 ls []) := by
  intro H locs ls g a0 x1 x2 x3 M ra0 hl q
  unfold b_X12_check_0 at q
  refine lv_aload_n hx hb dX12_check_0 rfl (lv_at hl 0 rfl) ?_
  refine lv_iload_n hx hb dX12_check_1 rfl (lv_at hl 1 rfl) ?_
  replace q := c2_s q
  obtain ⟨x_2, g_1, qc, q⟩ := q
  refine x_callV hx hb hml hl.1 hown hX M (S1 := S) (As := [.int x1]) (rest := []) okX12 ra0 rfl kw_1357 kw_37 mok_X12_isSlot (c_X12_isSlot ra0 qc (Nat.le_refl 1)) kw_1355 rfl rfl dX12_check_2 (Nat.le_of_ble_eq_true rfl) ⟨Nat.le_trans (by decide) hRf, Nat.le_trans (by decide) hRl⟩ (Nat.zero_le _) (Nat.zero_le _) (fun H locs M hEF => ?_)
  refine lv_if_eq (tgt := 37) hx hb dX12_check_5 (by decide) (fun c_3 => ?_) (fun c_3 => ?_)
  · replace q := if_t c_3 q
    refine lv_iconst (v := -1) hx hb dX12_check_37 (by decide) ?_
    cases q
    exact x_iret hx hb hr hlk M Ext.rf dX12_check_38
  · replace q := if_f c_3 q
    refine lv_aload_n hx hb dX12_check_8 rfl (lv_at hl 0 rfl) ?_
    replace q := nn_s q
    obtain ⟨a_4, e_a_4, q⟩ := q
    refine x_getR hx hb hown hX M e_a_4 okX12 ra0 (by decide) rfl kw_1021 dX12_check_9 (fun ra_4 => ?_)
    refine lv_bipush (v := 8) hx hb dX12_check_12 (by decide) ?_
    refine lv_iload_n hx hb dX12_check_14 rfl (lv_at hl 1 rfl) ?_
    refine lv_imul hx hb dX12_check_15 ?_
    replace q := ck_s q
    obtain ⟨hin, q⟩ := q
    refine x_iald hx hb hX M ra_4 (inb_in hin) dX12_check_16 ?_
    refine lv_if_eq (tgt := 37) hx hb dX12_check_17 (by decide) (fun c_5 => ?_) (fun c_5 => ?_)
    · replace q := if_t c_5 q
      refine lv_iconst (v := -1) hx hb dX12_check_37 (by decide) ?_
      cases q
      exact x_iret hx hb hr hlk M Ext.rf dX12_check_38
    · replace q := if_f c_5 q
      refine lv_aload_n hx hb dX12_check_20 rfl (lv_at hl 0 rfl) ?_
      refine lv_iload_n hx hb dX12_check_21 rfl (lv_at hl 2 rfl) ?_
      replace q := c2_s q
      obtain ⟨x_7, g_6, qc, q⟩ := q
      refine x_callV hx hb hml hl.1 hown hX M (S1 := S) (As := [.int x2]) (rest := []) okX12 ra0 rfl kw_1421 kw_43 mok_X12_isReader (c_X12_isReader ra0 qc (Nat.le_refl 1)) kw_1419 rfl rfl dX12_check_22 (Nat.le_of_ble_eq_true rfl) ⟨Nat.le_trans (by decide) hRf, Nat.le_trans (by decide) hRl⟩ (Nat.zero_le _) (Nat.zero_le _) (fun H locs M hEF => ?_)
      refine lv_if_eq (tgt := 37) hx hb dX12_check_25 (by decide) (fun c_8 => ?_) (fun c_8 => ?_)
      · replace q := if_t c_8 q
        refine lv_iconst (v := -1) hx hb dX12_check_37 (by decide) ?_
        cases q
        exact x_iret hx hb hr hlk M Ext.rf dX12_check_38
      · replace q := if_f c_8 q
        refine lv_aload_n hx hb dX12_check_28 rfl (lv_at hl 0 rfl) ?_
        replace q := nn_s q
        obtain ⟨a_9, e_a_9, q⟩ := q
        refine x_getR hx hb hown hX M e_a_9 okX12 ra0 (by decide) rfl kw_1026 dX12_check_29 (fun ra_9 => ?_)
        refine lv_iload_n hx hb dX12_check_32 rfl (lv_at hl 2 rfl) ?_
        replace q := ck_s q
        obtain ⟨hin, q⟩ := q
        refine x_zald hx hb hX M ra_9 (inb_in hin) dX12_check_33 ?_
        refine lv_if_ne (tgt := 39) hx hb dX12_check_34 (by decide) (fun c_10 => ?_) (fun c_10 => ?_)
        · replace q := if_f c_10 q
          refine lv_aload_n hx hb dX12_check_39 rfl (lv_at hl 0 rfl) ?_
          replace q := nn_s q
          obtain ⟨a_11, e_a_11, q⟩ := q
          refine x_getR hx hb hown hX M e_a_11 okX12 ra0 (by decide) rfl kw_1021 dX12_check_40 (fun ra_11 => ?_)
          refine lv_bipush (v := 8) hx hb dX12_check_43 (by decide) ?_
          refine lv_iload_n hx hb dX12_check_45 rfl (lv_at hl 1 rfl) ?_
          refine lv_imul hx hb dX12_check_46 ?_
          replace q := ck_s q
          obtain ⟨hin, q⟩ := q
          refine x_iald hx hb hX M ra_11 (inb_in hin) dX12_check_47 ?_
          refine lv_topi (fun x_12 e_x_12 => ?_)
          replace q := nm_s q e_x_12
          refine lv_istore (lv' := [(4, .int x_12), (0, .ref a0), (1, .int x1), (2, .int x2), (3, .int x3)]) hx hb dX12_check_48 hl (by decide) rfl (fun ls hl => ?_)
          refine lv_iload hx hb dX12_check_50 (lv_at hl 0 rfl) ?_
          refine lv_iconst (v := 2) hx hb dX12_check_52 (by decide) ?_
          refine lv_icmp_ne (tgt := 163) hx hb dX12_check_53 (by decide) (fun c_13 => ?_) (fun c_13 => ?_)
          · replace q := if_f c_13 q
            refine lv_aload_n hx hb dX12_check_163 rfl (lv_at hl 1 rfl) ?_
            replace q := nn_s q
            obtain ⟨a_14, e_a_14, q⟩ := q
            refine x_getR hx hb hown hX M e_a_14 okX12 ra0 (by decide) rfl kw_1025 dX12_check_164 (fun ra_14 => ?_)
            refine lv_bipush (v := 28) hx hb dX12_check_167 (by decide) ?_
            refine lv_iload_n hx hb dX12_check_169 rfl (lv_at hl 3 rfl) ?_
            refine lv_imul hx hb dX12_check_170 ?_
            replace q := ck_s q
            obtain ⟨hin, q⟩ := q
            refine x_iald hx hb hX M ra_14 (inb_in hin) dX12_check_171 ?_
            refine lv_aload_n hx hb dX12_check_172 rfl (lv_at hl 1 rfl) ?_
            replace q := nn_s q
            obtain ⟨a_15, e_a_15, q⟩ := q
            refine x_getR hx hb hown hX M e_a_15 okX12 ra0 (by decide) rfl kw_1021 dX12_check_173 (fun ra_15 => ?_)
            refine lv_bipush (v := 8) hx hb dX12_check_176 (by decide) ?_
            refine lv_iload_n hx hb dX12_check_178 rfl (lv_at hl 2 rfl) ?_
            refine lv_imul hx hb dX12_check_179 ?_
            refine lv_iconst (v := 2) hx hb dX12_check_180 (by decide) ?_
            refine lv_iadd hx hb dX12_check_181 ?_
            replace q := ck_s q
            obtain ⟨hin, q⟩ := q
            refine x_iald hx hb hX M ra_15 (inb_in hin) dX12_check_182 ?_
            refine lv_icmp_eq (tgt := 188) hx hb dX12_check_183 (by decide) (fun c_16 => ?_) (fun c_16 => ?_)
            · replace q := if_t c_16 q
              refine lv_iload hx hb dX12_check_188 (lv_at hl 0 rfl) ?_
              refine lv_iconst (v := 1) hx hb dX12_check_190 (by decide) ?_
              refine lv_icmp_eq (tgt := 200) hx hb dX12_check_191 (by decide) (fun c_17 => ?_) (fun c_17 => ?_)
              · replace q := if_t c_17 q
                exact w_X12_check_200 hx hb hml hr hlk hown hX hRf hRl (N := N)  _ _ _ _ _ _ _ M ra0 (lv_sub hl [1, 2, 3] rfl) q
              · replace q := if_f c_17 q
                refine lv_iload hx hb dX12_check_194 (lv_at hl 0 rfl) ?_
                refine lv_iconst (v := 5) hx hb dX12_check_196 (by decide) ?_
                refine lv_icmp_ne (tgt := 216) hx hb dX12_check_197 (by decide) (fun c_18 => ?_) (fun c_18 => ?_)
                · replace q := if_f c_18 q
                  refine lv_aload_n hx hb dX12_check_216 rfl (lv_at hl 1 rfl) ?_
                  refine lv_iload_n hx hb dX12_check_217 rfl (lv_at hl 2 rfl) ?_
                  refine lv_aload_n hx hb dX12_check_218 rfl (lv_at hl 1 rfl) ?_
                  replace q := nn_s q
                  obtain ⟨a_19, e_a_19, q⟩ := q
                  refine x_getR hx hb hown hX M e_a_19 okX12 ra0 (by decide) rfl kw_1025 dX12_check_219 (fun ra_19 => ?_)
                  refine lv_bipush (v := 28) hx hb dX12_check_222 (by decide) ?_
                  refine lv_iload_n hx hb dX12_check_224 rfl (lv_at hl 3 rfl) ?_
                  refine lv_imul hx hb dX12_check_225 ?_
                  replace q := c2_s q
                  obtain ⟨x_21, g_20, qc, q⟩ := q
                  refine x_callV hx hb hml hl.1 hown hX M (S1 := S) (As := [.int x1, .ref a_19, .int ((28 : Int32) * x2)]) (rest := []) okX12 ra0 rfl kw_1440 kw_47 mok_X12_isWayRight (c_X12_isWayRight ra0 ra_19 qc (Nat.le_refl 4)) kw_1438 rfl rfl dX12_check_226 (Nat.le_of_ble_eq_true rfl) ⟨Nat.le_trans (by decide) hRf, Nat.le_trans (by decide) hRl⟩ (Nat.zero_le _) (Nat.zero_le _) (fun H locs M hEF => ?_)
                  exact w_X12_check_229 hx hb hml hr hlk hown hX hRf hRl (N := N)  _ _ _ _ _ M  (lv_sub hl [] rfl) q
                · replace q := if_t c_18 q
                  exact w_X12_check_200 hx hb hml hr hlk hown hX hRf hRl (N := N)  _ _ _ _ _ _ _ M ra0 (lv_sub hl [1, 2, 3] rfl) q
            · replace q := if_f c_16 q
              refine lv_iconst (v := 0) hx hb dX12_check_186 (by decide) ?_
              cases q
              exact x_iret hx hb hr hlk M Ext.rf dX12_check_187
          · replace q := if_t c_13 q
            refine lv_aload_n hx hb dX12_check_56 rfl (lv_at hl 1 rfl) ?_
            refine lv_iload_n hx hb dX12_check_57 rfl (lv_at hl 4 rfl) ?_
            replace q := c2_s q
            obtain ⟨x_23, g_22, qc, q⟩ := q
            refine x_callV hx hb hml hl.1 hown hX M (S1 := S) (As := [.int x3]) (rest := []) okX12 ra0 rfl kw_1421 kw_43 mok_X12_isReader (c_X12_isReader ra0 qc (Nat.le_refl 1)) kw_1419 rfl rfl dX12_check_58 (Nat.le_of_ble_eq_true rfl) ⟨Nat.le_trans (by decide) hRf, Nat.le_trans (by decide) hRl⟩ (Nat.zero_le _) (Nat.zero_le _) (fun H locs M hEF => ?_)
            refine lv_if_eq (tgt := 73) hx hb dX12_check_61 (by decide) (fun c_24 => ?_) (fun c_24 => ?_)
            · replace q := if_t c_24 q
              refine lv_iconst (v := -1) hx hb dX12_check_73 (by decide) ?_
              cases q
              exact x_iret hx hb hr hlk M Ext.rf dX12_check_74
            · replace q := if_f c_24 q
              refine lv_aload_n hx hb dX12_check_64 rfl (lv_at hl 1 rfl) ?_
              replace q := nn_s q
              obtain ⟨a_25, e_a_25, q⟩ := q
              refine x_getR hx hb hown hX M e_a_25 okX12 ra0 (by decide) rfl kw_1026 dX12_check_65 (fun ra_25 => ?_)
              refine lv_iload_n hx hb dX12_check_68 rfl (lv_at hl 4 rfl) ?_
              replace q := ck_s q
              obtain ⟨hin, q⟩ := q
              refine x_zald hx hb hX M ra_25 (inb_in hin) dX12_check_69 ?_
              refine lv_if_ne (tgt := 75) hx hb dX12_check_70 (by decide) (fun c_26 => ?_) (fun c_26 => ?_)
              · replace q := if_f c_26 q
                refine lv_aload_n hx hb dX12_check_75 rfl (lv_at hl 1 rfl) ?_
                replace q := nn_s q
                obtain ⟨a_27, e_a_27, q⟩ := q
                refine x_getR hx hb hown hX M e_a_27 okX12 ra0 (by decide) rfl kw_1025 dX12_check_76 (fun ra_27 => ?_)
                refine lv_bipush (v := 28) hx hb dX12_check_79 (by decide) ?_
                refine lv_iload_n hx hb dX12_check_81 rfl (lv_at hl 3 rfl) ?_
                refine lv_imul hx hb dX12_check_82 ?_
                replace q := ck_s q
                obtain ⟨hin, q⟩ := q
                refine x_iald hx hb hX M ra_27 (inb_in hin) dX12_check_83 ?_
                refine lv_aload_n hx hb dX12_check_84 rfl (lv_at hl 1 rfl) ?_
                replace q := nn_s q
                obtain ⟨a_28, e_a_28, q⟩ := q
                refine x_getR hx hb hown hX M e_a_28 okX12 ra0 (by decide) rfl kw_1021 dX12_check_85 (fun ra_28 => ?_)
                refine lv_bipush (v := 8) hx hb dX12_check_88 (by decide) ?_
                refine lv_iload_n hx hb dX12_check_90 rfl (lv_at hl 2 rfl) ?_
                refine lv_imul hx hb dX12_check_91 ?_
                refine lv_iconst (v := 3) hx hb dX12_check_92 (by decide) ?_
                refine lv_iadd hx hb dX12_check_93 ?_
                replace q := ck_s q
                obtain ⟨hin, q⟩ := q
                refine x_iald hx hb hX M ra_28 (inb_in hin) dX12_check_94 ?_
                refine lv_icmp_ne (tgt := 125) hx hb dX12_check_95 (by decide) (fun c_29 => ?_) (fun c_29 => ?_)
                · replace q := if_f c_29 q
                  exact w_X12_check_125 hx hb hml hr hlk hown hX hRf hRl (N := N)  _ _ _ _ _ _ _ _ M ra0 (lv_sub hl [1, 2, 3, 4] rfl) q
                · replace q := if_t c_29 q
                  refine lv_aload_n hx hb dX12_check_98 rfl (lv_at hl 1 rfl) ?_
                  replace q := nn_s q
                  obtain ⟨a_30, e_a_30, q⟩ := q
                  refine x_getR hx hb hown hX M e_a_30 okX12 ra0 (by decide) rfl kw_1025 dX12_check_99 (fun ra_30 => ?_)
                  refine lv_bipush (v := 28) hx hb dX12_check_102 (by decide) ?_
                  refine lv_iload_n hx hb dX12_check_104 rfl (lv_at hl 4 rfl) ?_
                  refine lv_imul hx hb dX12_check_105 ?_
                  replace q := ck_s q
                  obtain ⟨hin, q⟩ := q
                  refine x_iald hx hb hX M ra_30 (inb_in hin) dX12_check_106 ?_
                  refine lv_aload_n hx hb dX12_check_107 rfl (lv_at hl 1 rfl) ?_
                  replace q := nn_s q
                  obtain ⟨a_31, e_a_31, q⟩ := q
                  refine x_getR hx hb hown hX M e_a_31 okX12 ra0 (by decide) rfl kw_1021 dX12_check_108 (fun ra_31 => ?_)
                  refine lv_bipush (v := 8) hx hb dX12_check_111 (by decide) ?_
                  refine lv_iload_n hx hb dX12_check_113 rfl (lv_at hl 2 rfl) ?_
                  refine lv_imul hx hb dX12_check_114 ?_
                  refine lv_iconst (v := 2) hx hb dX12_check_115 (by decide) ?_
                  refine lv_iadd hx hb dX12_check_116 ?_
                  replace q := ck_s q
                  obtain ⟨hin, q⟩ := q
                  refine x_iald hx hb hX M ra_31 (inb_in hin) dX12_check_117 ?_
                  refine lv_icmp_ne (tgt := 125) hx hb dX12_check_118 (by decide) (fun c_32 => ?_) (fun c_32 => ?_)
                  · replace q := if_f c_32 q
                    exact w_X12_check_125 hx hb hml hr hlk hown hX hRf hRl (N := N)  _ _ _ _ _ _ _ _ M ra0 (lv_sub hl [1, 2, 3, 4] rfl) q
                  · replace q := if_t c_32 q
                    refine lv_iconst (v := 1) hx hb dX12_check_121 (by decide) ?_
                    refine lv_goto (tgt := 126) hx hb dX12_check_122 (by decide) ?_
                    exact w_X12_check_126 hx hb hml hr hlk hown hX hRf hRl (N := N)  _ _ _ _ _ _ _ _ _ M ra0 (lv_sub hl [1, 2, 3, 4] rfl) q
              · replace q := if_t c_26 q
                refine lv_iconst (v := -1) hx hb dX12_check_73 (by decide) ?_
                cases q
                exact x_iret hx hb hr hlk M Ext.rf dX12_check_74
        · replace q := if_t c_10 q
          refine lv_iconst (v := -1) hx hb dX12_check_37 (by decide) ?_
          cases q
          exact x_iret hx hb hr hlk M Ext.rf dX12_check_38
set_option maxRecDepth 100000 in
theorem c_X12_check {l : Launch} {D : va_G} {cA : Nat → ClassId} {lo tS N : Nat} {S : Hs} {g g1 : Hg} {rv : Int32} {a0 : Nat} {x1 : Int32} {x2 : Int32} {x3 : Int32} (ra0 : Rf lo S a0 12) (q : f_X12_check N S g a0 x1 x2 x3 = some (rv, g1)) {d : Nat} (hd : 7 ≤ d) : Ctr l yX12_check cX12_check 6 (some .int) D cA lo tS [.ref a0, .int x1, .int x2, .int x3] S g d (some (.int rv)) S g1 True 0 0 := by
  refine x_met (by decide) (Nat.le_of_ble_eq_true rfl) ?_
  intro p e s m below meth c ls hx hb hml hr hlk hown hnm hX M hl
  exact w_X12_check_0 hx hb hml hr hlk hown hX hd (Nat.mul_le_mul_left 60 hd) (N := N) _ _ _ _ _ _ _ _ M ra0 (lv_sub hl [0, 1, 2, 3] rfl) q
def b_X12_count_61 (N : Nat) (S : Hs) (k61 : Hg → Nat → Int32 → Int32 → Int32 → Option (Int32 × Hg)) (g : Hg) (a0 : Nat) (x1 : Int32) (x3 : Int32) (x4 : Int32) : Option (Int32 × Hg) :=
c2 (f_X12_many N S g a0 x1) (fun x_2 g_1 =>
if x_2 ≤ x4 then (
some (x3, g_1)) else (
nn (rdR g_1 a0 4) (fun a_4 =>
ck (inb (((400 : Int32) * x1) + x4) (hpL S a_4)) (
if (rdI g_1 a_4 (((400 : Int32) * x1) + x4).toNatClampNeg) = 0 then (
nm (x4 + 1) (fun x_6 =>
k61 g_1 a0 x1 x3 x_6)) else (
nm (x3 + 1) (fun x_7 =>
nm (x4 + 1) (fun x_8 =>
k61 g_1 a0 x1 x_7 x_8)))))))
def n_X12_count_61 (N : Nat) (S : Hs) : Nat → Hg → Nat → Int32 → Int32 → Int32 → Option (Int32 × Hg)
  | 0 => fun _ _ _ _ _ => none
  | n + 1 => fun g a0 x1 x3 x4 => b_X12_count_61 N S (n_X12_count_61 N S n) g a0 x1 x3 x4
def b_X12_count_0 (N : Nat) (S : Hs) (g : Hg) (a0 : Nat) (x1 : Int32) (x2 : Int32) : Option (Int32 × Hg) :=
c2 (f_X12_isLog N S g a0 x1) (fun x_2 g_1 =>
if x_2 = 0 then (
some ((-1 : Int32), g_1)) else (
nm x2 (fun x_4 =>
if x_4 = 0 then (
c2 (f_X12_many N S g_1 a0 x1) (fun x_6 g_5 =>
some (x_6, g_5))) else (
if x_4 = 1 then (
n_X12_count_61 N S N g_1 a0 x1 (0 : Int32) (0 : Int32)) else (
if x_4 = 2 then (
nn (rdR g_1 a0 0) (fun a_7 =>
ck (inb ((4 : Int32) * x1) (hpL S a_7)) (
some ((rdI g_1 a_7 ((4 : Int32) * x1).toNatClampNeg), g_1)))) else (
if x_4 = 3 then (
c2 (f_X12_many N S g_1 a0 x1) (fun x_9 g_8 =>
c2 (f_X12_map N S g_8 a0 x1 x_9) (fun u_11 g_10 =>
some ((rdI g_10 a0 57), g_10)))) else (
if x_4 = 4 then (
nn (rdR g_1 a0 0) (fun a_12 =>
ck (inb (((4 : Int32) * x1) + (2 : Int32)) (hpL S a_12)) (
some ((rdI g_1 a_12 (((4 : Int32) * x1) + (2 : Int32)).toNatClampNeg), g_1)))) else (
if x_4 = 5 then (
nn (rdR g_1 a0 0) (fun a_13 =>
ck (inb (((4 : Int32) * x1) + (3 : Int32)) (hpL S a_13)) (
some ((rdI g_1 a_13 (((4 : Int32) * x1) + (3 : Int32)).toNatClampNeg), g_1)))) else (
some ((-1 : Int32), g_1))))))))))
def f_X12_count (N : Nat) (S : Hs) (g : Hg) (a0 : Nat) (x1 : Int32) (x2 : Int32) : Option (Int32 × Hg) := b_X12_count_0 N S g a0 x1 x2
set_option maxHeartbeats 4000000 in
set_option maxRecDepth 100000 in
theorem w_X12_count_61 (hx : p.tables.exec = Jvm.exec) (hb : c.code = cX12_count) (hml : c.maxLocals = 5) (hr : meth.sig.returnType = (some .int)) (hlk : meth.locks = false) (hown : s.vm.findClass RX12 = some m.cls) (hX : Kx D cA lo tS s) (hRf : 5 ≤ R.frames) (hRl : 300 ≤ R.locals) {N : Nat} {rv : Int32} {g1 : Hg} {S : Hs} {k61 : Hg → Nat → Int32 → Int32 → Int32 → Option (Int32 × Hg)} (hk61 : ∀ (H : Heap) (locs : List Loc) (ls : Array Slot) (g : Hg) (a0 : Nat) (x1 : Int32) (x3 : Int32) (x4 : Int32), Mm D cA lo S g s H locs → Rf lo S a0 12 → lv_has ls 5 [(0, .ref a0), (1, .int x1), (3, .int x3), (4, .int x4)] → k61 g a0 x1 x3 x4 = some (rv, g1) → W p l e R s m args below meth c H locs 0 0 (MQ below (Qcx D cA lo S (some (.int rv)) S g1 True) args s 0 0 (fun q : Nat => lo ≤ q)) (F0 m 61 ls [])) : ∀ (H : Heap) (locs : List Loc) (ls : Array Slot) (g : Hg) (a0 : Nat) (x1 : Int32) (x3 : Int32) (x4 : Int32), Mm D cA lo S g s H locs → Rf lo S a0 12 → lv_has ls 5 [(0, .ref a0), (1, .int x1), (3, .int x3), (4, .int x4)] → b_X12_count_61 N S k61 g a0 x1 x3 x4 = some (rv, g1) → W p l e R s m args below meth c H locs 0 0 (MQ below (Qcx D cA lo S (some (.int rv)) S g1 True) args s 0 0 (fun q : Nat => lo ≤ q)) (F0 m 61 ls []) := by
  intro H locs ls g a0 x1 x3 x4 M ra0 hl q
  unfold b_X12_count_61 at q
  refine lv_iload hx hb dX12_count_61 (lv_at hl 3 rfl) ?_
  refine lv_aload_n hx hb dX12_count_63 rfl (lv_at hl 0 rfl) ?_
  refine lv_iload_n hx hb dX12_count_64 rfl (lv_at hl 1 rfl) ?_
  replace q := c2_s q
  obtain ⟨x_2, g_1, qc, q⟩ := q
  refine x_callV hx hb hml hl.1 hown hX M (S1 := S) (As := [.int x1]) (rest := [.int x4]) okX12 ra0 rfl kw_1225 kw_15 mok_X12_many (c_X12_many ra0 qc (Nat.le_refl 1)) kw_1223 rfl rfl dX12_count_65 (Nat.le_of_ble_eq_true rfl) ⟨Nat.le_trans (by decide) hRf, Nat.le_trans (by decide) hRl⟩ (Nat.zero_le _) (Nat.zero_le _) (fun H locs M hEF => ?_)
  refine lv_icmp_ge (tgt := 96) hx hb dX12_count_68 (by decide) (fun c_3 => ?_) (fun c_3 => ?_)
  · replace q := if_t c_3 q
    refine lv_iload_n hx hb dX12_count_96 rfl (lv_at hl 2 rfl) ?_
    cases q
    exact x_iret hx hb hr hlk M Ext.rf dX12_count_97
  · replace q := if_f c_3 q
    refine lv_aload_n hx hb dX12_count_71 rfl (lv_at hl 0 rfl) ?_
    replace q := nn_s q
    obtain ⟨a_4, e_a_4, q⟩ := q
    refine x_getR hx hb hown hX M e_a_4 okX12 ra0 (by decide) rfl kw_1016 dX12_count_72 (fun ra_4 => ?_)
    refine lv_sipush (v := 400) hx hb dX12_count_75 (by decide) ?_
    refine lv_iload_n hx hb dX12_count_78 rfl (lv_at hl 1 rfl) ?_
    refine lv_imul hx hb dX12_count_79 ?_
    refine lv_iload hx hb dX12_count_80 (lv_at hl 3 rfl) ?_
    refine lv_iadd hx hb dX12_count_82 ?_
    replace q := ck_s q
    obtain ⟨hin, q⟩ := q
    refine x_zald hx hb hX M ra_4 (inb_in hin) dX12_count_83 ?_
    refine lv_if_eq (tgt := 90) hx hb dX12_count_84 (by decide) (fun c_5 => ?_) (fun c_5 => ?_)
    · replace q := if_t c_5 q
      obtain ⟨x_6, e_x_6⟩ : ∃ y : Int32, y = x4 + 1 := ⟨_, rfl⟩
      replace q := nm_s q e_x_6
      refine lv_iinc (v := x_6) (lv' := [(4, .int x_6), (0, .ref a0), (1, .int x1), (3, .int x3)]) hx hb dX12_count_90 hl (k := 3) rfl (by rw [e_x_6]; rfl) (by decide) rfl (fun ls hl => ?_)
      refine lv_goto (tgt := 61) hx hb dX12_count_93 (by decide) ?_
      exact hk61 _ _ _ _ _ _ _ _ M ra0 (lv_sub hl [1, 2, 3, 0] rfl) q
    · replace q := if_f c_5 q
      obtain ⟨x_7, e_x_7⟩ : ∃ y : Int32, y = x3 + 1 := ⟨_, rfl⟩
      replace q := nm_s q e_x_7
      refine lv_iinc (v := x_7) (lv' := [(3, .int x_7), (0, .ref a0), (1, .int x1), (4, .int x4)]) hx hb dX12_count_87 hl (k := 2) rfl (by rw [e_x_7]; rfl) (by decide) rfl (fun ls hl => ?_)
      obtain ⟨x_8, e_x_8⟩ : ∃ y : Int32, y = x4 + 1 := ⟨_, rfl⟩
      replace q := nm_s q e_x_8
      refine lv_iinc (v := x_8) (lv' := [(4, .int x_8), (3, .int x_7), (0, .ref a0), (1, .int x1)]) hx hb dX12_count_90 hl (k := 3) rfl (by rw [e_x_8]; rfl) (by decide) rfl (fun ls hl => ?_)
      refine lv_goto (tgt := 61) hx hb dX12_count_93 (by decide) ?_
      exact hk61 _ _ _ _ _ _ _ _ M ra0 (lv_sub hl [2, 3, 1, 0] rfl) q
set_option maxRecDepth 100000 in
theorem l_X12_count_61 (hx : p.tables.exec = Jvm.exec) (hb : c.code = cX12_count) (hml : c.maxLocals = 5) (hr : meth.sig.returnType = (some .int)) (hlk : meth.locks = false) (hown : s.vm.findClass RX12 = some m.cls) (hX : Kx D cA lo tS s) (hRf : 5 ≤ R.frames) (hRl : 300 ≤ R.locals) {N : Nat} {rv : Int32} {g1 : Hg} {S : Hs} : ∀ (n : Nat), ∀ (H : Heap) (locs : List Loc) (ls : Array Slot) (g : Hg) (a0 : Nat) (x1 : Int32) (x3 : Int32) (x4 : Int32), Mm D cA lo S g s H locs → Rf lo S a0 12 → lv_has ls 5 [(0, .ref a0), (1, .int x1), (3, .int x3), (4, .int x4)] → n_X12_count_61 N S n g a0 x1 x3 x4 = some (rv, g1) → W p l e R s m args below meth c H locs 0 0 (MQ below (Qcx D cA lo S (some (.int rv)) S g1 True) args s 0 0 (fun q : Nat => lo ≤ q)) (F0 m 61 ls []) := by
  intro n
  induction n with
  | zero =>
    intro H locs ls g a0 x1 x3 x4 M ra0 hl q
    exact absurd q (by simp [n_X12_count_61])
  | succ n ih => exact w_X12_count_61 hx hb hml hr hlk hown hX hRf hRl (N := N)  ih
set_option maxHeartbeats 4000000 in
set_option maxRecDepth 100000 in
theorem w_X12_count_0 (hx : p.tables.exec = Jvm.exec) (hb : c.code = cX12_count) (hml : c.maxLocals = 5) (hr : meth.sig.returnType = (some .int)) (hlk : meth.locks = false) (hown : s.vm.findClass RX12 = some m.cls) (hX : Kx D cA lo tS s) (hRf : 5 ≤ R.frames) (hRl : 300 ≤ R.locals) {N : Nat} {rv : Int32} {g1 : Hg} {S : Hs} : ∀ (H : Heap) (locs : List Loc) (ls : Array Slot) (g : Hg) (a0 : Nat) (x1 : Int32) (x2 : Int32), Mm D cA lo S g s H locs → Rf lo S a0 12 → lv_has ls 5 [(0, .ref a0), (1, .int x1), (2, .int x2)] → b_X12_count_0 N S g a0 x1 x2 = some (rv, g1) → W p l e R s m args below meth c H locs 0 0 (MQ below (Qcx D cA lo S (some (.int rv)) S g1 True) args s 0 0 (fun q : Nat => lo ≤ q)) (F0 m 0 ls []) := by
  intro H locs ls g a0 x1 x2 M ra0 hl q
  unfold b_X12_count_0 at q
  refine lv_aload_n hx hb dX12_count_0 rfl (lv_at hl 0 rfl) ?_
  refine lv_iload_n hx hb dX12_count_1 rfl (lv_at hl 1 rfl) ?_
  replace q := c2_s q
  obtain ⟨x_2, g_1, qc, q⟩ := q
  refine x_callV hx hb hml hl.1 hown hX M (S1 := S) (As := [.int x1]) (rest := []) okX12 ra0 rfl kw_1221 kw_14 mok_X12_isLog (c_X12_isLog ra0 qc (Nat.le_refl 1)) kw_1219 rfl rfl dX12_count_2 (Nat.le_of_ble_eq_true rfl) ⟨Nat.le_trans (by decide) hRf, Nat.le_trans (by decide) hRl⟩ (Nat.zero_le _) (Nat.zero_le _) (fun H locs M hEF => ?_)
  refine lv_if_ne (tgt := 10) hx hb dX12_count_5 (by decide) (fun c_3 => ?_) (fun c_3 => ?_)
  · replace q := if_f c_3 q
    refine lv_iconst (v := 0) hx hb dX12_count_10 (by decide) ?_
    refine lv_istore_n (lv' := [(3, .int (0 : Int32)), (0, .ref a0), (1, .int x1), (2, .int x2)]) hx hb dX12_count_11 rfl hl (by decide) rfl (fun ls hl => ?_)
    refine lv_iload_n hx hb dX12_count_12 rfl (lv_at hl 3 rfl) ?_
    refine lv_topi (fun x_4 e_x_4 => ?_)
    replace q := nm_s q e_x_4
    clear e_x_4
    by_cases cx_4_0 : x_4 = 0
    · replace q := if_t cx_4_0 q
      subst cx_4_0
      refine lv_tableIn (off := 39) (tgt := 52) hx hb dX12_count_13 (by decide) (by decide) (by decide) (by decide) ?_
      refine lv_aload_n hx hb dX12_count_52 rfl (lv_at hl 1 rfl) ?_
      refine lv_iload_n hx hb dX12_count_53 rfl (lv_at hl 2 rfl) ?_
      replace q := c2_s q
      obtain ⟨x_6, g_5, qc, q⟩ := q
      refine x_callV hx hb hml hl.1 hown hX M (S1 := S) (As := [.int x1]) (rest := []) okX12 ra0 rfl kw_1225 kw_15 mok_X12_many (c_X12_many ra0 qc (Nat.le_refl 1)) kw_1223 rfl rfl dX12_count_54 (Nat.le_of_ble_eq_true rfl) ⟨Nat.le_trans (by decide) hRf, Nat.le_trans (by decide) hRl⟩ (Nat.zero_le _) (Nat.zero_le _) (fun H locs M hEF => ?_)
      cases q
      exact x_iret hx hb hr hlk M Ext.rf dX12_count_57
    replace q := if_f cx_4_0 q
    by_cases cx_4_1 : x_4 = 1
    · replace q := if_t cx_4_1 q
      subst cx_4_1
      refine lv_tableIn (off := 45) (tgt := 58) hx hb dX12_count_13 (by decide) (by decide) (by decide) (by decide) ?_
      refine lv_iconst (v := 0) hx hb dX12_count_58 (by decide) ?_
      refine lv_istore (lv' := [(4, .int (0 : Int32)), (3, .int (0 : Int32)), (0, .ref a0), (1, .int x1), (2, .int x2)]) hx hb dX12_count_59 hl (by decide) rfl (fun ls hl => ?_)
      exact l_X12_count_61 hx hb hml hr hlk hown hX hRf hRl (N := N)  N _ _ _ _ _ _ _ _ M ra0 (lv_sub hl [2, 3, 1, 0] rfl) q
    replace q := if_f cx_4_1 q
    by_cases cx_4_2 : x_4 = 2
    · replace q := if_t cx_4_2 q
      subst cx_4_2
      refine lv_tableIn (off := 85) (tgt := 98) hx hb dX12_count_13 (by decide) (by decide) (by decide) (by decide) ?_
      refine lv_aload_n hx hb dX12_count_98 rfl (lv_at hl 1 rfl) ?_
      replace q := nn_s q
      obtain ⟨a_7, e_a_7, q⟩ := q
      refine x_getR hx hb hown hX M e_a_7 okX12 ra0 (by decide) rfl kw_1012 dX12_count_99 (fun ra_7 => ?_)
      refine lv_iconst (v := 4) hx hb dX12_count_102 (by decide) ?_
      refine lv_iload_n hx hb dX12_count_103 rfl (lv_at hl 2 rfl) ?_
      refine lv_imul hx hb dX12_count_104 ?_
      replace q := ck_s q
      obtain ⟨hin, q⟩ := q
      refine x_iald hx hb hX M ra_7 (inb_in hin) dX12_count_105 ?_
      cases q
      exact x_iret hx hb hr hlk M Ext.rf dX12_count_106
    replace q := if_f cx_4_2 q
    by_cases cx_4_3 : x_4 = 3
    · replace q := if_t cx_4_3 q
      subst cx_4_3
      refine lv_tableIn (off := 94) (tgt := 107) hx hb dX12_count_13 (by decide) (by decide) (by decide) (by decide) ?_
      refine lv_aload_n hx hb dX12_count_107 rfl (lv_at hl 1 rfl) ?_
      refine lv_iload_n hx hb dX12_count_108 rfl (lv_at hl 2 rfl) ?_
      refine lv_aload_n hx hb dX12_count_109 rfl (lv_at hl 1 rfl) ?_
      refine lv_iload_n hx hb dX12_count_110 rfl (lv_at hl 2 rfl) ?_
      replace q := c2_s q
      obtain ⟨x_9, g_8, qc, q⟩ := q
      refine x_callV hx hb hml hl.1 hown hX M (S1 := S) (As := [.int x1]) (rest := [.int x1, .ref a0]) okX12 ra0 rfl kw_1225 kw_15 mok_X12_many (c_X12_many ra0 qc (Nat.le_refl 1)) kw_1223 rfl rfl dX12_count_111 (Nat.le_of_ble_eq_true rfl) ⟨Nat.le_trans (by decide) hRf, Nat.le_trans (by decide) hRl⟩ (Nat.zero_le _) (Nat.zero_le _) (fun H locs M hEF => ?_)
      replace q := c2_s q
      obtain ⟨u_11, g_10, qc, q⟩ := q
      refine x_callV hx hb hml hl.1 hown hX M (S1 := S) (As := [.int x1, .int x_9]) (rest := []) okX12 ra0 rfl kw_1265 kw_19 mok_X12_map (c_X12_map ra0 qc (Nat.le_refl 4)) kw_1263 rfl rfl dX12_count_114 (Nat.le_of_ble_eq_true rfl) ⟨Nat.le_trans (by decide) hRf, Nat.le_trans (by decide) hRl⟩ (Nat.zero_le _) (Nat.zero_le _) (fun H locs M hEF => ?_)
      refine lv_aload_n hx hb dX12_count_117 rfl (lv_at hl 1 rfl) ?_
      refine x_getI hx hb hown hX M (k := 57) okX12 ra0 (by decide) rfl kw_1069 dX12_count_118 ?_
      cases q
      exact x_iret hx hb hr hlk M Ext.rf dX12_count_121
    replace q := if_f cx_4_3 q
    by_cases cx_4_4 : x_4 = 4
    · replace q := if_t cx_4_4 q
      subst cx_4_4
      refine lv_tableIn (off := 109) (tgt := 122) hx hb dX12_count_13 (by decide) (by decide) (by decide) (by decide) ?_
      refine lv_aload_n hx hb dX12_count_122 rfl (lv_at hl 1 rfl) ?_
      replace q := nn_s q
      obtain ⟨a_12, e_a_12, q⟩ := q
      refine x_getR hx hb hown hX M e_a_12 okX12 ra0 (by decide) rfl kw_1012 dX12_count_123 (fun ra_12 => ?_)
      refine lv_iconst (v := 4) hx hb dX12_count_126 (by decide) ?_
      refine lv_iload_n hx hb dX12_count_127 rfl (lv_at hl 2 rfl) ?_
      refine lv_imul hx hb dX12_count_128 ?_
      refine lv_iconst (v := 2) hx hb dX12_count_129 (by decide) ?_
      refine lv_iadd hx hb dX12_count_130 ?_
      replace q := ck_s q
      obtain ⟨hin, q⟩ := q
      refine x_iald hx hb hX M ra_12 (inb_in hin) dX12_count_131 ?_
      cases q
      exact x_iret hx hb hr hlk M Ext.rf dX12_count_132
    replace q := if_f cx_4_4 q
    by_cases cx_4_5 : x_4 = 5
    · replace q := if_t cx_4_5 q
      subst cx_4_5
      refine lv_tableIn (off := 120) (tgt := 133) hx hb dX12_count_13 (by decide) (by decide) (by decide) (by decide) ?_
      refine lv_aload_n hx hb dX12_count_133 rfl (lv_at hl 1 rfl) ?_
      replace q := nn_s q
      obtain ⟨a_13, e_a_13, q⟩ := q
      refine x_getR hx hb hown hX M e_a_13 okX12 ra0 (by decide) rfl kw_1012 dX12_count_134 (fun ra_13 => ?_)
      refine lv_iconst (v := 4) hx hb dX12_count_137 (by decide) ?_
      refine lv_iload_n hx hb dX12_count_138 rfl (lv_at hl 2 rfl) ?_
      refine lv_imul hx hb dX12_count_139 ?_
      refine lv_iconst (v := 3) hx hb dX12_count_140 (by decide) ?_
      refine lv_iadd hx hb dX12_count_141 ?_
      replace q := ck_s q
      obtain ⟨hin, q⟩ := q
      refine x_iald hx hb hX M ra_13 (inb_in hin) dX12_count_142 ?_
      cases q
      exact x_iret hx hb hr hlk M Ext.rf dX12_count_143
    replace q := if_f cx_4_5 q
    refine lv_tableOut (tgt := 144) hx hb dX12_count_13 (sw_def (fun z h1 h2 => ?_)) (by decide) ?_
    · have hz : z = 0 ∨ z = 1 ∨ z = 2 ∨ z = 3 ∨ z = 4 ∨ z = 5 := by omega
      rcases hz with rfl | rfl | rfl | rfl | rfl | rfl
      · exact cx_4_0
      · exact cx_4_1
      · exact cx_4_2
      · exact cx_4_3
      · exact cx_4_4
      · exact cx_4_5
    · refine lv_iconst (v := -1) hx hb dX12_count_144 (by decide) ?_
      cases q
      exact x_iret hx hb hr hlk M Ext.rf dX12_count_145
  · replace q := if_t c_3 q
    refine lv_iconst (v := -1) hx hb dX12_count_8 (by decide) ?_
    cases q
    exact x_iret hx hb hr hlk M Ext.rf dX12_count_9
set_option maxRecDepth 100000 in
theorem c_X12_count {l : Launch} {D : va_G} {cA : Nat → ClassId} {lo tS N : Nat} {S : Hs} {g g1 : Hg} {rv : Int32} {a0 : Nat} {x1 : Int32} {x2 : Int32} (ra0 : Rf lo S a0 12) (q : f_X12_count N S g a0 x1 x2 = some (rv, g1)) {d : Nat} (hd : 5 ≤ d) : Ctr l yX12_count cX12_count 5 (some .int) D cA lo tS [.ref a0, .int x1, .int x2] S g d (some (.int rv)) S g1 True 0 0 := by
  refine x_met (by decide) (Nat.le_of_ble_eq_true rfl) ?_
  intro p e s m below meth c ls hx hb hml hr hlk hown hnm hX M hl
  exact w_X12_count_0 hx hb hml hr hlk hown hX hd (Nat.mul_le_mul_left 60 hd) (N := N) _ _ _ _ _ _ _ M ra0 (lv_sub hl [0, 1, 2] rfl) q
def b_X12_drop_0 (N : Nat) (S : Hs) (g : Hg) (a0 : Nat) (x1 : Int32) : Option (Int32 × Hg) :=
c2 (f_X12_isSlot N S g a0 x1) (fun x_2 g_1 =>
if x_2 = 0 then (
some ((-1 : Int32), g_1)) else (
nn (rdR g_1 a0 9) (fun a_4 =>
ck (inb ((8 : Int32) * x1) (hpL S a_4)) (
nm (rdI g_1 a_4 ((8 : Int32) * x1).toNatClampNeg) (fun x_5 =>
c2 (f_X12_begin N S g_1 a0 x1 (0 : Int32) (0 : Int32) (0 : Int32) (0 : Int32)) (fun u_7 g_6 =>
some (x_5, g_6)))))))
def f_X12_drop (N : Nat) (S : Hs) (g : Hg) (a0 : Nat) (x1 : Int32) : Option (Int32 × Hg) := b_X12_drop_0 N S g a0 x1
set_option maxHeartbeats 4000000 in
set_option maxRecDepth 100000 in
theorem w_X12_drop_0 (hx : p.tables.exec = Jvm.exec) (hb : c.code = cX12_drop) (hml : c.maxLocals = 3) (hr : meth.sig.returnType = (some .int)) (hlk : meth.locks = false) (hown : s.vm.findClass RX12 = some m.cls) (hX : Kx D cA lo tS s) (hRf : 2 ≤ R.frames) (hRl : 120 ≤ R.locals) {N : Nat} {rv : Int32} {g1 : Hg} {S : Hs} : ∀ (H : Heap) (locs : List Loc) (ls : Array Slot) (g : Hg) (a0 : Nat) (x1 : Int32), Mm D cA lo S g s H locs → Rf lo S a0 12 → lv_has ls 3 [(0, .ref a0), (1, .int x1)] → b_X12_drop_0 N S g a0 x1 = some (rv, g1) → W p l e R s m args below meth c H locs 0 0 (MQ below (Qcx D cA lo S (some (.int rv)) S g1 True) args s 0 0 (fun q : Nat => lo ≤ q)) (F0 m 0 ls []) := by
  intro H locs ls g a0 x1 M ra0 hl q
  unfold b_X12_drop_0 at q
  refine lv_aload_n hx hb dX12_drop_0 rfl (lv_at hl 0 rfl) ?_
  refine lv_iload_n hx hb dX12_drop_1 rfl (lv_at hl 1 rfl) ?_
  replace q := c2_s q
  obtain ⟨x_2, g_1, qc, q⟩ := q
  refine x_callV hx hb hml hl.1 hown hX M (S1 := S) (As := [.int x1]) (rest := []) okX12 ra0 rfl kw_1357 kw_37 mok_X12_isSlot (c_X12_isSlot ra0 qc (Nat.le_refl 1)) kw_1355 rfl rfl dX12_drop_2 (Nat.le_of_ble_eq_true rfl) ⟨Nat.le_trans (by decide) hRf, Nat.le_trans (by decide) hRl⟩ (Nat.zero_le _) (Nat.zero_le _) (fun H locs M hEF => ?_)
  refine lv_if_ne (tgt := 10) hx hb dX12_drop_5 (by decide) (fun c_3 => ?_) (fun c_3 => ?_)
  · replace q := if_f c_3 q
    refine lv_aload_n hx hb dX12_drop_10 rfl (lv_at hl 0 rfl) ?_
    replace q := nn_s q
    obtain ⟨a_4, e_a_4, q⟩ := q
    refine x_getR hx hb hown hX M e_a_4 okX12 ra0 (by decide) rfl kw_1021 dX12_drop_11 (fun ra_4 => ?_)
    refine lv_bipush (v := 8) hx hb dX12_drop_14 (by decide) ?_
    refine lv_iload_n hx hb dX12_drop_16 rfl (lv_at hl 1 rfl) ?_
    refine lv_imul hx hb dX12_drop_17 ?_
    replace q := ck_s q
    obtain ⟨hin, q⟩ := q
    refine x_iald hx hb hX M ra_4 (inb_in hin) dX12_drop_18 ?_
    refine lv_topi (fun x_5 e_x_5 => ?_)
    replace q := nm_s q e_x_5
    refine lv_istore_n (lv' := [(2, .int x_5), (0, .ref a0), (1, .int x1)]) hx hb dX12_drop_19 rfl hl (by decide) rfl (fun ls hl => ?_)
    refine lv_aload_n hx hb dX12_drop_20 rfl (lv_at hl 1 rfl) ?_
    refine lv_iload_n hx hb dX12_drop_21 rfl (lv_at hl 2 rfl) ?_
    refine lv_iconst (v := 0) hx hb dX12_drop_22 (by decide) ?_
    refine lv_iconst (v := 0) hx hb dX12_drop_23 (by decide) ?_
    refine lv_iconst (v := 0) hx hb dX12_drop_24 (by decide) ?_
    refine lv_iconst (v := 0) hx hb dX12_drop_25 (by decide) ?_
    replace q := c2_s q
    obtain ⟨u_7, g_6, qc, q⟩ := q
    refine x_callV hx hb hml hl.1 hown hX M (S1 := S) (As := [.int x1, .int (0 : Int32), .int (0 : Int32), .int (0 : Int32), .int (0 : Int32)]) (rest := []) okX12 ra0 rfl kw_1361 kw_38 mok_X12_begin (c_X12_begin ra0 qc (Nat.le_refl 1)) kw_1359 rfl rfl dX12_drop_26 (Nat.le_of_ble_eq_true rfl) ⟨Nat.le_trans (by decide) hRf, Nat.le_trans (by decide) hRl⟩ (Nat.zero_le _) (Nat.zero_le _) (fun H locs M hEF => ?_)
    refine lv_iload_n hx hb dX12_drop_29 rfl (lv_at hl 0 rfl) ?_
    cases q
    exact x_iret hx hb hr hlk M Ext.rf dX12_drop_30
  · replace q := if_t c_3 q
    refine lv_iconst (v := -1) hx hb dX12_drop_8 (by decide) ?_
    cases q
    exact x_iret hx hb hr hlk M Ext.rf dX12_drop_9
set_option maxRecDepth 100000 in
theorem c_X12_drop {l : Launch} {D : va_G} {cA : Nat → ClassId} {lo tS N : Nat} {S : Hs} {g g1 : Hg} {rv : Int32} {a0 : Nat} {x1 : Int32} (ra0 : Rf lo S a0 12) (q : f_X12_drop N S g a0 x1 = some (rv, g1)) {d : Nat} (hd : 2 ≤ d) : Ctr l yX12_drop cX12_drop 3 (some .int) D cA lo tS [.ref a0, .int x1] S g d (some (.int rv)) S g1 True 0 0 := by
  refine x_met (by decide) (Nat.le_of_ble_eq_true rfl) ?_
  intro p e s m below meth c ls hx hb hml hr hlk hown hnm hX M hl
  exact w_X12_drop_0 hx hb hml hr hlk hown hX hd (Nat.mul_le_mul_left 60 hd) (N := N) _ _ _ _ _ _ M ra0 (lv_sub hl [0, 1] rfl) q
end W15
