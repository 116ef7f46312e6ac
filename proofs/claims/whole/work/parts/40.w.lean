section W20
variable {p : Program} {l : Launch} {e : Env} {R : Room} {s : State} {m : MethodId} {args : Array Value} {below : List Frame} {meth : Method} {c : Code} {D : va_G} {cA : Nat → ClassId} {lo tS : Nat}
def b_X12_take_129 (N : Nat) (S : Hs) (g : Hg) (a0 : Nat) (x1 : Int32) (x4 : Int32) : Option (Int32 × Hg) :=
nn (rdR g a0 59) (fun a_1 =>
nn (rdR g a0 13) (fun a_2 =>
c2 (f_X12_copy N S g a_1 (0 : Int32) a_2 x4 (0 : Int32)) (fun u_4 g_3 =>
nn (rdR g_3 a0 14) (fun a_5 =>
ck (inb x1 (hpL S a_5)) (
nm (wrI g_3 a_5 x1.toNatClampNeg (1 : Int32)) (fun g_6 =>
some ((1 : Int32), g_6)))))))
def b_X12_take_0 (N : Nat) (S : Hs) (g : Hg) (a0 : Nat) (x1 : Int32) (x2 : Int32) (x3 : Int32) : Option (Int32 × Hg) :=
c2 (f_X12_isReader N S g a0 x1) (fun x_2 g_1 =>
if x_2 = 0 then (
some ((-1 : Int32), g_1)) else (
c2 (f_X12_isCount N S g_1 a0 x2 x3) (fun x_5 g_4 =>
if x_5 = 0 then (
some ((-1 : Int32), g_4)) else (
nn (rdR g_4 a0 59) (fun a_7 =>
c2 (f_X12_head N S g_4 a0 x2 x3 a_7 (0 : Int32)) (fun u_9 g_8 =>
nm ((28 : Int32) * x1) (fun x_10 =>
nn (rdR g_8 a0 14) (fun a_11 =>
ck (inb x1 (hpL S a_11)) (
if (rdI g_8 a_11 x1.toNatClampNeg) = 0 then (
b_X12_take_129 N S g_8 a0 x1 x_10) else (
nn (rdR g_8 a0 13) (fun a_13 =>
ck (inb (x_10 + (2 : Int32)) (hpL S a_13)) (
nn (rdR g_8 a0 59) (fun a_14 =>
ck (inb (2 : Int32) (hpL S a_14)) (
if (rdI g_8 a_13 (x_10 + (2 : Int32)).toNatClampNeg) = (rdI g_8 a_14 (2 : Int32).toNatClampNeg) then (
nn (rdR g_8 a0 13) (fun a_16 =>
nn (rdR g_8 a0 59) (fun a_17 =>
c2 (f_X12_agree N S g_8 a0 a_16 x_10 a_17 (0 : Int32)) (fun x_19 g_18 =>
if x_19 = 0 then (
nn (rdR g_18 a0 13) (fun a_24 =>
nn (rdR g_18 a0 59) (fun a_25 =>
c2 (f_X12_blame N S g_18 a0 a_24 x_10 a_25 (0 : Int32)) (fun u_27 g_26 =>
nn (rdR g_26 a0 13) (fun a_28 =>
ck (inb (x_10 + (3 : Int32)) (hpL S a_28)) (
ck (inb (x_10 + (3 : Int32)) (hpL S a_28)) (
nm (wrI g_26 a_28 (x_10 + (3 : Int32)).toNatClampNeg ((rdI g_26 a_28 (x_10 + (3 : Int32)).toNatClampNeg) + (1 : Int32))) (fun g_29 =>
some ((0 : Int32), g_29))))))))) else (
nn (rdR g_18 a0 59) (fun a_21 =>
ck (inb (0 : Int32) (hpL S a_21)) (
nn (rdR g_18 a0 13) (fun a_22 =>
ck (inb x_10 (hpL S a_22)) (
if (rdI g_18 a_22 x_10.toNatClampNeg) < (rdI g_18 a_21 (0 : Int32).toNatClampNeg) then (
b_X12_take_129 N S g_18 a0 x1 x_10) else (
some ((1 : Int32), g_18))))))))))) else (
b_X12_take_129 N S g_8 a0 x1 x_10)))))))))))))))
def f_X12_take (N : Nat) (S : Hs) (g : Hg) (a0 : Nat) (x1 : Int32) (x2 : Int32) (x3 : Int32) : Option (Int32 × Hg) := b_X12_take_0 N S g a0 x1 x2 x3
set_option maxHeartbeats 4000000 in
set_option maxRecDepth 100000 in
theorem w_X12_take_129 (hx : p.tables.exec = Jvm.exec) (hb : c.code = cX12_take) (hml : c.maxLocals = 5) (hr : meth.sig.returnType = (some .int)) (hlk : meth.locks = false) (hown : s.vm.findClass RX12 = some m.cls) (hX : Kx D cA lo tS s) (hRf : 307 ≤ R.frames) (hRl : 18420 ≤ R.locals) {N : Nat} {rv : Int32} {g1 : Hg} {S : Hs} : ∀ (H : Heap) (locs : List Loc) (ls : Array Slot) (g : Hg) (a0 : Nat) (x1 : Int32) (x4 : Int32), Mm D cA lo S g s H locs → Rf lo S a0 12 → lv_has ls 5 [(0, .ref a0), (1, .int x1), (4, .int x4)] → b_X12_take_129 N S g a0 x1 x4 = some (rv, g1) → W p l e R s m args below meth c H locs 0 0 (MQ below (Qcx D cA lo S (some (.int rv)) S g1 True) args s 0 0 (fun q : Nat => lo ≤ q)) (F0 m 129 ls []) := by
  intro H locs ls g a0 x1 x4 M ra0 hl q
  unfold b_X12_take_129 at q
  refine lv_aload_n hx hb dX12_take_129 rfl (lv_at hl 0 rfl) ?_
  replace q := nn_s q
  obtain ⟨a_1, e_a_1, q⟩ := q
  refine x_getR hx hb hown hX M e_a_1 okX12 ra0 (by decide) rfl kw_1071 dX12_take_130 (fun ra_1 => ?_)
  refine lv_iconst (v := 0) hx hb dX12_take_133 (by decide) ?_
  refine lv_aload_n hx hb dX12_take_134 rfl (lv_at hl 0 rfl) ?_
  replace q := nn_s q
  obtain ⟨a_2, e_a_2, q⟩ := q
  refine x_getR hx hb hown hX M e_a_2 okX12 ra0 (by decide) rfl kw_1025 dX12_take_135 (fun ra_2 => ?_)
  refine lv_iload hx hb dX12_take_138 (lv_at hl 2 rfl) ?_
  refine lv_iconst (v := 0) hx hb dX12_take_140 (by decide) ?_
  replace q := c2_s q
  obtain ⟨u_4, g_3, qc, q⟩ := q
  refine x_callS hx hb hml hl.1 hown hX M (S1 := S) (As := [.ref a_1, .int (0 : Int32), .ref a_2, .int x4, .int (0 : Int32)]) (rest := []) kw_1455 mok_X12_copy (c_X12_copy ra_1 ra_2 qc (Nat.le_refl 1)) kw_1454 rfl rfl dX12_take_141 (Nat.le_of_ble_eq_true rfl) ⟨Nat.le_trans (by decide) hRf, Nat.le_trans (by decide) hRl⟩ (Nat.zero_le _) (Nat.zero_le _) (fun H locs M hEF => ?_)
  refine lv_aload_n hx hb dX12_take_144 rfl (lv_at hl 0 rfl) ?_
  replace q := nn_s q
  obtain ⟨a_5, e_a_5, q⟩ := q
  refine x_getR hx hb hown hX M e_a_5 okX12 ra0 (by decide) rfl kw_1026 dX12_take_145 (fun ra_5 => ?_)
  refine lv_iload_n hx hb dX12_take_148 rfl (lv_at hl 1 rfl) ?_
  refine lv_iconst (v := 1) hx hb dX12_take_149 (by decide) ?_
  replace q := ck_s q
  obtain ⟨hin, q⟩ := q
  refine x_zast hx hb hX M ra_5 rfl (inb_in hin) dX12_take_150 (fun H locs M => ?_)
  replace q := gen_g M q
  obtain ⟨g_6, -, M, q⟩ := q
  refine lv_iconst (v := 1) hx hb dX12_take_151 (by decide) ?_
  cases q
  exact x_iret hx hb hr hlk M Ext.rf dX12_take_152
set_option maxHeartbeats 4000000 in
set_option maxRecDepth 100000 in
theorem w_X12_take_0 (hx : p.tables.exec = Jvm.exec) (hb : c.code = cX12_take) (hml : c.maxLocals = 5) (hr : meth.sig.returnType = (some .int)) (hlk : meth.locks = false) (hown : s.vm.findClass RX12 = some m.cls) (hX : Kx D cA lo tS s) (hRf : 307 ≤ R.frames) (hRl : 18420 ≤ R.locals) {N : Nat} {rv : Int32} {g1 : Hg} {S : Hs} : ∀ (H : Heap) (locs : List Loc) (ls : Array Slot) (g : Hg) (a0 : Nat) (x1 : Int32) (x2 : Int32) (x3 : Int32), Mm D cA lo S g s H locs → Rf lo S a0 12 → lv_has ls 5 [(0, .ref a0), (1, .int x1), (2, .int x2), (3, .int x3)] → b_X12_take_0 N S g a0 x1 x2 x3 = some (rv, g1) → W p l e R s m args below meth c H locs 0 0 (MQ below (Qcx D cA lo S (some (.int rv)) S g1 True) args s 0 0 (fun q : Nat => lo ≤ q)) (F0 m 0 ls []) := by
  intro H locs ls g a0 x1 x2 x3 M ra0 hl q
  unfold b_X12_take_0 at q
  refine lv_aload_n hx hb dX12_take_0 rfl (lv_at hl 0 rfl) ?_
  refine lv_iload_n hx hb dX12_take_1 rfl (lv_at hl 1 rfl) ?_
  replace q := c2_s q
  obtain ⟨x_2, g_1, qc, q⟩ := q
  refine x_callV hx hb hml hl.1 hown hX M (S1 := S) (As := [.int x1]) (rest := []) okX12 ra0 rfl kw_1421 kw_43 mok_X12_isReader (c_X12_isReader ra0 qc (Nat.le_refl 1)) kw_1419 rfl rfl dX12_take_2 (Nat.le_of_ble_eq_true rfl) ⟨Nat.le_trans (by decide) hRf, Nat.le_trans (by decide) hRl⟩ (Nat.zero_le _) (Nat.zero_le _) (fun H locs M hEF => ?_)
  refine lv_if_eq (tgt := 17) hx hb dX12_take_5 (by decide) (fun c_3 => ?_) (fun c_3 => ?_)
  · replace q := if_t c_3 q
    refine lv_iconst (v := -1) hx hb dX12_take_17 (by decide) ?_
    cases q
    exact x_iret hx hb hr hlk M Ext.rf dX12_take_18
  · replace q := if_f c_3 q
    refine lv_aload_n hx hb dX12_take_8 rfl (lv_at hl 0 rfl) ?_
    refine lv_iload_n hx hb dX12_take_9 rfl (lv_at hl 2 rfl) ?_
    refine lv_iload_n hx hb dX12_take_10 rfl (lv_at hl 3 rfl) ?_
    replace q := c2_s q
    obtain ⟨x_5, g_4, qc, q⟩ := q
    refine x_callV hx hb hml hl.1 hown hX M (S1 := S) (As := [.int x2, .int x3]) (rest := []) okX12 ra0 rfl kw_1233 kw_16 mok_X12_isCount (c_X12_isCount ra0 qc (Nat.le_refl 2)) kw_1231 rfl rfl dX12_take_11 (Nat.le_of_ble_eq_true rfl) ⟨Nat.le_trans (by decide) hRf, Nat.le_trans (by decide) hRl⟩ (Nat.zero_le _) (Nat.zero_le _) (fun H locs M hEF => ?_)
    refine lv_if_ne (tgt := 19) hx hb dX12_take_14 (by decide) (fun c_6 => ?_) (fun c_6 => ?_)
    · replace q := if_f c_6 q
      refine lv_aload_n hx hb dX12_take_19 rfl (lv_at hl 0 rfl) ?_
      refine lv_iload_n hx hb dX12_take_20 rfl (lv_at hl 2 rfl) ?_
      refine lv_iload_n hx hb dX12_take_21 rfl (lv_at hl 3 rfl) ?_
      refine lv_aload_n hx hb dX12_take_22 rfl (lv_at hl 0 rfl) ?_
      replace q := nn_s q
      obtain ⟨a_7, e_a_7, q⟩ := q
      refine x_getR hx hb hown hX M e_a_7 okX12 ra0 (by decide) rfl kw_1071 dX12_take_23 (fun ra_7 => ?_)
      refine lv_iconst (v := 0) hx hb dX12_take_26 (by decide) ?_
      replace q := c2_s q
      obtain ⟨u_9, g_8, qc, q⟩ := q
      refine x_callV hx hb hml hl.1 hown hX M (S1 := S) (As := [.int x2, .int x3, .ref a_7, .int (0 : Int32)]) (rest := []) okX12 ra0 rfl kw_1302 kw_26 mok_X12_head (c_X12_head ra0 ra_7 qc (Nat.le_refl 306)) kw_1300 rfl rfl dX12_take_27 (Nat.le_of_ble_eq_true rfl) ⟨Nat.le_trans (by decide) hRf, Nat.le_trans (by decide) hRl⟩ (Nat.zero_le _) (Nat.zero_le _) (fun H locs M hEF => ?_)
      refine lv_bipush (v := 28) hx hb dX12_take_30 (by decide) ?_
      refine lv_iload_n hx hb dX12_take_32 rfl (lv_at hl 1 rfl) ?_
      refine lv_imul hx hb dX12_take_33 ?_
      refine lv_topi (fun x_10 e_x_10 => ?_)
      replace q := nm_s q e_x_10
      refine lv_istore (lv' := [(4, .int x_10), (0, .ref a0), (1, .int x1), (2, .int x2), (3, .int x3)]) hx hb dX12_take_34 hl (by decide) rfl (fun ls hl => ?_)
      refine lv_aload_n hx hb dX12_take_36 rfl (lv_at hl 1 rfl) ?_
      replace q := nn_s q
      obtain ⟨a_11, e_a_11, q⟩ := q
      refine x_getR hx hb hown hX M e_a_11 okX12 ra0 (by decide) rfl kw_1026 dX12_take_37 (fun ra_11 => ?_)
      refine lv_iload_n hx hb dX12_take_40 rfl (lv_at hl 2 rfl) ?_
      replace q := ck_s q
      obtain ⟨hin, q⟩ := q
      refine x_zald hx hb hX M ra_11 (inb_in hin) dX12_take_41 ?_
      refine lv_if_eq (tgt := 129) hx hb dX12_take_42 (by decide) (fun c_12 => ?_) (fun c_12 => ?_)
      · replace q := if_t c_12 q
        exact w_X12_take_129 hx hb hml hr hlk hown hX hRf hRl (N := N)  _ _ _ _ _ _ _ M ra0 (lv_sub hl [1, 2, 0] rfl) q
      · replace q := if_f c_12 q
        refine lv_aload_n hx hb dX12_take_45 rfl (lv_at hl 1 rfl) ?_
        replace q := nn_s q
        obtain ⟨a_13, e_a_13, q⟩ := q
        refine x_getR hx hb hown hX M e_a_13 okX12 ra0 (by decide) rfl kw_1025 dX12_take_46 (fun ra_13 => ?_)
        refine lv_iload hx hb dX12_take_49 (lv_at hl 0 rfl) ?_
        refine lv_iconst (v := 2) hx hb dX12_take_51 (by decide) ?_
        refine lv_iadd hx hb dX12_take_52 ?_
        replace q := ck_s q
        obtain ⟨hin, q⟩ := q
        refine x_iald hx hb hX M ra_13 (inb_in hin) dX12_take_53 ?_
        refine lv_aload_n hx hb dX12_take_54 rfl (lv_at hl 1 rfl) ?_
        replace q := nn_s q
        obtain ⟨a_14, e_a_14, q⟩ := q
        refine x_getR hx hb hown hX M e_a_14 okX12 ra0 (by decide) rfl kw_1071 dX12_take_55 (fun ra_14 => ?_)
        refine lv_iconst (v := 2) hx hb dX12_take_58 (by decide) ?_
        replace q := ck_s q
        obtain ⟨hin, q⟩ := q
        refine x_iald hx hb hX M ra_14 (inb_in hin) dX12_take_59 ?_
        refine lv_icmp_ne (tgt := 129) hx hb dX12_take_60 (by decide) (fun c_15 => ?_) (fun c_15 => ?_)
        · replace q := if_f c_15 q
          exact w_X12_take_129 hx hb hml hr hlk hown hX hRf hRl (N := N)  _ _ _ _ _ _ _ M ra0 (lv_sub hl [1, 2, 0] rfl) q
        · replace q := if_t c_15 q
          refine lv_aload_n hx hb dX12_take_63 rfl (lv_at hl 1 rfl) ?_
          refine lv_aload_n hx hb dX12_take_64 rfl (lv_at hl 1 rfl) ?_
          replace q := nn_s q
          obtain ⟨a_16, e_a_16, q⟩ := q
          refine x_getR hx hb hown hX M e_a_16 okX12 ra0 (by decide) rfl kw_1025 dX12_take_65 (fun ra_16 => ?_)
          refine lv_iload hx hb dX12_take_68 (lv_at hl 0 rfl) ?_
          refine lv_aload_n hx hb dX12_take_70 rfl (lv_at hl 1 rfl) ?_
          replace q := nn_s q
          obtain ⟨a_17, e_a_17, q⟩ := q
          refine x_getR hx hb hown hX M e_a_17 okX12 ra0 (by decide) rfl kw_1071 dX12_take_71 (fun ra_17 => ?_)
          refine lv_iconst (v := 0) hx hb dX12_take_74 (by decide) ?_
          replace q := c2_s q
          obtain ⟨x_19, g_18, qc, q⟩ := q
          refine x_callV hx hb hml hl.1 hown hX M (S1 := S) (As := [.ref a_16, .int x_10, .ref a_17, .int (0 : Int32)]) (rest := []) okX12 ra0 rfl kw_1448 kw_48 mok_X12_agree (c_X12_agree ra0 ra_16 ra_17 qc (Nat.le_refl 306)) kw_1446 rfl rfl dX12_take_75 (Nat.le_of_ble_eq_true rfl) ⟨Nat.le_trans (by decide) hRf, Nat.le_trans (by decide) hRl⟩ (Nat.zero_le _) (Nat.zero_le _) (fun H locs M hEF => ?_)
          refine lv_if_ne (tgt := 111) hx hb dX12_take_78 (by decide) (fun c_20 => ?_) (fun c_20 => ?_)
          · replace q := if_f c_20 q
            refine lv_aload_n hx hb dX12_take_111 rfl (lv_at hl 1 rfl) ?_
            replace q := nn_s q
            obtain ⟨a_21, e_a_21, q⟩ := q
            refine x_getR hx hb hown hX M e_a_21 okX12 ra0 (by decide) rfl kw_1071 dX12_take_112 (fun ra_21 => ?_)
            refine lv_iconst (v := 0) hx hb dX12_take_115 (by decide) ?_
            replace q := ck_s q
            obtain ⟨hin, q⟩ := q
            refine x_iald hx hb hX M ra_21 (inb_in hin) dX12_take_116 ?_
            refine lv_aload_n hx hb dX12_take_117 rfl (lv_at hl 1 rfl) ?_
            replace q := nn_s q
            obtain ⟨a_22, e_a_22, q⟩ := q
            refine x_getR hx hb hown hX M e_a_22 okX12 ra0 (by decide) rfl kw_1025 dX12_take_118 (fun ra_22 => ?_)
            refine lv_iload hx hb dX12_take_121 (lv_at hl 0 rfl) ?_
            replace q := ck_s q
            obtain ⟨hin, q⟩ := q
            refine x_iald hx hb hX M ra_22 (inb_in hin) dX12_take_123 ?_
            refine lv_icmp_gt (tgt := 129) hx hb dX12_take_124 (by decide) (fun c_23 => ?_) (fun c_23 => ?_)
            · replace q := if_t c_23 q
              exact w_X12_take_129 hx hb hml hr hlk hown hX hRf hRl (N := N)  _ _ _ _ _ _ _ M ra0 (lv_sub hl [1, 2, 0] rfl) q
            · replace q := if_f c_23 q
              refine lv_iconst (v := 1) hx hb dX12_take_127 (by decide) ?_
              cases q
              exact x_iret hx hb hr hlk M Ext.rf dX12_take_128
          · replace q := if_t c_20 q
            refine lv_aload_n hx hb dX12_take_81 rfl (lv_at hl 1 rfl) ?_
            refine lv_aload_n hx hb dX12_take_82 rfl (lv_at hl 1 rfl) ?_
            replace q := nn_s q
            obtain ⟨a_24, e_a_24, q⟩ := q
            refine x_getR hx hb hown hX M e_a_24 okX12 ra0 (by decide) rfl kw_1025 dX12_take_83 (fun ra_24 => ?_)
            refine lv_iload hx hb dX12_take_86 (lv_at hl 0 rfl) ?_
            refine lv_aload_n hx hb dX12_take_88 rfl (lv_at hl 1 rfl) ?_
            replace q := nn_s q
            obtain ⟨a_25, e_a_25, q⟩ := q
            refine x_getR hx hb hown hX M e_a_25 okX12 ra0 (by decide) rfl kw_1071 dX12_take_89 (fun ra_25 => ?_)
            refine lv_iconst (v := 0) hx hb dX12_take_92 (by decide) ?_
            replace q := c2_s q
            obtain ⟨u_27, g_26, qc, q⟩ := q
            refine x_callV hx hb hml hl.1 hown hX M (S1 := S) (As := [.ref a_24, .int x_10, .ref a_25, .int (0 : Int32)]) (rest := []) okX12 ra0 rfl kw_1452 kw_49 mok_X12_blame (c_X12_blame ra0 ra_24 ra_25 qc (Nat.le_refl 2)) kw_1450 rfl rfl dX12_take_93 (Nat.le_of_ble_eq_true rfl) ⟨Nat.le_trans (by decide) hRf, Nat.le_trans (by decide) hRl⟩ (Nat.zero_le _) (Nat.zero_le _) (fun H locs M hEF => ?_)
            refine lv_aload_n hx hb dX12_take_96 rfl (lv_at hl 1 rfl) ?_
            replace q := nn_s q
            obtain ⟨a_28, e_a_28, q⟩ := q
            refine x_getR hx hb hown hX M e_a_28 okX12 ra0 (by decide) rfl kw_1025 dX12_take_97 (fun ra_28 => ?_)
            refine lv_iload hx hb dX12_take_100 (lv_at hl 0 rfl) ?_
            refine lv_iconst (v := 3) hx hb dX12_take_102 (by decide) ?_
            refine lv_iadd hx hb dX12_take_103 ?_
            refine lv_dup2_11 hx hb dX12_take_104 rfl rfl ?_
            replace q := ck_s q
            obtain ⟨hin, q⟩ := q
            refine x_iald hx hb hX M ra_28 (inb_in hin) dX12_take_105 ?_
            refine lv_iconst (v := 1) hx hb dX12_take_106 (by decide) ?_
            refine lv_iadd hx hb dX12_take_107 ?_
            replace q := ck_s q
            obtain ⟨hin, q⟩ := q
            refine x_iast hx hb hX M ra_28 (inb_in hin) dX12_take_108 (fun H locs M => ?_)
            replace q := gen_g M q
            obtain ⟨g_29, -, M, q⟩ := q
            refine lv_iconst (v := 0) hx hb dX12_take_109 (by decide) ?_
            cases q
            exact x_iret hx hb hr hlk M Ext.rf dX12_take_110
    · replace q := if_t c_6 q
      refine lv_iconst (v := -1) hx hb dX12_take_17 (by decide) ?_
      cases q
      exact x_iret hx hb hr hlk M Ext.rf dX12_take_18
set_option maxRecDepth 100000 in
theorem c_X12_take {l : Launch} {D : va_G} {cA : Nat → ClassId} {lo tS N : Nat} {S : Hs} {g g1 : Hg} {rv : Int32} {a0 : Nat} {x1 : Int32} {x2 : Int32} {x3 : Int32} (ra0 : Rf lo S a0 12) (q : f_X12_take N S g a0 x1 x2 x3 = some (rv, g1)) {d : Nat} (hd : 307 ≤ d) : Ctr l yX12_take cX12_take 5 (some .int) D cA lo tS [.ref a0, .int x1, .int x2, .int x3] S g d (some (.int rv)) S g1 True 0 0 := by
  refine x_met (by decide) (Nat.le_of_ble_eq_true rfl) ?_
  intro p e s m below meth c ls hx hb hml hr hlk hown hnm hX M hl
  exact w_X12_take_0 hx hb hml hr hlk hown hX hd (Nat.mul_le_mul_left 60 hd) (N := N) _ _ _ _ _ _ _ _ M ra0 (lv_sub hl [0, 1, 2, 3] rfl) q
def b_X12_talk_0 (N : Nat) (S : Hs) (g : Hg) (a0 : Nat) (x1 : Int32) (x2 : Int32) : Option (Int32 × Hg) :=
c2 (f_X12_isReader N S g a0 x1) (fun x_2 g_1 =>
if x_2 = 0 then (
some ((-1 : Int32), g_1)) else (
c2 (f_X12_isReader N S g_1 a0 x2) (fun x_5 g_4 =>
if x_5 = 0 then (
some ((-1 : Int32), g_4)) else (
if x1 = x2 then (
some ((-1 : Int32), g_4)) else (
nn (rdR g_4 a0 14) (fun a_8 =>
ck (inb x1 (hpL S a_8)) (
if (rdI g_4 a_8 x1.toNatClampNeg) = 0 then (
some ((-1 : Int32), g_4)) else (
nn (rdR g_4 a0 14) (fun a_10 =>
ck (inb x2 (hpL S a_10)) (
if (rdI g_4 a_10 x2.toNatClampNeg) = 0 then (
some ((-1 : Int32), g_4)) else (
nm ((28 : Int32) * x1) (fun x_12 =>
nm ((28 : Int32) * x2) (fun x_13 =>
nn (rdR g_4 a0 13) (fun a_14 =>
ck (inb (x_12 + (2 : Int32)) (hpL S a_14)) (
nn (rdR g_4 a0 13) (fun a_15 =>
ck (inb (x_13 + (2 : Int32)) (hpL S a_15)) (
if (rdI g_4 a_14 (x_12 + (2 : Int32)).toNatClampNeg) = (rdI g_4 a_15 (x_13 + (2 : Int32)).toNatClampNeg) then (
nn (rdR g_4 a0 13) (fun a_17 =>
nn (rdR g_4 a0 13) (fun a_18 =>
c2 (f_X12_agree N S g_4 a0 a_17 x_12 a_18 x_13) (fun x_20 g_19 =>
if x_20 = 0 then (
nn (rdR g_19 a0 13) (fun a_36 =>
nn (rdR g_19 a0 13) (fun a_37 =>
c2 (f_X12_blame N S g_19 a0 a_36 x_12 a_37 x_13) (fun u_39 g_38 =>
nn (rdR g_38 a0 13) (fun a_40 =>
ck (inb (x_12 + (3 : Int32)) (hpL S a_40)) (
ck (inb (x_12 + (3 : Int32)) (hpL S a_40)) (
nm (wrI g_38 a_40 (x_12 + (3 : Int32)).toNatClampNeg ((rdI g_38 a_40 (x_12 + (3 : Int32)).toNatClampNeg) + (1 : Int32))) (fun g_41 =>
nn (rdR g_41 a0 13) (fun a_42 =>
ck (inb (x_13 + (3 : Int32)) (hpL S a_42)) (
ck (inb (x_13 + (3 : Int32)) (hpL S a_42)) (
nm (wrI g_41 a_42 (x_13 + (3 : Int32)).toNatClampNeg ((rdI g_41 a_42 (x_13 + (3 : Int32)).toNatClampNeg) + (1 : Int32))) (fun g_43 =>
some ((0 : Int32), g_43))))))))))))) else (
nn (rdR g_19 a0 13) (fun a_22 =>
ck (inb x_12 (hpL S a_22)) (
nn (rdR g_19 a0 13) (fun a_23 =>
ck (inb x_13 (hpL S a_23)) (
if (rdI g_19 a_23 x_13.toNatClampNeg) ≤ (rdI g_19 a_22 x_12.toNatClampNeg) then (
nn (rdR g_19 a0 13) (fun a_25 =>
ck (inb x_13 (hpL S a_25)) (
nn (rdR g_19 a0 13) (fun a_26 =>
ck (inb x_12 (hpL S a_26)) (
if (rdI g_19 a_26 x_12.toNatClampNeg) ≤ (rdI g_19 a_25 x_13.toNatClampNeg) then (
some ((1 : Int32), g_19)) else (
nn (rdR g_19 a0 13) (fun a_28 =>
nn (rdR g_19 a0 13) (fun a_29 =>
c2 (f_X12_copy N S g_19 a_28 x_12 a_29 x_13 (0 : Int32)) (fun u_31 g_30 =>
some ((1 : Int32), g_30)))))))))) else (
nn (rdR g_19 a0 13) (fun a_32 =>
nn (rdR g_19 a0 13) (fun a_33 =>
c2 (f_X12_copy N S g_19 a_32 x_13 a_33 x_12 (0 : Int32)) (fun u_35 g_34 =>
some ((1 : Int32), g_34)))))))))))))) else (
some ((-1 : Int32), g_4)))))))))))))))))))
def f_X12_talk (N : Nat) (S : Hs) (g : Hg) (a0 : Nat) (x1 : Int32) (x2 : Int32) : Option (Int32 × Hg) := b_X12_talk_0 N S g a0 x1 x2
set_option maxHeartbeats 4000000 in
set_option maxRecDepth 100000 in
theorem w_X12_talk_0 (hx : p.tables.exec = Jvm.exec) (hb : c.code = cX12_talk) (hml : c.maxLocals = 5) (hr : meth.sig.returnType = (some .int)) (hlk : meth.locks = false) (hown : s.vm.findClass RX12 = some m.cls) (hX : Kx D cA lo tS s) (hRf : 307 ≤ R.frames) (hRl : 18420 ≤ R.locals) {N : Nat} {rv : Int32} {g1 : Hg} {S : Hs} : ∀ (H : Heap) (locs : List Loc) (ls : Array Slot) (g : Hg) (a0 : Nat) (x1 : Int32) (x2 : Int32), Mm D cA lo S g s H locs → Rf lo S a0 12 → lv_has ls 5 [(0, .ref a0), (1, .int x1), (2, .int x2)] → b_X12_talk_0 N S g a0 x1 x2 = some (rv, g1) → W p l e R s m args below meth c H locs 0 0 (MQ below (Qcx D cA lo S (some (.int rv)) S g1 True) args s 0 0 (fun q : Nat => lo ≤ q)) (F0 m 0 ls []) := by
  intro H locs ls g a0 x1 x2 M ra0 hl q
  unfold b_X12_talk_0 at q
  refine lv_aload_n hx hb dX12_talk_0 rfl (lv_at hl 0 rfl) ?_
  refine lv_iload_n hx hb dX12_talk_1 rfl (lv_at hl 1 rfl) ?_
  replace q := c2_s q
  obtain ⟨x_2, g_1, qc, q⟩ := q
  refine x_callV hx hb hml hl.1 hown hX M (S1 := S) (As := [.int x1]) (rest := []) okX12 ra0 rfl kw_1421 kw_43 mok_X12_isReader (c_X12_isReader ra0 qc (Nat.le_refl 1)) kw_1419 rfl rfl dX12_talk_2 (Nat.le_of_ble_eq_true rfl) ⟨Nat.le_trans (by decide) hRf, Nat.le_trans (by decide) hRl⟩ (Nat.zero_le _) (Nat.zero_le _) (fun H locs M hEF => ?_)
  refine lv_if_eq (tgt := 39) hx hb dX12_talk_5 (by decide) (fun c_3 => ?_) (fun c_3 => ?_)
  · replace q := if_t c_3 q
    refine lv_iconst (v := -1) hx hb dX12_talk_39 (by decide) ?_
    cases q
    exact x_iret hx hb hr hlk M Ext.rf dX12_talk_40
  · replace q := if_f c_3 q
    refine lv_aload_n hx hb dX12_talk_8 rfl (lv_at hl 0 rfl) ?_
    refine lv_iload_n hx hb dX12_talk_9 rfl (lv_at hl 2 rfl) ?_
    replace q := c2_s q
    obtain ⟨x_5, g_4, qc, q⟩ := q
    refine x_callV hx hb hml hl.1 hown hX M (S1 := S) (As := [.int x2]) (rest := []) okX12 ra0 rfl kw_1421 kw_43 mok_X12_isReader (c_X12_isReader ra0 qc (Nat.le_refl 1)) kw_1419 rfl rfl dX12_talk_10 (Nat.le_of_ble_eq_true rfl) ⟨Nat.le_trans (by decide) hRf, Nat.le_trans (by decide) hRl⟩ (Nat.zero_le _) (Nat.zero_le _) (fun H locs M hEF => ?_)
    refine lv_if_eq (tgt := 39) hx hb dX12_talk_13 (by decide) (fun c_6 => ?_) (fun c_6 => ?_)
    · replace q := if_t c_6 q
      refine lv_iconst (v := -1) hx hb dX12_talk_39 (by decide) ?_
      cases q
      exact x_iret hx hb hr hlk M Ext.rf dX12_talk_40
    · replace q := if_f c_6 q
      refine lv_iload_n hx hb dX12_talk_16 rfl (lv_at hl 1 rfl) ?_
      refine lv_iload_n hx hb dX12_talk_17 rfl (lv_at hl 2 rfl) ?_
      refine lv_icmp_eq (tgt := 39) hx hb dX12_talk_18 (by decide) (fun c_7 => ?_) (fun c_7 => ?_)
      · replace q := if_t c_7 q
        refine lv_iconst (v := -1) hx hb dX12_talk_39 (by decide) ?_
        cases q
        exact x_iret hx hb hr hlk M Ext.rf dX12_talk_40
      · replace q := if_f c_7 q
        refine lv_aload_n hx hb dX12_talk_21 rfl (lv_at hl 0 rfl) ?_
        replace q := nn_s q
        obtain ⟨a_8, e_a_8, q⟩ := q
        refine x_getR hx hb hown hX M e_a_8 okX12 ra0 (by decide) rfl kw_1026 dX12_talk_22 (fun ra_8 => ?_)
        refine lv_iload_n hx hb dX12_talk_25 rfl (lv_at hl 1 rfl) ?_
        replace q := ck_s q
        obtain ⟨hin, q⟩ := q
        refine x_zald hx hb hX M ra_8 (inb_in hin) dX12_talk_26 ?_
        refine lv_if_eq (tgt := 39) hx hb dX12_talk_27 (by decide) (fun c_9 => ?_) (fun c_9 => ?_)
        · replace q := if_t c_9 q
          refine lv_iconst (v := -1) hx hb dX12_talk_39 (by decide) ?_
          cases q
          exact x_iret hx hb hr hlk M Ext.rf dX12_talk_40
        · replace q := if_f c_9 q
          refine lv_aload_n hx hb dX12_talk_30 rfl (lv_at hl 0 rfl) ?_
          replace q := nn_s q
          obtain ⟨a_10, e_a_10, q⟩ := q
          refine x_getR hx hb hown hX M e_a_10 okX12 ra0 (by decide) rfl kw_1026 dX12_talk_31 (fun ra_10 => ?_)
          refine lv_iload_n hx hb dX12_talk_34 rfl (lv_at hl 2 rfl) ?_
          replace q := ck_s q
          obtain ⟨hin, q⟩ := q
          refine x_zald hx hb hX M ra_10 (inb_in hin) dX12_talk_35 ?_
          refine lv_if_ne (tgt := 41) hx hb dX12_talk_36 (by decide) (fun c_11 => ?_) (fun c_11 => ?_)
          · replace q := if_f c_11 q
            refine lv_bipush (v := 28) hx hb dX12_talk_41 (by decide) ?_
            refine lv_iload_n hx hb dX12_talk_43 rfl (lv_at hl 1 rfl) ?_
            refine lv_imul hx hb dX12_talk_44 ?_
            refine lv_topi (fun x_12 e_x_12 => ?_)
            replace q := nm_s q e_x_12
            refine lv_istore_n (lv' := [(3, .int x_12), (0, .ref a0), (1, .int x1), (2, .int x2)]) hx hb dX12_talk_45 rfl hl (by decide) rfl (fun ls hl => ?_)
            refine lv_bipush (v := 28) hx hb dX12_talk_46 (by decide) ?_
            refine lv_iload_n hx hb dX12_talk_48 rfl (lv_at hl 3 rfl) ?_
            refine lv_imul hx hb dX12_talk_49 ?_
            refine lv_topi (fun x_13 e_x_13 => ?_)
            replace q := nm_s q e_x_13
            refine lv_istore (lv' := [(4, .int x_13), (3, .int x_12), (0, .ref a0), (1, .int x1), (2, .int x2)]) hx hb dX12_talk_50 hl (by decide) rfl (fun ls hl => ?_)
            refine lv_aload_n hx hb dX12_talk_52 rfl (lv_at hl 2 rfl) ?_
            replace q := nn_s q
            obtain ⟨a_14, e_a_14, q⟩ := q
            refine x_getR hx hb hown hX M e_a_14 okX12 ra0 (by decide) rfl kw_1025 dX12_talk_53 (fun ra_14 => ?_)
            refine lv_iload_n hx hb dX12_talk_56 rfl (lv_at hl 1 rfl) ?_
            refine lv_iconst (v := 2) hx hb dX12_talk_57 (by decide) ?_
            refine lv_iadd hx hb dX12_talk_58 ?_
            replace q := ck_s q
            obtain ⟨hin, q⟩ := q
            refine x_iald hx hb hX M ra_14 (inb_in hin) dX12_talk_59 ?_
            refine lv_aload_n hx hb dX12_talk_60 rfl (lv_at hl 2 rfl) ?_
            replace q := nn_s q
            obtain ⟨a_15, e_a_15, q⟩ := q
            refine x_getR hx hb hown hX M e_a_15 okX12 ra0 (by decide) rfl kw_1025 dX12_talk_61 (fun ra_15 => ?_)
            refine lv_iload hx hb dX12_talk_64 (lv_at hl 0 rfl) ?_
            refine lv_iconst (v := 2) hx hb dX12_talk_66 (by decide) ?_
            refine lv_iadd hx hb dX12_talk_67 ?_
            replace q := ck_s q
            obtain ⟨hin, q⟩ := q
            refine x_iald hx hb hX M ra_15 (inb_in hin) dX12_talk_68 ?_
            refine lv_icmp_eq (tgt := 74) hx hb dX12_talk_69 (by decide) (fun c_16 => ?_) (fun c_16 => ?_)
            · replace q := if_t c_16 q
              refine lv_aload_n hx hb dX12_talk_74 rfl (lv_at hl 2 rfl) ?_
              refine lv_aload_n hx hb dX12_talk_75 rfl (lv_at hl 2 rfl) ?_
              replace q := nn_s q
              obtain ⟨a_17, e_a_17, q⟩ := q
              refine x_getR hx hb hown hX M e_a_17 okX12 ra0 (by decide) rfl kw_1025 dX12_talk_76 (fun ra_17 => ?_)
              refine lv_iload_n hx hb dX12_talk_79 rfl (lv_at hl 1 rfl) ?_
              refine lv_aload_n hx hb dX12_talk_80 rfl (lv_at hl 2 rfl) ?_
              replace q := nn_s q
              obtain ⟨a_18, e_a_18, q⟩ := q
              refine x_getR hx hb hown hX M e_a_18 okX12 ra0 (by decide) rfl kw_1025 dX12_talk_81 (fun ra_18 => ?_)
              refine lv_iload hx hb dX12_talk_84 (lv_at hl 0 rfl) ?_
              replace q := c2_s q
              obtain ⟨x_20, g_19, qc, q⟩ := q
              refine x_callV hx hb hml hl.1 hown hX M (S1 := S) (As := [.ref a_17, .int x_12, .ref a_18, .int x_13]) (rest := []) okX12 ra0 rfl kw_1448 kw_48 mok_X12_agree (c_X12_agree ra0 ra_17 ra_18 qc (Nat.le_refl 306)) kw_1446 rfl rfl dX12_talk_86 (Nat.le_of_ble_eq_true rfl) ⟨Nat.le_trans (by decide) hRf, Nat.le_trans (by decide) hRl⟩ (Nat.zero_le _) (Nat.zero_le _) (fun H locs M hEF => ?_)
              refine lv_if_ne (tgt := 134) hx hb dX12_talk_89 (by decide) (fun c_21 => ?_) (fun c_21 => ?_)
              · replace q := if_f c_21 q
                refine lv_aload_n hx hb dX12_talk_134 rfl (lv_at hl 2 rfl) ?_
                replace q := nn_s q
                obtain ⟨a_22, e_a_22, q⟩ := q
                refine x_getR hx hb hown hX M e_a_22 okX12 ra0 (by decide) rfl kw_1025 dX12_talk_135 (fun ra_22 => ?_)
                refine lv_iload_n hx hb dX12_talk_138 rfl (lv_at hl 1 rfl) ?_
                replace q := ck_s q
                obtain ⟨hin, q⟩ := q
                refine x_iald hx hb hX M ra_22 (inb_in hin) dX12_talk_139 ?_
                refine lv_aload_n hx hb dX12_talk_140 rfl (lv_at hl 2 rfl) ?_
                replace q := nn_s q
                obtain ⟨a_23, e_a_23, q⟩ := q
                refine x_getR hx hb hown hX M e_a_23 okX12 ra0 (by decide) rfl kw_1025 dX12_talk_141 (fun ra_23 => ?_)
                refine lv_iload hx hb dX12_talk_144 (lv_at hl 0 rfl) ?_
                replace q := ck_s q
                obtain ⟨hin, q⟩ := q
                refine x_iald hx hb hX M ra_23 (inb_in hin) dX12_talk_146 ?_
                refine lv_icmp_ge (tgt := 168) hx hb dX12_talk_147 (by decide) (fun c_24 => ?_) (fun c_24 => ?_)
                · replace q := if_t c_24 q
                  refine lv_aload_n hx hb dX12_talk_168 rfl (lv_at hl 2 rfl) ?_
                  replace q := nn_s q
                  obtain ⟨a_25, e_a_25, q⟩ := q
                  refine x_getR hx hb hown hX M e_a_25 okX12 ra0 (by decide) rfl kw_1025 dX12_talk_169 (fun ra_25 => ?_)
                  refine lv_iload hx hb dX12_talk_172 (lv_at hl 0 rfl) ?_
                  replace q := ck_s q
                  obtain ⟨hin, q⟩ := q
                  refine x_iald hx hb hX M ra_25 (inb_in hin) dX12_talk_174 ?_
                  refine lv_aload_n hx hb dX12_talk_175 rfl (lv_at hl 2 rfl) ?_
                  replace q := nn_s q
                  obtain ⟨a_26, e_a_26, q⟩ := q
                  refine x_getR hx hb hown hX M e_a_26 okX12 ra0 (by decide) rfl kw_1025 dX12_talk_176 (fun ra_26 => ?_)
                  refine lv_iload_n hx hb dX12_talk_179 rfl (lv_at hl 1 rfl) ?_
                  replace q := ck_s q
                  obtain ⟨hin, q⟩ := q
                  refine x_iald hx hb hX M ra_26 (inb_in hin) dX12_talk_180 ?_
                  refine lv_icmp_ge (tgt := 199) hx hb dX12_talk_181 (by decide) (fun c_27 => ?_) (fun c_27 => ?_)
                  · replace q := if_t c_27 q
                    refine lv_iconst (v := 1) hx hb dX12_talk_199 (by decide) ?_
                    cases q
                    exact x_iret hx hb hr hlk M Ext.rf dX12_talk_200
                  · replace q := if_f c_27 q
                    refine lv_aload_n hx hb dX12_talk_184 rfl (lv_at hl 2 rfl) ?_
                    replace q := nn_s q
                    obtain ⟨a_28, e_a_28, q⟩ := q
                    refine x_getR hx hb hown hX M e_a_28 okX12 ra0 (by decide) rfl kw_1025 dX12_talk_185 (fun ra_28 => ?_)
                    refine lv_iload_n hx hb dX12_talk_188 rfl (lv_at hl 1 rfl) ?_
                    refine lv_aload_n hx hb dX12_talk_189 rfl (lv_at hl 2 rfl) ?_
                    replace q := nn_s q
                    obtain ⟨a_29, e_a_29, q⟩ := q
                    refine x_getR hx hb hown hX M e_a_29 okX12 ra0 (by decide) rfl kw_1025 dX12_talk_190 (fun ra_29 => ?_)
                    refine lv_iload hx hb dX12_talk_193 (lv_at hl 0 rfl) ?_
                    refine lv_iconst (v := 0) hx hb dX12_talk_195 (by decide) ?_
                    replace q := c2_s q
                    obtain ⟨u_31, g_30, qc, q⟩ := q
                    refine x_callS hx hb hml hl.1 hown hX M (S1 := S) (As := [.ref a_28, .int x_12, .ref a_29, .int x_13, .int (0 : Int32)]) (rest := []) kw_1455 mok_X12_copy (c_X12_copy ra_28 ra_29 qc (Nat.le_refl 1)) kw_1454 rfl rfl dX12_talk_196 (Nat.le_of_ble_eq_true rfl) ⟨Nat.le_trans (by decide) hRf, Nat.le_trans (by decide) hRl⟩ (Nat.zero_le _) (Nat.zero_le _) (fun H locs M hEF => ?_)
                    refine lv_iconst (v := 1) hx hb dX12_talk_199 (by decide) ?_
                    cases q
                    exact x_iret hx hb hr hlk M Ext.rf dX12_talk_200
                · replace q := if_f c_24 q
                  refine lv_aload_n hx hb dX12_talk_150 rfl (lv_at hl 2 rfl) ?_
                  replace q := nn_s q
                  obtain ⟨a_32, e_a_32, q⟩ := q
                  refine x_getR hx hb hown hX M e_a_32 okX12 ra0 (by decide) rfl kw_1025 dX12_talk_151 (fun ra_32 => ?_)
                  refine lv_iload hx hb dX12_talk_154 (lv_at hl 0 rfl) ?_
                  refine lv_aload_n hx hb dX12_talk_156 rfl (lv_at hl 2 rfl) ?_
                  replace q := nn_s q
                  obtain ⟨a_33, e_a_33, q⟩ := q
                  refine x_getR hx hb hown hX M e_a_33 okX12 ra0 (by decide) rfl kw_1025 dX12_talk_157 (fun ra_33 => ?_)
                  refine lv_iload_n hx hb dX12_talk_160 rfl (lv_at hl 1 rfl) ?_
                  refine lv_iconst (v := 0) hx hb dX12_talk_161 (by decide) ?_
                  replace q := c2_s q
                  obtain ⟨u_35, g_34, qc, q⟩ := q
                  refine x_callS hx hb hml hl.1 hown hX M (S1 := S) (As := [.ref a_32, .int x_13, .ref a_33, .int x_12, .int (0 : Int32)]) (rest := []) kw_1455 mok_X12_copy (c_X12_copy ra_32 ra_33 qc (Nat.le_refl 1)) kw_1454 rfl rfl dX12_talk_162 (Nat.le_of_ble_eq_true rfl) ⟨Nat.le_trans (by decide) hRf, Nat.le_trans (by decide) hRl⟩ (Nat.zero_le _) (Nat.zero_le _) (fun H locs M hEF => ?_)
                  refine lv_goto (tgt := 199) hx hb dX12_talk_165 (by decide) ?_
                  refine lv_iconst (v := 1) hx hb dX12_talk_199 (by decide) ?_
                  cases q
                  exact x_iret hx hb hr hlk M Ext.rf dX12_talk_200
              · replace q := if_t c_21 q
                refine lv_aload_n hx hb dX12_talk_92 rfl (lv_at hl 2 rfl) ?_
                refine lv_aload_n hx hb dX12_talk_93 rfl (lv_at hl 2 rfl) ?_
                replace q := nn_s q
                obtain ⟨a_36, e_a_36, q⟩ := q
                refine x_getR hx hb hown hX M e_a_36 okX12 ra0 (by decide) rfl kw_1025 dX12_talk_94 (fun ra_36 => ?_)
                refine lv_iload_n hx hb dX12_talk_97 rfl (lv_at hl 1 rfl) ?_
                refine lv_aload_n hx hb dX12_talk_98 rfl (lv_at hl 2 rfl) ?_
                replace q := nn_s q
                obtain ⟨a_37, e_a_37, q⟩ := q
                refine x_getR hx hb hown hX M e_a_37 okX12 ra0 (by decide) rfl kw_1025 dX12_talk_99 (fun ra_37 => ?_)
                refine lv_iload hx hb dX12_talk_102 (lv_at hl 0 rfl) ?_
                replace q := c2_s q
                obtain ⟨u_39, g_38, qc, q⟩ := q
                refine x_callV hx hb hml hl.1 hown hX M (S1 := S) (As := [.ref a_36, .int x_12, .ref a_37, .int x_13]) (rest := []) okX12 ra0 rfl kw_1452 kw_49 mok_X12_blame (c_X12_blame ra0 ra_36 ra_37 qc (Nat.le_refl 2)) kw_1450 rfl rfl dX12_talk_104 (Nat.le_of_ble_eq_true rfl) ⟨Nat.le_trans (by decide) hRf, Nat.le_trans (by decide) hRl⟩ (Nat.zero_le _) (Nat.zero_le _) (fun H locs M hEF => ?_)
                refine lv_aload_n hx hb dX12_talk_107 rfl (lv_at hl 2 rfl) ?_
                replace q := nn_s q
                obtain ⟨a_40, e_a_40, q⟩ := q
                refine x_getR hx hb hown hX M e_a_40 okX12 ra0 (by decide) rfl kw_1025 dX12_talk_108 (fun ra_40 => ?_)
                refine lv_iload_n hx hb dX12_talk_111 rfl (lv_at hl 1 rfl) ?_
                refine lv_iconst (v := 3) hx hb dX12_talk_112 (by decide) ?_
                refine lv_iadd hx hb dX12_talk_113 ?_
                refine lv_dup2_11 hx hb dX12_talk_114 rfl rfl ?_
                replace q := ck_s q
                obtain ⟨hin, q⟩ := q
                refine x_iald hx hb hX M ra_40 (inb_in hin) dX12_talk_115 ?_
                refine lv_iconst (v := 1) hx hb dX12_talk_116 (by decide) ?_
                refine lv_iadd hx hb dX12_talk_117 ?_
                replace q := ck_s q
                obtain ⟨hin, q⟩ := q
                refine x_iast hx hb hX M ra_40 (inb_in hin) dX12_talk_118 (fun H locs M => ?_)
                replace q := gen_g M q
                obtain ⟨g_41, -, M, q⟩ := q
                refine lv_aload_n hx hb dX12_talk_119 rfl (lv_at hl 2 rfl) ?_
                replace q := nn_s q
                obtain ⟨a_42, e_a_42, q⟩ := q
                refine x_getR hx hb hown hX M e_a_42 okX12 ra0 (by decide) rfl kw_1025 dX12_talk_120 (fun ra_42 => ?_)
                refine lv_iload hx hb dX12_talk_123 (lv_at hl 0 rfl) ?_
                refine lv_iconst (v := 3) hx hb dX12_talk_125 (by decide) ?_
                refine lv_iadd hx hb dX12_talk_126 ?_
                refine lv_dup2_11 hx hb dX12_talk_127 rfl rfl ?_
                replace q := ck_s q
                obtain ⟨hin, q⟩ := q
                refine x_iald hx hb hX M ra_42 (inb_in hin) dX12_talk_128 ?_
                refine lv_iconst (v := 1) hx hb dX12_talk_129 (by decide) ?_
                refine lv_iadd hx hb dX12_talk_130 ?_
                replace q := ck_s q
                obtain ⟨hin, q⟩ := q
                refine x_iast hx hb hX M ra_42 (inb_in hin) dX12_talk_131 (fun H locs M => ?_)
                replace q := gen_g M q
                obtain ⟨g_43, -, M, q⟩ := q
                refine lv_iconst (v := 0) hx hb dX12_talk_132 (by decide) ?_
                cases q
                exact x_iret hx hb hr hlk M Ext.rf dX12_talk_133
            · replace q := if_f c_16 q
              refine lv_iconst (v := -1) hx hb dX12_talk_72 (by decide) ?_
              cases q
              exact x_iret hx hb hr hlk M Ext.rf dX12_talk_73
          · replace q := if_t c_11 q
            refine lv_iconst (v := -1) hx hb dX12_talk_39 (by decide) ?_
            cases q
            exact x_iret hx hb hr hlk M Ext.rf dX12_talk_40
set_option maxRecDepth 100000 in
theorem c_X12_talk {l : Launch} {D : va_G} {cA : Nat → ClassId} {lo tS N : Nat} {S : Hs} {g g1 : Hg} {rv : Int32} {a0 : Nat} {x1 : Int32} {x2 : Int32} (ra0 : Rf lo S a0 12) (q : f_X12_talk N S g a0 x1 x2 = some (rv, g1)) {d : Nat} (hd : 307 ≤ d) : Ctr l yX12_talk cX12_talk 5 (some .int) D cA lo tS [.ref a0, .int x1, .int x2] S g d (some (.int rv)) S g1 True 0 0 := by
  refine x_met (by decide) (Nat.le_of_ble_eq_true rfl) ?_
  intro p e s m below meth c ls hx hb hml hr hlk hown hnm hX M hl
  exact w_X12_talk_0 hx hb hml hr hlk hown hX hd (Nat.mul_le_mul_left 60 hd) (N := N) _ _ _ _ _ _ _ M ra0 (lv_sub hl [0, 1, 2] rfl) q
def b_X12_isWatcher_0 (N : Nat) (S : Hs) (g : Hg) (x1 : Int32) : Option (Int32 × Hg) :=
if x1 < 0 then (
some ((0 : Int32), g)) else (
if (8 : Int32) ≤ x1 then (
some ((0 : Int32), g)) else (
some ((1 : Int32), g)))
def f_X12_isWatcher (N : Nat) (S : Hs) (g : Hg) (a0 : Nat) (x1 : Int32) : Option (Int32 × Hg) := b_X12_isWatcher_0 N S g x1
set_option maxHeartbeats 4000000 in
set_option maxRecDepth 100000 in
theorem w_X12_isWatcher_0 (hx : p.tables.exec = Jvm.exec) (hb : c.code = cX12_isWatcher) (hml : c.maxLocals = 2) (hr : meth.sig.returnType = (some .boolean)) (hlk : meth.locks = false) (hown : s.vm.findClass RX12 = some m.cls) (hX : Kx D cA lo tS s) (hRf : 1 ≤ R.frames) (hRl : 60 ≤ R.locals) {N : Nat} {rv : Int32} {g1 : Hg} {S : Hs} : ∀ (H : Heap) (locs : List Loc) (ls : Array Slot) (g : Hg) (x1 : Int32), Mm D cA lo S g s H locs → lv_has ls 2 [(1, .int x1)] → b_X12_isWatcher_0 N S g x1 = some (rv, g1) → W p l e R s m args below meth c H locs 0 0 (MQ below (Qcx D cA lo S (some (.int rv)) S g1 True) args s 0 0 (fun q : Nat => lo ≤ q)) (F0 m 0 ls []) := by
  intro H locs ls g x1 M hl q
  unfold b_X12_isWatcher_0 at q
  refine lv_iload_n hx hb dX12_isWatcher_0 rfl (lv_at hl 0 rfl) ?_
  refine lv_if_lt (tgt := 14) hx hb dX12_isWatcher_1 (by decide) (fun c_1 => ?_) (fun c_1 => ?_)
  · replace q := if_t c_1 q
    refine lv_iconst (v := 0) hx hb dX12_isWatcher_14 (by decide) ?_
    cases q
    exact x_zret hx hb hr hlk rfl M Ext.rf dX12_isWatcher_15
  · replace q := if_f c_1 q
    refine lv_iload_n hx hb dX12_isWatcher_4 rfl (lv_at hl 0 rfl) ?_
    refine lv_bipush (v := 8) hx hb dX12_isWatcher_5 (by decide) ?_
    refine lv_icmp_ge (tgt := 14) hx hb dX12_isWatcher_7 (by decide) (fun c_2 => ?_) (fun c_2 => ?_)
    · replace q := if_t c_2 q
      refine lv_iconst (v := 0) hx hb dX12_isWatcher_14 (by decide) ?_
      cases q
      exact x_zret hx hb hr hlk rfl M Ext.rf dX12_isWatcher_15
    · replace q := if_f c_2 q
      refine lv_iconst (v := 1) hx hb dX12_isWatcher_10 (by decide) ?_
      refine lv_goto (tgt := 15) hx hb dX12_isWatcher_11 (by decide) ?_
      cases q
      exact x_zret hx hb hr hlk rfl M Ext.rf dX12_isWatcher_15
set_option maxRecDepth 100000 in
theorem c_X12_isWatcher {l : Launch} {D : va_G} {cA : Nat → ClassId} {lo tS N : Nat} {S : Hs} {g g1 : Hg} {rv : Int32} {a0 : Nat} {x1 : Int32} (ra0 : Rf lo S a0 12) (q : f_X12_isWatcher N S g a0 x1 = some (rv, g1)) {d : Nat} (hd : 1 ≤ d) : Ctr l yX12_isWatcher cX12_isWatcher 2 (some .boolean) D cA lo tS [.ref a0, .int x1] S g d (some (.int rv)) S g1 True 0 0 := by
  refine x_met (by decide) (Nat.le_of_ble_eq_true rfl) ?_
  intro p e s m below meth c ls hx hb hml hr hlk hown hnm hX M hl
  exact w_X12_isWatcher_0 hx hb hml hr hlk hown hX hd (Nat.mul_le_mul_left 60 hd) (N := N) _ _ _ _ _ M  (lv_sub hl [1] rfl) q
def b_X12_watch_246 (N : Nat) (S : Hs) (k246 : Hg → Nat → Int32 → Int32 → Int32 → Option (Int32 × Hg)) (g : Hg) (a0 : Nat) (x1 : Int32) (x3 : Int32) (x4 : Int32) : Option (Int32 × Hg) :=
nn (rdR g a0 17) (fun a_1 =>
ck (inb (((5 : Int32) * x1) + (4 : Int32)) (hpL S a_1)) (
if (rdI g a_1 (((5 : Int32) * x1) + (4 : Int32)).toNatClampNeg) ≤ x4 then (
some (x3, g)) else (
nn (rdR g a0 19) (fun a_3 =>
ck (inb (((400 : Int32) * x1) + x4) (hpL S a_3)) (
c2 (f_X12_find N S g a0 (rdI g a_3 (((400 : Int32) * x1) + x4).toNatClampNeg)) (fun x_5 g_4 =>
if x_5 = (-1 : Int32) then (
nm (x3 + 1) (fun x_7 =>
nm (x4 + 1) (fun x_8 =>
k246 g_4 a0 x1 x_7 x_8))) else (
nn (rdR g_4 a0 53) (fun a_9 =>
ck (inb x_5 (hpL S a_9)) (
nn (rdR g_4 a0 20) (fun a_10 =>
ck (inb (((400 : Int32) * x1) + x4) (hpL S a_10)) (
if (rdI g_4 a_9 x_5.toNatClampNeg) = (rdI g_4 a_10 (((400 : Int32) * x1) + x4).toNatClampNeg) then (
nm (x4 + 1) (fun x_12 =>
k246 g_4 a0 x1 x3 x_12)) else (
nm (x3 + 1) (fun x_13 =>
nm (x4 + 1) (fun x_14 =>
k246 g_4 a0 x1 x_13 x_14))))))))))))))
def n_X12_watch_246 (N : Nat) (S : Hs) : Nat → Hg → Nat → Int32 → Int32 → Int32 → Option (Int32 × Hg)
  | 0 => fun _ _ _ _ _ => none
  | n + 1 => fun g a0 x1 x3 x4 => b_X12_watch_246 N S (n_X12_watch_246 N S n) g a0 x1 x3 x4
def b_X12_watch_196 (N : Nat) (S : Hs) (k39 : Hg → Nat → Int32 → Int32 → Int32 → Option (Int32 × Hg)) (g : Hg) (a0 : Nat) (x1 : Int32) (x2 : Int32) (x3 : Int32) (x5 : Int32) : Option (Int32 × Hg) :=
nn (rdR g a0 20) (fun a_1 =>
ck (inb (((400 : Int32) * x1) + x5) (hpL S a_1)) (
nm (wrI g a_1 (((400 : Int32) * x1) + x5).toNatClampNeg x3) (fun g_2 =>
nm (x3 + 1) (fun x_3 =>
k39 g_2 a0 x1 x2 x_3))))
def b_X12_watch_152 (N : Nat) (S : Hs) (k39 : Hg → Nat → Int32 → Int32 → Int32 → Option (Int32 × Hg)) (g : Hg) (a0 : Nat) (x1 : Int32) (x2 : Int32) (x3 : Int32) (x4 : Int32) (x5 : Int32) : Option (Int32 × Hg) :=
nn (rdR g a0 17) (fun a_1 =>
ck (inb (((5 : Int32) * x1) + (4 : Int32)) (hpL S a_1)) (
if x5 = (rdI g a_1 (((5 : Int32) * x1) + (4 : Int32)).toNatClampNeg) then (
nn (rdR g a0 19) (fun a_3 =>
ck (inb (((400 : Int32) * x1) + x5) (hpL S a_3)) (
nm (wrI g a_3 (((400 : Int32) * x1) + x5).toNatClampNeg x4) (fun g_4 =>
nn (rdR g_4 a0 17) (fun a_5 =>
ck (inb (((5 : Int32) * x1) + (4 : Int32)) (hpL S a_5)) (
ck (inb (((5 : Int32) * x1) + (4 : Int32)) (hpL S a_5)) (
nm (wrI g_4 a_5 (((5 : Int32) * x1) + (4 : Int32)).toNatClampNeg ((rdI g_4 a_5 (((5 : Int32) * x1) + (4 : Int32)).toNatClampNeg) + (1 : Int32))) (fun g_6 =>
b_X12_watch_196 N S k39 g_6 a0 x1 x2 x3 x5)))))))) else (
b_X12_watch_196 N S k39 g a0 x1 x2 x3 x5)))
def b_X12_watch_113 (N : Nat) (S : Hs) (k39 : Hg → Nat → Int32 → Int32 → Int32 → Option (Int32 × Hg)) (k113 : Hg → Nat → Int32 → Int32 → Int32 → Int32 → Int32 → Option (Int32 × Hg)) (g : Hg) (a0 : Nat) (x1 : Int32) (x2 : Int32) (x3 : Int32) (x4 : Int32) (x5 : Int32) : Option (Int32 × Hg) :=
nn (rdR g a0 17) (fun a_1 =>
ck (inb (((5 : Int32) * x1) + (4 : Int32)) (hpL S a_1)) (
if (rdI g a_1 (((5 : Int32) * x1) + (4 : Int32)).toNatClampNeg) ≤ x5 then (
b_X12_watch_152 N S k39 g a0 x1 x2 x3 x4 x5) else (
nn (rdR g a0 19) (fun a_3 =>
ck (inb (((400 : Int32) * x1) + x5) (hpL S a_3)) (
if (rdI g a_3 (((400 : Int32) * x1) + x5).toNatClampNeg) = x4 then (
b_X12_watch_152 N S k39 g a0 x1 x2 x3 x4 x5) else (
nm (x5 + 1) (fun x_5 =>
k113 g a0 x1 x2 x3 x4 x_5)))))))
def n_X12_watch_113 (N : Nat) (S : Hs) (k39 : Hg → Nat → Int32 → Int32 → Int32 → Option (Int32 × Hg)) : Nat → Hg → Nat → Int32 → Int32 → Int32 → Int32 → Int32 → Option (Int32 × Hg)
  | 0 => fun _ _ _ _ _ _ _ => none
  | n + 1 => fun g a0 x1 x2 x3 x4 x5 => b_X12_watch_113 N S k39 (n_X12_watch_113 N S k39 n) g a0 x1 x2 x3 x4 x5
def b_X12_watch_39 (N : Nat) (S : Hs) (k39 : Hg → Nat → Int32 → Int32 → Int32 → Option (Int32 × Hg)) (g : Hg) (a0 : Nat) (x1 : Int32) (x2 : Int32) (x3 : Int32) : Option (Int32 × Hg) :=
c2 (f_X12_many N S g a0 x2) (fun x_2 g_1 =>
if x_2 ≤ x3 then (
nn (rdR g_1 a0 17) (fun a_4 =>
c2 (f_X12_many N S g_1 a0 x2) (fun x_6 g_5 =>
ck (inb (((5 : Int32) * x1) + (3 : Int32)) (hpL S a_4)) (
nm (wrI g_5 a_4 (((5 : Int32) * x1) + (3 : Int32)).toNatClampNeg x_6) (fun g_7 =>
c2 (f_X12_many N S g_7 a0 x2) (fun x_9 g_8 =>
c2 (f_X12_map N S g_8 a0 x2 x_9) (fun u_11 g_10 =>
n_X12_watch_246 N S N g_10 a0 x1 (0 : Int32) (0 : Int32)))))))) else (
nn (rdR g_1 a0 2) (fun a_12 =>
ck (inb (((400 : Int32) * x2) + x3) (hpL S a_12)) (
nm (rdI g_1 a_12 (((400 : Int32) * x2) + x3).toNatClampNeg) (fun x_13 =>
nn (rdR g_1 a0 4) (fun a_14 =>
ck (inb (((400 : Int32) * x2) + x3) (hpL S a_14)) (
if (rdI g_1 a_14 (((400 : Int32) * x2) + x3).toNatClampNeg) = 0 then (
nn (rdR g_1 a0 17) (fun a_17 =>
ck (inb (((5 : Int32) * x1) + (1 : Int32)) (hpL S a_17)) (
if x_13 < (rdI g_1 a_17 (((5 : Int32) * x1) + (1 : Int32)).toNatClampNeg) then (
nm (x3 + 1) (fun x_19 =>
k39 g_1 a0 x1 x2 x_19)) else (
nn (rdR g_1 a0 17) (fun a_20 =>
ck (inb (((5 : Int32) * x1) + (2 : Int32)) (hpL S a_20)) (
if x_13 ≤ (rdI g_1 a_20 (((5 : Int32) * x1) + (2 : Int32)).toNatClampNeg) then (
n_X12_watch_113 N S k39 N g_1 a0 x1 x2 x3 x_13 (0 : Int32)) else (
nm (x3 + 1) (fun x_22 =>
k39 g_1 a0 x1 x2 x_22)))))))) else (
nm (x3 + 1) (fun x_16 =>
k39 g_1 a0 x1 x2 x_16)))))))))
def n_X12_watch_39 (N : Nat) (S : Hs) : Nat → Hg → Nat → Int32 → Int32 → Int32 → Option (Int32 × Hg)
  | 0 => fun _ _ _ _ _ => none
  | n + 1 => fun g a0 x1 x2 x3 => b_X12_watch_39 N S (n_X12_watch_39 N S n) g a0 x1 x2 x3
def b_X12_watch_0 (N : Nat) (S : Hs) (g : Hg) (a0 : Nat) (x1 : Int32) : Option (Int32 × Hg) :=
c2 (f_X12_isWatcher N S g a0 x1) (fun x_2 g_1 =>
if x_2 = 0 then (
some ((-1 : Int32), g_1)) else (
nn (rdR g_1 a0 18) (fun a_4 =>
ck (inb x1 (hpL S a_4)) (
if (rdI g_1 a_4 x1.toNatClampNeg) = 0 then (
some ((-1 : Int32), g_1)) else (
nn (rdR g_1 a0 17) (fun a_6 =>
ck (inb ((5 : Int32) * x1) (hpL S a_6)) (
nm (rdI g_1 a_6 ((5 : Int32) * x1).toNatClampNeg) (fun x_7 =>
nn (rdR g_1 a0 17) (fun a_8 =>
ck (inb (((5 : Int32) * x1) + (3 : Int32)) (hpL S a_8)) (
nm (rdI g_1 a_8 (((5 : Int32) * x1) + (3 : Int32)).toNatClampNeg) (fun x_9 =>
n_X12_watch_39 N S N g_1 a0 x1 x_7 x_9)))))))))))
def f_X12_watch (N : Nat) (S : Hs) (g : Hg) (a0 : Nat) (x1 : Int32) : Option (Int32 × Hg) := b_X12_watch_0 N S g a0 x1
set_option maxHeartbeats 4000000 in
set_option maxRecDepth 100000 in
theorem w_X12_watch_246 (hx : p.tables.exec = Jvm.exec) (hb : c.code = cX12_watch) (hml : c.maxLocals = 6) (hr : meth.sig.returnType = (some .int)) (hlk : meth.locks = false) (hown : s.vm.findClass RX12 = some m.cls) (hX : Kx D cA lo tS s) (hRf : 5 ≤ R.frames) (hRl : 300 ≤ R.locals) {N : Nat} {rv : Int32} {g1 : Hg} {S : Hs} {k246 : Hg → Nat → Int32 → Int32 → Int32 → Option (Int32 × Hg)} (hk246 : ∀ (H : Heap) (locs : List Loc) (ls : Array Slot) (g : Hg) (a0 : Nat) (x1 : Int32) (x3 : Int32) (x4 : Int32), Mm D cA lo S g s H locs → Rf lo S a0 12 → lv_has ls 6 [(0, .ref a0), (1, .int x1), (3, .int x3), (4, .int x4)] → k246 g a0 x1 x3 x4 = some (rv, g1) → W p l e R s m args below meth c H locs 0 0 (MQ below (Qcx D cA lo S (some (.int rv)) S g1 True) args s 0 0 (fun q : Nat => lo ≤ q)) (F0 m 246 ls [])) : ∀ (H : Heap) (locs : List Loc) (ls : Array Slot) (g : Hg) (a0 : Nat) (x1 : Int32) (x3 : Int32) (x4 : Int32), Mm D cA lo S g s H locs → Rf lo S a0 12 → lv_has ls 6 [(0, .ref a0), (1, .int x1), (3, .int x3), (4, .int x4)] → b_X12_watch_246 N S k246 g a0 x1 x3 x4 = some (rv, g1) → W p l e R s m args below meth c H locs 0 0 (MQ below (Qcx D cA lo S (some (.int rv)) S g1 True) args s 0 0 (fun q : Nat => lo ≤ q)) (F0 m 246 ls []) := by
  intro H locs ls g a0 x1 x3 x4 M ra0 hl q
  unfold b_X12_watch_246 at q
  refine lv_iload hx hb dX12_watch_246 (lv_at hl 3 rfl) ?_
  refine lv_aload_n hx hb dX12_watch_248 rfl (lv_at hl 0 rfl) ?_
  replace q := nn_s q
  obtain ⟨a_1, e_a_1, q⟩ := q
  refine x_getR hx hb hown hX M e_a_1 okX12 ra0 (by decide) rfl kw_1029 dX12_watch_249 (fun ra_1 => ?_)
  refine lv_iconst (v := 5) hx hb dX12_watch_252 (by decide) ?_
  refine lv_iload_n hx hb dX12_watch_253 rfl (lv_at hl 1 rfl) ?_
  refine lv_imul hx hb dX12_watch_254 ?_
  refine lv_iconst (v := 4) hx hb dX12_watch_255 (by decide) ?_
  refine lv_iadd hx hb dX12_watch_256 ?_
  replace q := ck_s q
  obtain ⟨hin, q⟩ := q
  refine x_iald hx hb hX M ra_1 (inb_in hin) dX12_watch_257 ?_
  refine lv_icmp_ge (tgt := 318) hx hb dX12_watch_258 (by decide) (fun c_2 => ?_) (fun c_2 => ?_)
  · replace q := if_t c_2 q
    refine lv_iload_n hx hb dX12_watch_318 rfl (lv_at hl 2 rfl) ?_
    cases q
    exact x_iret hx hb hr hlk M Ext.rf dX12_watch_319
  · replace q := if_f c_2 q
    refine lv_aload_n hx hb dX12_watch_261 rfl (lv_at hl 0 rfl) ?_
    refine lv_aload_n hx hb dX12_watch_262 rfl (lv_at hl 0 rfl) ?_
    replace q := nn_s q
    obtain ⟨a_3, e_a_3, q⟩ := q
    refine x_getR hx hb hown hX M e_a_3 okX12 ra0 (by decide) rfl kw_1031 dX12_watch_263 (fun ra_3 => ?_)
    refine lv_sipush (v := 400) hx hb dX12_watch_266 (by decide) ?_
    refine lv_iload_n hx hb dX12_watch_269 rfl (lv_at hl 1 rfl) ?_
    refine lv_imul hx hb dX12_watch_270 ?_
    refine lv_iload hx hb dX12_watch_271 (lv_at hl 3 rfl) ?_
    refine lv_iadd hx hb dX12_watch_273 ?_
    replace q := ck_s q
    obtain ⟨hin, q⟩ := q
    refine x_iald hx hb hX M ra_3 (inb_in hin) dX12_watch_274 ?_
    replace q := c2_s q
    obtain ⟨x_5, g_4, qc, q⟩ := q
    refine x_callV hx hb hml hl.1 hown hX M (S1 := S) (As := [.int (rdI g a_3 (((400 : Int32) * x1) + x4).toNatClampNeg)]) (rest := []) okX12 ra0 rfl kw_1273 kw_21 mok_X12_find (c_X12_find ra0 qc (Nat.le_refl 1)) kw_1271 rfl rfl dX12_watch_275 (Nat.le_of_ble_eq_true rfl) ⟨Nat.le_trans (by decide) hRf, Nat.le_trans (by decide) hRl⟩ (Nat.zero_le _) (Nat.zero_le _) (fun H locs M hEF => ?_)
    refine lv_istore (lv' := [(5, .int x_5), (0, .ref a0), (1, .int x1), (3, .int x3), (4, .int x4)]) hx hb dX12_watch_278 hl (by decide) rfl (fun ls hl => ?_)
    refine lv_iload hx hb dX12_watch_280 (lv_at hl 0 rfl) ?_
    refine lv_iconst (v := -1) hx hb dX12_watch_282 (by decide) ?_
    refine lv_icmp_eq (tgt := 309) hx hb dX12_watch_283 (by decide) (fun c_6 => ?_) (fun c_6 => ?_)
    · replace q := if_t c_6 q
      obtain ⟨x_7, e_x_7⟩ : ∃ y : Int32, y = x3 + 1 := ⟨_, rfl⟩
      replace q := nm_s q e_x_7
      refine lv_iinc (v := x_7) (lv' := [(3, .int x_7), (5, .int x_5), (0, .ref a0), (1, .int x1), (4, .int x4)]) hx hb dX12_watch_309 hl (k := 3) rfl (by rw [e_x_7]; rfl) (by decide) rfl (fun ls hl => ?_)
      obtain ⟨x_8, e_x_8⟩ : ∃ y : Int32, y = x4 + 1 := ⟨_, rfl⟩
      replace q := nm_s q e_x_8
      refine lv_iinc (v := x_8) (lv' := [(4, .int x_8), (3, .int x_7), (5, .int x_5), (0, .ref a0), (1, .int x1)]) hx hb dX12_watch_312 hl (k := 4) rfl (by rw [e_x_8]; rfl) (by decide) rfl (fun ls hl => ?_)
      refine lv_goto (tgt := 246) hx hb dX12_watch_315 (by decide) ?_
      exact hk246 _ _ _ _ _ _ _ _ M ra0 (lv_sub hl [3, 4, 1, 0] rfl) q
    · replace q := if_f c_6 q
      refine lv_aload_n hx hb dX12_watch_286 rfl (lv_at hl 1 rfl) ?_
      replace q := nn_s q
      obtain ⟨a_9, e_a_9, q⟩ := q
      refine x_getR hx hb hown hX M e_a_9 okX12 ra0 (by decide) rfl kw_1065 dX12_watch_287 (fun ra_9 => ?_)
      refine lv_iload hx hb dX12_watch_290 (lv_at hl 0 rfl) ?_
      replace q := ck_s q
      obtain ⟨hin, q⟩ := q
      refine x_iald hx hb hX M ra_9 (inb_in hin) dX12_watch_292 ?_
      refine lv_aload_n hx hb dX12_watch_293 rfl (lv_at hl 1 rfl) ?_
      replace q := nn_s q
      obtain ⟨a_10, e_a_10, q⟩ := q
      refine x_getR hx hb hown hX M e_a_10 okX12 ra0 (by decide) rfl kw_1032 dX12_watch_294 (fun ra_10 => ?_)
      refine lv_sipush (v := 400) hx hb dX12_watch_297 (by decide) ?_
      refine lv_iload_n hx hb dX12_watch_300 rfl (lv_at hl 2 rfl) ?_
      refine lv_imul hx hb dX12_watch_301 ?_
      refine lv_iload hx hb dX12_watch_302 (lv_at hl 4 rfl) ?_
      refine lv_iadd hx hb dX12_watch_304 ?_
      replace q := ck_s q
      obtain ⟨hin, q⟩ := q
      refine x_iald hx hb hX M ra_10 (inb_in hin) dX12_watch_305 ?_
      refine lv_icmp_eq (tgt := 312) hx hb dX12_watch_306 (by decide) (fun c_11 => ?_) (fun c_11 => ?_)
      · replace q := if_t c_11 q
        obtain ⟨x_12, e_x_12⟩ : ∃ y : Int32, y = x4 + 1 := ⟨_, rfl⟩
        replace q := nm_s q e_x_12
        refine lv_iinc (v := x_12) (lv' := [(4, .int x_12), (5, .int x_5), (0, .ref a0), (1, .int x1), (3, .int x3)]) hx hb dX12_watch_312 hl (k := 4) rfl (by rw [e_x_12]; rfl) (by decide) rfl (fun ls hl => ?_)
        refine lv_goto (tgt := 246) hx hb dX12_watch_315 (by decide) ?_
        exact hk246 _ _ _ _ _ _ _ _ M ra0 (lv_sub hl [2, 3, 4, 0] rfl) q
      · replace q := if_f c_11 q
        obtain ⟨x_13, e_x_13⟩ : ∃ y : Int32, y = x3 + 1 := ⟨_, rfl⟩
        replace q := nm_s q e_x_13
        refine lv_iinc (v := x_13) (lv' := [(3, .int x_13), (5, .int x_5), (0, .ref a0), (1, .int x1), (4, .int x4)]) hx hb dX12_watch_309 hl (k := 3) rfl (by rw [e_x_13]; rfl) (by decide) rfl (fun ls hl => ?_)
        obtain ⟨x_14, e_x_14⟩ : ∃ y : Int32, y = x4 + 1 := ⟨_, rfl⟩
        replace q := nm_s q e_x_14
        refine lv_iinc (v := x_14) (lv' := [(4, .int x_14), (3, .int x_13), (5, .int x_5), (0, .ref a0), (1, .int x1)]) hx hb dX12_watch_312 hl (k := 4) rfl (by rw [e_x_14]; rfl) (by decide) rfl (fun ls hl => ?_)
        refine lv_goto (tgt := 246) hx hb dX12_watch_315 (by decide) ?_
        exact hk246 _ _ _ _ _ _ _ _ M ra0 (lv_sub hl [3, 4, 1, 0] rfl) q
set_option maxRecDepth 100000 in
theorem l_X12_watch_246 (hx : p.tables.exec = Jvm.exec) (hb : c.code = cX12_watch) (hml : c.maxLocals = 6) (hr : meth.sig.returnType = (some .int)) (hlk : meth.locks = false) (hown : s.vm.findClass RX12 = some m.cls) (hX : Kx D cA lo tS s) (hRf : 5 ≤ R.frames) (hRl : 300 ≤ R.locals) {N : Nat} {rv : Int32} {g1 : Hg} {S : Hs} : ∀ (n : Nat), ∀ (H : Heap) (locs : List Loc) (ls : Array Slot) (g : Hg) (a0 : Nat) (x1 : Int32) (x3 : Int32) (x4 : Int32), Mm D cA lo S g s H locs → Rf lo S a0 12 → lv_has ls 6 [(0, .ref a0), (1, .int x1), (3, .int x3), (4, .int x4)] → n_X12_watch_246 N S n g a0 x1 x3 x4 = some (rv, g1) → W p l e R s m args below meth c H locs 0 0 (MQ below (Qcx D cA lo S (some (.int rv)) S g1 True) args s 0 0 (fun q : Nat => lo ≤ q)) (F0 m 246 ls []) := by
  intro n
  induction n with
  | zero =>
    intro H locs ls g a0 x1 x3 x4 M ra0 hl q
    exact absurd q (by simp [n_X12_watch_246])
  | succ n ih => exact w_X12_watch_246 hx hb hml hr hlk hown hX hRf hRl (N := N)  ih
set_option maxHeartbeats 4000000 in
set_option maxRecDepth 100000 in
theorem w_X12_watch_196 (hx : p.tables.exec = Jvm.exec) (hb : c.code = cX12_watch) (hml : c.maxLocals = 6) (hr : meth.sig.returnType = (some .int)) (hlk : meth.locks = false) (hown : s.vm.findClass RX12 = some m.cls) (hX : Kx D cA lo tS s) (hRf : 5 ≤ R.frames) (hRl : 300 ≤ R.locals) {N : Nat} {rv : Int32} {g1 : Hg} {S : Hs} {k39 : Hg → Nat → Int32 → Int32 → Int32 → Option (Int32 × Hg)} (hk39 : ∀ (H : Heap) (locs : List Loc) (ls : Array Slot) (g : Hg) (a0 : Nat) (x1 : Int32) (x2 : Int32) (x3 : Int32), Mm D cA lo S g s H locs → Rf lo S a0 12 → lv_has ls 6 [(0, .ref a0), (1, .int x1), (2, .int x2), (3, .int x3)] → k39 g a0 x1 x2 x3 = some (rv, g1) → W p l e R s m args below meth c H locs 0 0 (MQ below (Qcx D cA lo S (some (.int rv)) S g1 True) args s 0 0 (fun q : Nat => lo ≤ q)) (F0 m 39 ls [])) : ∀ (H : Heap) (locs : List Loc) (ls : Array Slot) (g : Hg) (a0 : Nat) (x1 : Int32) (x2 : Int32) (x3 : Int32) (x5 : Int32), Mm D cA lo S g s H locs → Rf lo S a0 12 → lv_has ls 6 [(0, .ref a0), (1, .int x1), (2, .int x2), (3, .int x3), (5, .int x5)] → b_X12_watch_196 N S k39 g a0 x1 x2 x3 x5 = some (rv, g1) → W p l e R s m args below meth c H locs 0 0 (MQ below (Qcx D cA lo S (some (.int rv)) S g1 True) args s 0 0 (fun q : Nat => lo ≤ q)) (F0 m 196 ls []) := by
  intro H locs ls g a0 x1 x2 x3 x5 M ra0 hl q
  unfold b_X12_watch_196 at q
  refine lv_aload_n hx hb dX12_watch_196 rfl (lv_at hl 0 rfl) ?_
  replace q := nn_s q
  obtain ⟨a_1, e_a_1, q⟩ := q
  refine x_getR hx hb hown hX M e_a_1 okX12 ra0 (by decide) rfl kw_1032 dX12_watch_197 (fun ra_1 => ?_)
  refine lv_sipush (v := 400) hx hb dX12_watch_200 (by decide) ?_
  refine lv_iload_n hx hb dX12_watch_203 rfl (lv_at hl 1 rfl) ?_
  refine lv_imul hx hb dX12_watch_204 ?_
  refine lv_iload hx hb dX12_watch_205 (lv_at hl 4 rfl) ?_
  refine lv_iadd hx hb dX12_watch_207 ?_
  refine lv_iload_n hx hb dX12_watch_208 rfl (lv_at hl 3 rfl) ?_
  replace q := ck_s q
  obtain ⟨hin, q⟩ := q
  refine x_iast hx hb hX M ra_1 (inb_in hin) dX12_watch_209 (fun H locs M => ?_)
  replace q := gen_g M q
  obtain ⟨g_2, -, M, q⟩ := q
  obtain ⟨x_3, e_x_3⟩ : ∃ y : Int32, y = x3 + 1 := ⟨_, rfl⟩
  replace q := nm_s q e_x_3
  refine lv_iinc (v := x_3) (lv' := [(3, .int x_3), (0, .ref a0), (1, .int x1), (2, .int x2), (5, .int x5)]) hx hb dX12_watch_210 hl (k := 3) rfl (by rw [e_x_3]; rfl) (by decide) rfl (fun ls hl => ?_)
  refine lv_goto (tgt := 39) hx hb dX12_watch_213 (by decide) ?_
  exact hk39 _ _ _ _ _ _ _ _ M ra0 (lv_sub hl [1, 2, 3, 0] rfl) q
set_option maxHeartbeats 4000000 in
set_option maxRecDepth 100000 in
theorem w_X12_watch_152 (hx : p.tables.exec = Jvm.exec) (hb : c.code = cX12_watch) (hml : c.maxLocals = 6) (hr : meth.sig.returnType = (some .int)) (hlk : meth.locks = false) (hown : s.vm.findClass RX12 = some m.cls) (hX : Kx D cA lo tS s) (hRf : 5 ≤ R.frames) (hRl : 300 ≤ R.locals) {N : Nat} {rv : Int32} {g1 : Hg} {S : Hs} {k39 : Hg → Nat → Int32 → Int32 → Int32 → Option (Int32 × Hg)} (hk39 : ∀ (H : Heap) (locs : List Loc) (ls : Array Slot) (g : Hg) (a0 : Nat) (x1 : Int32) (x2 : Int32) (x3 : Int32), Mm D cA lo S g s H locs → Rf lo S a0 12 → lv_has ls 6 [(0, .ref a0), (1, .int x1), (2, .int x2), (3, .int x3)] → k39 g a0 x1 x2 x3 = some (rv, g1) → W p l e R s m args below meth c H locs 0 0 (MQ below (Qcx D cA lo S (some (.int rv)) S g1 True) args s 0 0 (fun q : Nat => lo ≤ q)) (F0 m 39 ls [])) : ∀ (H : Heap) (locs : List Loc) (ls : Array Slot) (g : Hg) (a0 : Nat) (x1 : Int32) (x2 : Int32) (x3 : Int32) (x4 : Int32) (x5 : Int32), Mm D cA lo S g s H locs → Rf lo S a0 12 → lv_has ls 6 [(0, .ref a0), (1, .int x1), (2, .int x2), (3, .int x3), (4, .int x4), (5, .int x5)] → b_X12_watch_152 N S k39 g a0 x1 x2 x3 x4 x5 = some (rv, g1) → W p l e R s m args below meth c H locs 0 0 (MQ below (Qcx D cA lo S (some (.int rv)) S g1 True) args s 0 0 (fun q : Nat => lo ≤ q)) (F0 m 152 ls []) := by
  intro H locs ls g a0 x1 x2 x3 x4 x5 M ra0 hl q
  unfold b_X12_watch_152 at q
  refine lv_iload hx hb dX12_watch_152 (lv_at hl 5 rfl) ?_
  refine lv_aload_n hx hb dX12_watch_154 rfl (lv_at hl 0 rfl) ?_
  replace q := nn_s q
  obtain ⟨a_1, e_a_1, q⟩ := q
  refine x_getR hx hb hown hX M e_a_1 okX12 ra0 (by decide) rfl kw_1029 dX12_watch_155 (fun ra_1 => ?_)
  refine lv_iconst (v := 5) hx hb dX12_watch_158 (by decide) ?_
  refine lv_iload_n hx hb dX12_watch_159 rfl (lv_at hl 1 rfl) ?_
  refine lv_imul hx hb dX12_watch_160 ?_
  refine lv_iconst (v := 4) hx hb dX12_watch_161 (by decide) ?_
  refine lv_iadd hx hb dX12_watch_162 ?_
  replace q := ck_s q
  obtain ⟨hin, q⟩ := q
  refine x_iald hx hb hX M ra_1 (inb_in hin) dX12_watch_163 ?_
  refine lv_icmp_ne (tgt := 196) hx hb dX12_watch_164 (by decide) (fun c_2 => ?_) (fun c_2 => ?_)
  · replace q := if_f c_2 q
    exact w_X12_watch_196 hx hb hml hr hlk hown hX hRf hRl (N := N) hk39 _ _ _ _ _ _ _ _ _ M ra0 (lv_sub hl [0, 1, 2, 3, 5] rfl) q
  · replace q := if_t c_2 q
    refine lv_aload_n hx hb dX12_watch_167 rfl (lv_at hl 0 rfl) ?_
    replace q := nn_s q
    obtain ⟨a_3, e_a_3, q⟩ := q
    refine x_getR hx hb hown hX M e_a_3 okX12 ra0 (by decide) rfl kw_1031 dX12_watch_168 (fun ra_3 => ?_)
    refine lv_sipush (v := 400) hx hb dX12_watch_171 (by decide) ?_
    refine lv_iload_n hx hb dX12_watch_174 rfl (lv_at hl 1 rfl) ?_
    refine lv_imul hx hb dX12_watch_175 ?_
    refine lv_iload hx hb dX12_watch_176 (lv_at hl 5 rfl) ?_
    refine lv_iadd hx hb dX12_watch_178 ?_
    refine lv_iload hx hb dX12_watch_179 (lv_at hl 4 rfl) ?_
    replace q := ck_s q
    obtain ⟨hin, q⟩ := q
    refine x_iast hx hb hX M ra_3 (inb_in hin) dX12_watch_181 (fun H locs M => ?_)
    replace q := gen_g M q
    obtain ⟨g_4, -, M, q⟩ := q
    refine lv_aload_n hx hb dX12_watch_182 rfl (lv_at hl 0 rfl) ?_
    replace q := nn_s q
    obtain ⟨a_5, e_a_5, q⟩ := q
    refine x_getR hx hb hown hX M e_a_5 okX12 ra0 (by decide) rfl kw_1029 dX12_watch_183 (fun ra_5 => ?_)
    refine lv_iconst (v := 5) hx hb dX12_watch_186 (by decide) ?_
    refine lv_iload_n hx hb dX12_watch_187 rfl (lv_at hl 1 rfl) ?_
    refine lv_imul hx hb dX12_watch_188 ?_
    refine lv_iconst (v := 4) hx hb dX12_watch_189 (by decide) ?_
    refine lv_iadd hx hb dX12_watch_190 ?_
    refine lv_dup2_11 hx hb dX12_watch_191 rfl rfl ?_
    replace q := ck_s q
    obtain ⟨hin, q⟩ := q
    refine x_iald hx hb hX M ra_5 (inb_in hin) dX12_watch_192 ?_
    refine lv_iconst (v := 1) hx hb dX12_watch_193 (by decide) ?_
    refine lv_iadd hx hb dX12_watch_194 ?_
    replace q := ck_s q
    obtain ⟨hin, q⟩ := q
    refine x_iast hx hb hX M ra_5 (inb_in hin) dX12_watch_195 (fun H locs M => ?_)
    replace q := gen_g M q
    obtain ⟨g_6, -, M, q⟩ := q
    exact w_X12_watch_196 hx hb hml hr hlk hown hX hRf hRl (N := N) hk39 _ _ _ _ _ _ _ _ _ M ra0 (lv_sub hl [0, 1, 2, 3, 5] rfl) q
set_option maxHeartbeats 4000000 in
set_option maxRecDepth 100000 in
theorem w_X12_watch_113 (hx : p.tables.exec = Jvm.exec) (hb : c.code = cX12_watch) (hml : c.maxLocals = 6) (hr : meth.sig.returnType = (some .int)) (hlk : meth.locks = false) (hown : s.vm.findClass RX12 = some m.cls) (hX : Kx D cA lo tS s) (hRf : 5 ≤ R.frames) (hRl : 300 ≤ R.locals) {N : Nat} {rv : Int32} {g1 : Hg} {S : Hs} {k39 : Hg → Nat → Int32 → Int32 → Int32 → Option (Int32 × Hg)} (hk39 : ∀ (H : Heap) (locs : List Loc) (ls : Array Slot) (g : Hg) (a0 : Nat) (x1 : Int32) (x2 : Int32) (x3 : Int32), Mm D cA lo S g s H locs → Rf lo S a0 12 → lv_has ls 6 [(0, .ref a0), (1, .int x1), (2, .int x2), (3, .int x3)] → k39 g a0 x1 x2 x3 = some (rv, g1) → W p l e R s m args below meth c H locs 0 0 (MQ below (Qcx D cA lo S (some (.int rv)) S g1 True) args s 0 0 (fun q : Nat => lo ≤ q)) (F0 m 39 ls [])) {k113 : Hg → Nat → Int32 → Int32 → Int32 → Int32 → Int32 → Option (Int32 × Hg)} (hk113 : ∀ (H : Heap) (locs : List Loc) (ls : Array Slot) (g : Hg) (a0 : Nat) (x1 : Int32) (x2 : Int32) (x3 : Int32) (x4 : Int32) (x5 : Int32), Mm D cA lo S g s H locs → Rf lo S a0 12 → lv_has ls 6 [(0, .ref a0), (1, .int x1), (2, .int x2), (3, .int x3), (4, .int x4), (5, .int x5)] → k113 g a0 x1 x2 x3 x4 x5 = some (rv, g1) → W p l e R s m args below meth c H locs 0 0 (MQ below (Qcx D cA lo S (some (.int rv)) S g1 True) args s 0 0 (fun q : Nat => lo ≤ q)) (F0 m 113 ls [])) : ∀ (H : Heap) (locs : List Loc) (ls : Array Slot) (g : Hg) (a0 : Nat) (x1 : Int32) (x2 : Int32) (x3 : Int32) (x4 : Int32) (x5 : Int32), Mm D cA lo S g s H locs → Rf lo S a0 12 → lv_has ls 6 [(0, .ref a0), (1, .int x1), (2, .int x2), (3, .int x3), (4, .int x4), (5, .int x5)] → b_X12_watch_113 N S k39 k113 g a0 x1 x2 x3 x4 x5 = some (rv, g1) → W p l e R s m args below meth c H locs 0 0 (MQ below (Qcx D cA lo S (some (.int rv)) S g1 True) args s 0 0 (fun q : Nat => lo ≤ q)) (F0 m 113 ls []) := by
  intro H locs ls g a0 x1 x2 x3 x4 x5 M ra0 hl q
  unfold b_X12_watch_113 at q
  refine lv_iload hx hb dX12_watch_113 (lv_at hl 5 rfl) ?_
  refine lv_aload_n hx hb dX12_watch_115 rfl (lv_at hl 0 rfl) ?_
  replace q := nn_s q
  obtain ⟨a_1, e_a_1, q⟩ := q
  refine x_getR hx hb hown hX M e_a_1 okX12 ra0 (by decide) rfl kw_1029 dX12_watch_116 (fun ra_1 => ?_)
  refine lv_iconst (v := 5) hx hb dX12_watch_119 (by decide) ?_
  refine lv_iload_n hx hb dX12_watch_120 rfl (lv_at hl 1 rfl) ?_
  refine lv_imul hx hb dX12_watch_121 ?_
  refine lv_iconst (v := 4) hx hb dX12_watch_122 (by decide) ?_
  refine lv_iadd hx hb dX12_watch_123 ?_
  replace q := ck_s q
  obtain ⟨hin, q⟩ := q
  refine x_iald hx hb hX M ra_1 (inb_in hin) dX12_watch_124 ?_
  refine lv_icmp_ge (tgt := 152) hx hb dX12_watch_125 (by decide) (fun c_2 => ?_) (fun c_2 => ?_)
  · replace q := if_t c_2 q
    exact w_X12_watch_152 hx hb hml hr hlk hown hX hRf hRl (N := N) hk39 _ _ _ _ _ _ _ _ _ _ M ra0 (lv_sub hl [0, 1, 2, 3, 4, 5] rfl) q
  · replace q := if_f c_2 q
    refine lv_aload_n hx hb dX12_watch_128 rfl (lv_at hl 0 rfl) ?_
    replace q := nn_s q
    obtain ⟨a_3, e_a_3, q⟩ := q
    refine x_getR hx hb hown hX M e_a_3 okX12 ra0 (by decide) rfl kw_1031 dX12_watch_129 (fun ra_3 => ?_)
    refine lv_sipush (v := 400) hx hb dX12_watch_132 (by decide) ?_
    refine lv_iload_n hx hb dX12_watch_135 rfl (lv_at hl 1 rfl) ?_
    refine lv_imul hx hb dX12_watch_136 ?_
    refine lv_iload hx hb dX12_watch_137 (lv_at hl 5 rfl) ?_
    refine lv_iadd hx hb dX12_watch_139 ?_
    replace q := ck_s q
    obtain ⟨hin, q⟩ := q
    refine x_iald hx hb hX M ra_3 (inb_in hin) dX12_watch_140 ?_
    refine lv_iload hx hb dX12_watch_141 (lv_at hl 4 rfl) ?_
    refine lv_icmp_eq (tgt := 152) hx hb dX12_watch_143 (by decide) (fun c_4 => ?_) (fun c_4 => ?_)
    · replace q := if_t c_4 q
      exact w_X12_watch_152 hx hb hml hr hlk hown hX hRf hRl (N := N) hk39 _ _ _ _ _ _ _ _ _ _ M ra0 (lv_sub hl [0, 1, 2, 3, 4, 5] rfl) q
    · replace q := if_f c_4 q
      obtain ⟨x_5, e_x_5⟩ : ∃ y : Int32, y = x5 + 1 := ⟨_, rfl⟩
      replace q := nm_s q e_x_5
      refine lv_iinc (v := x_5) (lv' := [(5, .int x_5), (0, .ref a0), (1, .int x1), (2, .int x2), (3, .int x3), (4, .int x4)]) hx hb dX12_watch_146 hl (k := 5) rfl (by rw [e_x_5]; rfl) (by decide) rfl (fun ls hl => ?_)
      refine lv_goto (tgt := 113) hx hb dX12_watch_149 (by decide) ?_
      exact hk113 _ _ _ _ _ _ _ _ _ _ M ra0 (lv_sub hl [1, 2, 3, 4, 5, 0] rfl) q
set_option maxRecDepth 100000 in
theorem l_X12_watch_113 (hx : p.tables.exec = Jvm.exec) (hb : c.code = cX12_watch) (hml : c.maxLocals = 6) (hr : meth.sig.returnType = (some .int)) (hlk : meth.locks = false) (hown : s.vm.findClass RX12 = some m.cls) (hX : Kx D cA lo tS s) (hRf : 5 ≤ R.frames) (hRl : 300 ≤ R.locals) {N : Nat} {rv : Int32} {g1 : Hg} {S : Hs} {k39 : Hg → Nat → Int32 → Int32 → Int32 → Option (Int32 × Hg)} (hk39 : ∀ (H : Heap) (locs : List Loc) (ls : Array Slot) (g : Hg) (a0 : Nat) (x1 : Int32) (x2 : Int32) (x3 : Int32), Mm D cA lo S g s H locs → Rf lo S a0 12 → lv_has ls 6 [(0, .ref a0), (1, .int x1), (2, .int x2), (3, .int x3)] → k39 g a0 x1 x2 x3 = some (rv, g1) → W p l e R s m args below meth c H locs 0 0 (MQ below (Qcx D cA lo S (some (.int rv)) S g1 True) args s 0 0 (fun q : Nat => lo ≤ q)) (F0 m 39 ls [])) : ∀ (n : Nat), ∀ (H : Heap) (locs : List Loc) (ls : Array Slot) (g : Hg) (a0 : Nat) (x1 : Int32) (x2 : Int32) (x3 : Int32) (x4 : Int32) (x5 : Int32), Mm D cA lo S g s H locs → Rf lo S a0 12 → lv_has ls 6 [(0, .ref a0), (1, .int x1), (2, .int x2), (3, .int x3), (4, .int x4), (5, .int x5)] → n_X12_watch_113 N S k39 n g a0 x1 x2 x3 x4 x5 = some (rv, g1) → W p l e R s m args below meth c H locs 0 0 (MQ below (Qcx D cA lo S (some (.int rv)) S g1 True) args s 0 0 (fun q : Nat => lo ≤ q)) (F0 m 113 ls []) := by
  intro n
  induction n with
  | zero =>
    intro H locs ls g a0 x1 x2 x3 x4 x5 M ra0 hl q
    exact absurd q (by simp [n_X12_watch_113])
  | succ n ih => exact w_X12_watch_113 hx hb hml hr hlk hown hX hRf hRl (N := N) hk39 ih
set_option maxHeartbeats 4000000 in
set_option maxRecDepth 100000 in
theorem w_X12_watch_39 (hx : p.tables.exec = Jvm.exec) (hb : c.code = cX12_watch) (hml : c.maxLocals = 6) (hr : meth.sig.returnType = (some .int)) (hlk : meth.locks = false) (hown : s.vm.findClass RX12 = some m.cls) (hX : Kx D cA lo tS s) (hRf : 5 ≤ R.frames) (hRl : 300 ≤ R.locals) {N : Nat} {rv : Int32} {g1 : Hg} {S : Hs} {k39 : Hg → Nat → Int32 → Int32 → Int32 → Option (Int32 × Hg)} (hk39 : ∀ (H : Heap) (locs : List Loc) (ls : Array Slot) (g : Hg) (a0 : Nat) (x1 : Int32) (x2 : Int32) (x3 : Int32), Mm D cA lo S g s H locs → Rf lo S a0 12 → lv_has ls 6 [(0, .ref a0), (1, .int x1), (2, .int x2), (3, .int x3)] → k39 g a0 x1 x2 x3 = some (rv, g1) → W p l e R s m args below meth c H locs 0 0 (MQ below (Qcx D cA lo S (some (.int rv)) S g1 True) args s 0 0 (fun q : Nat => lo ≤ q)) (F0 m 39 ls [])) : ∀ (H : Heap) (locs : List Loc) (ls : Array Slot) (g : Hg) (a0 : Nat) (x1 : Int32) (x2 : Int32) (x3 : Int32), Mm D cA lo S g s H locs → Rf lo S a0 12 → lv_has ls 6 [(0, .ref a0), (1, .int x1), (2, .int x2), (3, .int x3)] → b_X12_watch_39 N S k39 g a0 x1 x2 x3 = some (rv, g1) → W p l e R s m args below meth c H locs 0 0 (MQ below (Qcx D cA lo S (some (.int rv)) S g1 True) args s 0 0 (fun q : Nat => lo ≤ q)) (F0 m 39 ls []) := by
  intro H locs ls g a0 x1 x2 x3 M ra0 hl q
  unfold b_X12_watch_39 at q
  refine lv_iload_n hx hb dX12_watch_39 rfl (lv_at hl 3 rfl) ?_
  refine lv_aload_n hx hb dX12_watch_40 rfl (lv_at hl 0 rfl) ?_
  refine lv_iload_n hx hb dX12_watch_41 rfl (lv_at hl 2 rfl) ?_
  replace q := c2_s q
  obtain ⟨x_2, g_1, qc, q⟩ := q
  refine x_callV hx hb hml hl.1 hown hX M (S1 := S) (As := [.int x2]) (rest := [.int x3]) okX12 ra0 rfl kw_1225 kw_15 mok_X12_many (c_X12_many ra0 qc (Nat.le_refl 1)) kw_1223 rfl rfl dX12_watch_42 (Nat.le_of_ble_eq_true rfl) ⟨Nat.le_trans (by decide) hRf, Nat.le_trans (by decide) hRl⟩ (Nat.zero_le _) (Nat.zero_le _) (fun H locs M hEF => ?_)
  refine lv_icmp_ge (tgt := 216) hx hb dX12_watch_45 (by decide) (fun c_3 => ?_) (fun c_3 => ?_)
  · replace q := if_t c_3 q
    refine lv_aload_n hx hb dX12_watch_216 rfl (lv_at hl 0 rfl) ?_
    replace q := nn_s q
    obtain ⟨a_4, e_a_4, q⟩ := q
    refine x_getR hx hb hown hX M e_a_4 okX12 ra0 (by decide) rfl kw_1029 dX12_watch_217 (fun ra_4 => ?_)
    refine lv_iconst (v := 5) hx hb dX12_watch_220 (by decide) ?_
    refine lv_iload_n hx hb dX12_watch_221 rfl (lv_at hl 1 rfl) ?_
    refine lv_imul hx hb dX12_watch_222 ?_
    refine lv_iconst (v := 3) hx hb dX12_watch_223 (by decide) ?_
    refine lv_iadd hx hb dX12_watch_224 ?_
    refine lv_aload_n hx hb dX12_watch_225 rfl (lv_at hl 0 rfl) ?_
    refine lv_iload_n hx hb dX12_watch_226 rfl (lv_at hl 2 rfl) ?_
    replace q := c2_s q
    obtain ⟨x_6, g_5, qc, q⟩ := q
    refine x_callV hx hb hml hl.1 hown hX M (S1 := S) (As := [.int x2]) (rest := [.int (((5 : Int32) * x1) + (3 : Int32)), .ref a_4]) okX12 ra0 rfl kw_1225 kw_15 mok_X12_many (c_X12_many ra0 qc (Nat.le_refl 1)) kw_1223 rfl rfl dX12_watch_227 (Nat.le_of_ble_eq_true rfl) ⟨Nat.le_trans (by decide) hRf, Nat.le_trans (by decide) hRl⟩ (Nat.zero_le _) (Nat.zero_le _) (fun H locs M hEF => ?_)
    replace q := ck_s q
    obtain ⟨hin, q⟩ := q
    refine x_iast hx hb hX M ra_4 (inb_in hin) dX12_watch_230 (fun H locs M => ?_)
    replace q := gen_g M q
    obtain ⟨g_7, -, M, q⟩ := q
    refine lv_aload_n hx hb dX12_watch_231 rfl (lv_at hl 0 rfl) ?_
    refine lv_iload_n hx hb dX12_watch_232 rfl (lv_at hl 2 rfl) ?_
    refine lv_aload_n hx hb dX12_watch_233 rfl (lv_at hl 0 rfl) ?_
    refine lv_iload_n hx hb dX12_watch_234 rfl (lv_at hl 2 rfl) ?_
    replace q := c2_s q
    obtain ⟨x_9, g_8, qc, q⟩ := q
    refine x_callV hx hb hml hl.1 hown hX M (S1 := S) (As := [.int x2]) (rest := [.int x2, .ref a0]) okX12 ra0 rfl kw_1225 kw_15 mok_X12_many (c_X12_many ra0 qc (Nat.le_refl 1)) kw_1223 rfl rfl dX12_watch_235 (Nat.le_of_ble_eq_true rfl) ⟨Nat.le_trans (by decide) hRf, Nat.le_trans (by decide) hRl⟩ (Nat.zero_le _) (Nat.zero_le _) (fun H locs M hEF => ?_)
    replace q := c2_s q
    obtain ⟨u_11, g_10, qc, q⟩ := q
    refine x_callV hx hb hml hl.1 hown hX M (S1 := S) (As := [.int x2, .int x_9]) (rest := []) okX12 ra0 rfl kw_1265 kw_19 mok_X12_map (c_X12_map ra0 qc (Nat.le_refl 4)) kw_1263 rfl rfl dX12_watch_238 (Nat.le_of_ble_eq_true rfl) ⟨Nat.le_trans (by decide) hRf, Nat.le_trans (by decide) hRl⟩ (Nat.zero_le _) (Nat.zero_le _) (fun H locs M hEF => ?_)
    refine lv_iconst (v := 0) hx hb dX12_watch_241 (by decide) ?_
    refine lv_istore_n (lv' := [(3, .int (0 : Int32)), (0, .ref a0), (1, .int x1), (2, .int x2)]) hx hb dX12_watch_242 rfl hl (by decide) rfl (fun ls hl => ?_)
    refine lv_iconst (v := 0) hx hb dX12_watch_243 (by decide) ?_
    refine lv_istore (lv' := [(4, .int (0 : Int32)), (3, .int (0 : Int32)), (0, .ref a0), (1, .int x1), (2, .int x2)]) hx hb dX12_watch_244 hl (by decide) rfl (fun ls hl => ?_)
    exact l_X12_watch_246 hx hb hml hr hlk hown hX hRf hRl (N := N)  N _ _ _ _ _ _ _ _ M ra0 (lv_sub hl [2, 3, 1, 0] rfl) q
  · replace q := if_f c_3 q
    refine lv_aload_n hx hb dX12_watch_48 rfl (lv_at hl 0 rfl) ?_
    replace q := nn_s q
    obtain ⟨a_12, e_a_12, q⟩ := q
    refine x_getR hx hb hown hX M e_a_12 okX12 ra0 (by decide) rfl kw_1014 dX12_watch_49 (fun ra_12 => ?_)
    refine lv_sipush (v := 400) hx hb dX12_watch_52 (by decide) ?_
    refine lv_iload_n hx hb dX12_watch_55 rfl (lv_at hl 2 rfl) ?_
    refine lv_imul hx hb dX12_watch_56 ?_
    refine lv_iload_n hx hb dX12_watch_57 rfl (lv_at hl 3 rfl) ?_
    refine lv_iadd hx hb dX12_watch_58 ?_
    replace q := ck_s q
    obtain ⟨hin, q⟩ := q
    refine x_iald hx hb hX M ra_12 (inb_in hin) dX12_watch_59 ?_
    refine lv_topi (fun x_13 e_x_13 => ?_)
    replace q := nm_s q e_x_13
    refine lv_istore (lv' := [(4, .int x_13), (0, .ref a0), (1, .int x1), (2, .int x2), (3, .int x3)]) hx hb dX12_watch_60 hl (by decide) rfl (fun ls hl => ?_)
    refine lv_aload_n hx hb dX12_watch_62 rfl (lv_at hl 1 rfl) ?_
    replace q := nn_s q
    obtain ⟨a_14, e_a_14, q⟩ := q
    refine x_getR hx hb hown hX M e_a_14 okX12 ra0 (by decide) rfl kw_1016 dX12_watch_63 (fun ra_14 => ?_)
    refine lv_sipush (v := 400) hx hb dX12_watch_66 (by decide) ?_
    refine lv_iload_n hx hb dX12_watch_69 rfl (lv_at hl 3 rfl) ?_
    refine lv_imul hx hb dX12_watch_70 ?_
    refine lv_iload_n hx hb dX12_watch_71 rfl (lv_at hl 4 rfl) ?_
    refine lv_iadd hx hb dX12_watch_72 ?_
    replace q := ck_s q
    obtain ⟨hin, q⟩ := q
    refine x_zald hx hb hX M ra_14 (inb_in hin) dX12_watch_73 ?_
    refine lv_if_ne (tgt := 210) hx hb dX12_watch_74 (by decide) (fun c_15 => ?_) (fun c_15 => ?_)
    · replace q := if_f c_15 q
      obtain ⟨x_16, e_x_16⟩ : ∃ y : Int32, y = x3 + 1 := ⟨_, rfl⟩
      replace q := nm_s q e_x_16
      refine lv_iinc (v := x_16) (lv' := [(3, .int x_16), (4, .int x_13), (0, .ref a0), (1, .int x1), (2, .int x2)]) hx hb dX12_watch_210 hl (k := 4) rfl (by rw [e_x_16]; rfl) (by decide) rfl (fun ls hl => ?_)
      refine lv_goto (tgt := 39) hx hb dX12_watch_213 (by decide) ?_
      exact hk39 _ _ _ _ _ _ _ _ M ra0 (lv_sub hl [2, 3, 4, 0] rfl) q
    · replace q := if_t c_15 q
      refine lv_iload hx hb dX12_watch_77 (lv_at hl 0 rfl) ?_
      refine lv_aload_n hx hb dX12_watch_79 rfl (lv_at hl 1 rfl) ?_
      replace q := nn_s q
      obtain ⟨a_17, e_a_17, q⟩ := q
      refine x_getR hx hb hown hX M e_a_17 okX12 ra0 (by decide) rfl kw_1029 dX12_watch_80 (fun ra_17 => ?_)
      refine lv_iconst (v := 5) hx hb dX12_watch_83 (by decide) ?_
      refine lv_iload_n hx hb dX12_watch_84 rfl (lv_at hl 2 rfl) ?_
      refine lv_imul hx hb dX12_watch_85 ?_
      refine lv_iconst (v := 1) hx hb dX12_watch_86 (by decide) ?_
      refine lv_iadd hx hb dX12_watch_87 ?_
      replace q := ck_s q
      obtain ⟨hin, q⟩ := q
      refine x_iald hx hb hX M ra_17 (inb_in hin) dX12_watch_88 ?_
      refine lv_icmp_lt (tgt := 210) hx hb dX12_watch_89 (by decide) (fun c_18 => ?_) (fun c_18 => ?_)
      · replace q := if_t c_18 q
        obtain ⟨x_19, e_x_19⟩ : ∃ y : Int32, y = x3 + 1 := ⟨_, rfl⟩
        replace q := nm_s q e_x_19
        refine lv_iinc (v := x_19) (lv' := [(3, .int x_19), (4, .int x_13), (0, .ref a0), (1, .int x1), (2, .int x2)]) hx hb dX12_watch_210 hl (k := 4) rfl (by rw [e_x_19]; rfl) (by decide) rfl (fun ls hl => ?_)
        refine lv_goto (tgt := 39) hx hb dX12_watch_213 (by decide) ?_
        exact hk39 _ _ _ _ _ _ _ _ M ra0 (lv_sub hl [2, 3, 4, 0] rfl) q
      · replace q := if_f c_18 q
        refine lv_iload hx hb dX12_watch_92 (lv_at hl 0 rfl) ?_
        refine lv_aload_n hx hb dX12_watch_94 rfl (lv_at hl 1 rfl) ?_
        replace q := nn_s q
        obtain ⟨a_20, e_a_20, q⟩ := q
        refine x_getR hx hb hown hX M e_a_20 okX12 ra0 (by decide) rfl kw_1029 dX12_watch_95 (fun ra_20 => ?_)
        refine lv_iconst (v := 5) hx hb dX12_watch_98 (by decide) ?_
        refine lv_iload_n hx hb dX12_watch_99 rfl (lv_at hl 2 rfl) ?_
        refine lv_imul hx hb dX12_watch_100 ?_
        refine lv_iconst (v := 2) hx hb dX12_watch_101 (by decide) ?_
        refine lv_iadd hx hb dX12_watch_102 ?_
        replace q := ck_s q
        obtain ⟨hin, q⟩ := q
        refine x_iald hx hb hX M ra_20 (inb_in hin) dX12_watch_103 ?_
        refine lv_icmp_le (tgt := 110) hx hb dX12_watch_104 (by decide) (fun c_21 => ?_) (fun c_21 => ?_)
        · replace q := if_t c_21 q
          refine lv_iconst (v := 0) hx hb dX12_watch_110 (by decide) ?_
          refine lv_istore (lv' := [(5, .int (0 : Int32)), (4, .int x_13), (0, .ref a0), (1, .int x1), (2, .int x2), (3, .int x3)]) hx hb dX12_watch_111 hl (by decide) rfl (fun ls hl => ?_)
          exact l_X12_watch_113 hx hb hml hr hlk hown hX hRf hRl (N := N) hk39 N _ _ _ _ _ _ _ _ _ _ M ra0 (lv_sub hl [2, 3, 4, 5, 1, 0] rfl) q
        · replace q := if_f c_21 q
          refine lv_goto (tgt := 210) hx hb dX12_watch_107 (by decide) ?_
          obtain ⟨x_22, e_x_22⟩ : ∃ y : Int32, y = x3 + 1 := ⟨_, rfl⟩
          replace q := nm_s q e_x_22
          refine lv_iinc (v := x_22) (lv' := [(3, .int x_22), (4, .int x_13), (0, .ref a0), (1, .int x1), (2, .int x2)]) hx hb dX12_watch_210 hl (k := 4) rfl (by rw [e_x_22]; rfl) (by decide) rfl (fun ls hl => ?_)
          refine lv_goto (tgt := 39) hx hb dX12_watch_213 (by decide) ?_
          exact hk39 _ _ _ _ _ _ _ _ M ra0 (lv_sub hl [2, 3, 4, 0] rfl) q
set_option maxRecDepth 100000 in
theorem l_X12_watch_39 (hx : p.tables.exec = Jvm.exec) (hb : c.code = cX12_watch) (hml : c.maxLocals = 6) (hr : meth.sig.returnType = (some .int)) (hlk : meth.locks = false) (hown : s.vm.findClass RX12 = some m.cls) (hX : Kx D cA lo tS s) (hRf : 5 ≤ R.frames) (hRl : 300 ≤ R.locals) {N : Nat} {rv : Int32} {g1 : Hg} {S : Hs} : ∀ (n : Nat), ∀ (H : Heap) (locs : List Loc) (ls : Array Slot) (g : Hg) (a0 : Nat) (x1 : Int32) (x2 : Int32) (x3 : Int32), Mm D cA lo S g s H locs → Rf lo S a0 12 → lv_has ls 6 [(0, .ref a0), (1, .int x1), (2, .int x2), (3, .int x3)] → n_X12_watch_39 N S n g a0 x1 x2 x3 = some (rv, g1) → W p l e R s m args below meth c H locs 0 0 (MQ below (Qcx D cA lo S (some (.int rv)) S g1 True) args s 0 0 (fun q : Nat => lo ≤ q)) (F0 m 39 ls []) := by
  intro n
  induction n with
  | zero =>
    intro H locs ls g a0 x1 x2 x3 M ra0 hl q
    exact absurd q (by simp [n_X12_watch_39])
  | succ n ih => exact w_X12_watch_39 hx hb hml hr hlk hown hX hRf hRl (N := N)  ih
set_option maxHeartbeats 4000000 in
set_option maxRecDepth 100000 in
theorem w_X12_watch_0 (hx : p.tables.exec = Jvm.exec) (hb : c.code = cX12_watch) (hml : c.maxLocals = 6) (hr : meth.sig.returnType = (some .int)) (hlk : meth.locks = false) (hown : s.vm.findClass RX12 = some m.cls) (hX : Kx D cA lo tS s) (hRf : 5 ≤ R.frames) (hRl : 300 ≤ R.locals) {N : Nat} {rv : Int32} {g1 : Hg} {S : Hs} : ∀ (H : Heap) (locs : List Loc) (ls : Array Slot) (g : Hg) (a0 : Nat) (x1 : Int32), Mm D cA lo S g s H locs → Rf lo S a0 12 → lv_has ls 6 [(0, .ref a0), (1, .int x1)] → b_X12_watch_0 N S g a0 x1 = some (rv, g1) → W p l e R s m args below meth c H locs 0 0 (MQ below (Qcx D cA lo S (some (.int rv)) S g1 True) args s 0 0 (fun q : Nat => lo ≤ q)) (F0 m 0 ls []) := by
  intro H locs ls g a0 x1 M ra0 hl q
  unfold b_X12_watch_0 at q
  refine lv_aload_n hx hb dX12_watch_0 rfl (lv_at hl 0 rfl) ?_
  refine lv_iload_n hx hb dX12_watch_1 rfl (lv_at hl 1 rfl) ?_
  replace q := c2_s q
  obtain ⟨x_2, g_1, qc, q⟩ := q
  refine x_callV hx hb hml hl.1 hown hX M (S1 := S) (As := [.int x1]) (rest := []) okX12 ra0 rfl kw_1483 kw_51 mok_X12_isWatcher (c_X12_isWatcher ra0 qc (Nat.le_refl 1)) kw_1481 rfl rfl dX12_watch_2 (Nat.le_of_ble_eq_true rfl) ⟨Nat.le_trans (by decide) hRf, Nat.le_trans (by decide) hRl⟩ (Nat.zero_le _) (Nat.zero_le _) (fun H locs M hEF => ?_)
  refine lv_if_eq (tgt := 17) hx hb dX12_watch_5 (by decide) (fun c_3 => ?_) (fun c_3 => ?_)
  · replace q := if_t c_3 q
    refine lv_iconst (v := -1) hx hb dX12_watch_17 (by decide) ?_
    cases q
    exact x_iret hx hb hr hlk M Ext.rf dX12_watch_18
  · replace q := if_f c_3 q
    refine lv_aload_n hx hb dX12_watch_8 rfl (lv_at hl 0 rfl) ?_
    replace q := nn_s q
    obtain ⟨a_4, e_a_4, q⟩ := q
    refine x_getR hx hb hown hX M e_a_4 okX12 ra0 (by decide) rfl kw_1030 dX12_watch_9 (fun ra_4 => ?_)
    refine lv_iload_n hx hb dX12_watch_12 rfl (lv_at hl 1 rfl) ?_
    replace q := ck_s q
    obtain ⟨hin, q⟩ := q
    refine x_zald hx hb hX M ra_4 (inb_in hin) dX12_watch_13 ?_
    refine lv_if_ne (tgt := 19) hx hb dX12_watch_14 (by decide) (fun c_5 => ?_) (fun c_5 => ?_)
    · replace q := if_f c_5 q
      refine lv_aload_n hx hb dX12_watch_19 rfl (lv_at hl 0 rfl) ?_
      replace q := nn_s q
      obtain ⟨a_6, e_a_6, q⟩ := q
      refine x_getR hx hb hown hX M e_a_6 okX12 ra0 (by decide) rfl kw_1029 dX12_watch_20 (fun ra_6 => ?_)
      refine lv_iconst (v := 5) hx hb dX12_watch_23 (by decide) ?_
      refine lv_iload_n hx hb dX12_watch_24 rfl (lv_at hl 1 rfl) ?_
      refine lv_imul hx hb dX12_watch_25 ?_
      replace q := ck_s q
      obtain ⟨hin, q⟩ := q
      refine x_iald hx hb hX M ra_6 (inb_in hin) dX12_watch_26 ?_
      refine lv_topi (fun x_7 e_x_7 => ?_)
      replace q := nm_s q e_x_7
      refine lv_istore_n (lv' := [(2, .int x_7), (0, .ref a0), (1, .int x1)]) hx hb dX12_watch_27 rfl hl (by decide) rfl (fun ls hl => ?_)
      refine lv_aload_n hx hb dX12_watch_28 rfl (lv_at hl 1 rfl) ?_
      replace q := nn_s q
      obtain ⟨a_8, e_a_8, q⟩ := q
      refine x_getR hx hb hown hX M e_a_8 okX12 ra0 (by decide) rfl kw_1029 dX12_watch_29 (fun ra_8 => ?_)
      refine lv_iconst (v := 5) hx hb dX12_watch_32 (by decide) ?_
      refine lv_iload_n hx hb dX12_watch_33 rfl (lv_at hl 2 rfl) ?_
      refine lv_imul hx hb dX12_watch_34 ?_
      refine lv_iconst (v := 3) hx hb dX12_watch_35 (by decide) ?_
      refine lv_iadd hx hb dX12_watch_36 ?_
      replace q := ck_s q
      obtain ⟨hin, q⟩ := q
      refine x_iald hx hb hX M ra_8 (inb_in hin) dX12_watch_37 ?_
      refine lv_topi (fun x_9 e_x_9 => ?_)
      replace q := nm_s q e_x_9
      refine lv_istore_n (lv' := [(3, .int x_9), (2, .int x_7), (0, .ref a0), (1, .int x1)]) hx hb dX12_watch_38 rfl hl (by decide) rfl (fun ls hl => ?_)
      exact l_X12_watch_39 hx hb hml hr hlk hown hX hRf hRl (N := N)  N _ _ _ _ _ _ _ _ M ra0 (lv_sub hl [2, 3, 1, 0] rfl) q
    · replace q := if_t c_5 q
      refine lv_iconst (v := -1) hx hb dX12_watch_17 (by decide) ?_
      cases q
      exact x_iret hx hb hr hlk M Ext.rf dX12_watch_18
set_option maxRecDepth 100000 in
theorem c_X12_watch {l : Launch} {D : va_G} {cA : Nat → ClassId} {lo tS N : Nat} {S : Hs} {g g1 : Hg} {rv : Int32} {a0 : Nat} {x1 : Int32} (ra0 : Rf lo S a0 12) (q : f_X12_watch N S g a0 x1 = some (rv, g1)) {d : Nat} (hd : 5 ≤ d) : Ctr l yX12_watch cX12_watch 6 (some .int) D cA lo tS [.ref a0, .int x1] S g d (some (.int rv)) S g1 True 0 0 := by
  refine x_met (by decide) (Nat.le_of_ble_eq_true rfl) ?_
  intro p e s m below meth c ls hx hb hml hr hlk hown hnm hX M hl
  exact w_X12_watch_0 hx hb hml hr hlk hown hX hd (Nat.mul_le_mul_left 60 hd) (N := N) _ _ _ _ _ _ M ra0 (lv_sub hl [0, 1] rfl) q
def b_X12_watcher_0 (N : Nat) (S : Hs) (g : Hg) (a0 : Nat) (x1 : Int32) (x2 : Int32) (x3 : Int32) (x4 : Int32) : Option (Int32 × Hg) :=
c2 (f_X12_isWatcher N S g a0 x1) (fun x_2 g_1 =>
if x_2 = 0 then (
some ((0 : Int32), g_1)) else (
c2 (f_X12_isLog N S g_1 a0 x2) (fun x_5 g_4 =>
if x_5 = 0 then (
some ((0 : Int32), g_4)) else (
nn (rdR g_4 a0 18) (fun a_7 =>
ck (inb x1 (hpL S a_7)) (
nm (wrI g_4 a_7 x1.toNatClampNeg (1 : Int32)) (fun g_8 =>
nn (rdR g_8 a0 17) (fun a_9 =>
ck (inb ((5 : Int32) * x1) (hpL S a_9)) (
nm (wrI g_8 a_9 ((5 : Int32) * x1).toNatClampNeg x2) (fun g_10 =>
nn (rdR g_10 a0 17) (fun a_11 =>
ck (inb (((5 : Int32) * x1) + (1 : Int32)) (hpL S a_11)) (
nm (wrI g_10 a_11 (((5 : Int32) * x1) + (1 : Int32)).toNatClampNeg x3) (fun g_12 =>
nn (rdR g_12 a0 17) (fun a_13 =>
ck (inb (((5 : Int32) * x1) + (2 : Int32)) (hpL S a_13)) (
nm (wrI g_12 a_13 (((5 : Int32) * x1) + (2 : Int32)).toNatClampNeg x4) (fun g_14 =>
nn (rdR g_14 a0 17) (fun a_15 =>
ck (inb (((5 : Int32) * x1) + (3 : Int32)) (hpL S a_15)) (
nm (wrI g_14 a_15 (((5 : Int32) * x1) + (3 : Int32)).toNatClampNeg (0 : Int32)) (fun g_16 =>
nn (rdR g_16 a0 17) (fun a_17 =>
ck (inb (((5 : Int32) * x1) + (4 : Int32)) (hpL S a_17)) (
nm (wrI g_16 a_17 (((5 : Int32) * x1) + (4 : Int32)).toNatClampNeg (0 : Int32)) (fun g_18 =>
some ((1 : Int32), g_18)))))))))))))))))))))))
def f_X12_watcher (N : Nat) (S : Hs) (g : Hg) (a0 : Nat) (x1 : Int32) (x2 : Int32) (x3 : Int32) (x4 : Int32) : Option (Int32 × Hg) := b_X12_watcher_0 N S g a0 x1 x2 x3 x4
set_option maxHeartbeats 4000000 in
set_option maxRecDepth 100000 in
theorem w_X12_watcher_0 (hx : p.tables.exec = Jvm.exec) (hb : c.code = cX12_watcher) (hml : c.maxLocals = 5) (hr : meth.sig.returnType = (some .boolean)) (hlk : meth.locks = false) (hown : s.vm.findClass RX12 = some m.cls) (hX : Kx D cA lo tS s) (hRf : 2 ≤ R.frames) (hRl : 120 ≤ R.locals) {N : Nat} {rv : Int32} {g1 : Hg} {S : Hs} : ∀ (H : Heap) (locs : List Loc) (ls : Array Slot) (g : Hg) (a0 : Nat) (x1 : Int32) (x2 : Int32) (x3 : Int32) (x4 : Int32), Mm D cA lo S g s H locs → Rf lo S a0 12 → lv_has ls 5 [(0, .ref a0), (1, .int x1), (2, .int x2), (3, .int x3), (4, .int x4)] → b_X12_watcher_0 N S g a0 x1 x2 x3 x4 = some (rv, g1) → W p l e R s m args below meth c H locs 0 0 (MQ below (Qcx D cA lo S (some (.int rv)) S g1 True) args s 0 0 (fun q : Nat => lo ≤ q)) (F0 m 0 ls []) := by
  intro H locs ls g a0 x1 x2 x3 x4 M ra0 hl q
  unfold b_X12_watcher_0 at q
  refine lv_aload_n hx hb dX12_watcher_0 rfl (lv_at hl 0 rfl) ?_
  refine lv_iload_n hx hb dX12_watcher_1 rfl (lv_at hl 1 rfl) ?_
  replace q := c2_s q
  obtain ⟨x_2, g_1, qc, q⟩ := q
  refine x_callV hx hb hml hl.1 hown hX M (S1 := S) (As := [.int x1]) (rest := []) okX12 ra0 rfl kw_1483 kw_51 mok_X12_isWatcher (c_X12_isWatcher ra0 qc (Nat.le_refl 1)) kw_1481 rfl rfl dX12_watcher_2 (Nat.le_of_ble_eq_true rfl) ⟨Nat.le_trans (by decide) hRf, Nat.le_trans (by decide) hRl⟩ (Nat.zero_le _) (Nat.zero_le _) (fun H locs M hEF => ?_)
  refine lv_if_eq (tgt := 16) hx hb dX12_watcher_5 (by decide) (fun c_3 => ?_) (fun c_3 => ?_)
  · replace q := if_t c_3 q
    refine lv_iconst (v := 0) hx hb dX12_watcher_16 (by decide) ?_
    cases q
    exact x_zret hx hb hr hlk rfl M Ext.rf dX12_watcher_17
  · replace q := if_f c_3 q
    refine lv_aload_n hx hb dX12_watcher_8 rfl (lv_at hl 0 rfl) ?_
    refine lv_iload_n hx hb dX12_watcher_9 rfl (lv_at hl 2 rfl) ?_
    replace q := c2_s q
    obtain ⟨x_5, g_4, qc, q⟩ := q
    refine x_callV hx hb hml hl.1 hown hX M (S1 := S) (As := [.int x2]) (rest := []) okX12 ra0 rfl kw_1221 kw_14 mok_X12_isLog (c_X12_isLog ra0 qc (Nat.le_refl 1)) kw_1219 rfl rfl dX12_watcher_10 (Nat.le_of_ble_eq_true rfl) ⟨Nat.le_trans (by decide) hRf, Nat.le_trans (by decide) hRl⟩ (Nat.zero_le _) (Nat.zero_le _) (fun H locs M hEF => ?_)
    refine lv_if_ne (tgt := 18) hx hb dX12_watcher_13 (by decide) (fun c_6 => ?_) (fun c_6 => ?_)
    · replace q := if_f c_6 q
      refine lv_aload_n hx hb dX12_watcher_18 rfl (lv_at hl 0 rfl) ?_
      replace q := nn_s q
      obtain ⟨a_7, e_a_7, q⟩ := q
      refine x_getR hx hb hown hX M e_a_7 okX12 ra0 (by decide) rfl kw_1030 dX12_watcher_19 (fun ra_7 => ?_)
      refine lv_iload_n hx hb dX12_watcher_22 rfl (lv_at hl 1 rfl) ?_
      refine lv_iconst (v := 1) hx hb dX12_watcher_23 (by decide) ?_
      replace q := ck_s q
      obtain ⟨hin, q⟩ := q
      refine x_zast hx hb hX M ra_7 rfl (inb_in hin) dX12_watcher_24 (fun H locs M => ?_)
      replace q := gen_g M q
      obtain ⟨g_8, -, M, q⟩ := q
      refine lv_aload_n hx hb dX12_watcher_25 rfl (lv_at hl 0 rfl) ?_
      replace q := nn_s q
      obtain ⟨a_9, e_a_9, q⟩ := q
      refine x_getR hx hb hown hX M e_a_9 okX12 ra0 (by decide) rfl kw_1029 dX12_watcher_26 (fun ra_9 => ?_)
      refine lv_iconst (v := 5) hx hb dX12_watcher_29 (by decide) ?_
      refine lv_iload_n hx hb dX12_watcher_30 rfl (lv_at hl 1 rfl) ?_
      refine lv_imul hx hb dX12_watcher_31 ?_
      refine lv_iload_n hx hb dX12_watcher_32 rfl (lv_at hl 2 rfl) ?_
      replace q := ck_s q
      obtain ⟨hin, q⟩ := q
      refine x_iast hx hb hX M ra_9 (inb_in hin) dX12_watcher_33 (fun H locs M => ?_)
      replace q := gen_g M q
      obtain ⟨g_10, -, M, q⟩ := q
      refine lv_aload_n hx hb dX12_watcher_34 rfl (lv_at hl 0 rfl) ?_
      replace q := nn_s q
      obtain ⟨a_11, e_a_11, q⟩ := q
      refine x_getR hx hb hown hX M e_a_11 okX12 ra0 (by decide) rfl kw_1029 dX12_watcher_35 (fun ra_11 => ?_)
      refine lv_iconst (v := 5) hx hb dX12_watcher_38 (by decide) ?_
      refine lv_iload_n hx hb dX12_watcher_39 rfl (lv_at hl 1 rfl) ?_
      refine lv_imul hx hb dX12_watcher_40 ?_
      refine lv_iconst (v := 1) hx hb dX12_watcher_41 (by decide) ?_
      refine lv_iadd hx hb dX12_watcher_42 ?_
      refine lv_iload_n hx hb dX12_watcher_43 rfl (lv_at hl 3 rfl) ?_
      replace q := ck_s q
      obtain ⟨hin, q⟩ := q
      refine x_iast hx hb hX M ra_11 (inb_in hin) dX12_watcher_44 (fun H locs M => ?_)
      replace q := gen_g M q
      obtain ⟨g_12, -, M, q⟩ := q
      refine lv_aload_n hx hb dX12_watcher_45 rfl (lv_at hl 0 rfl) ?_
      replace q := nn_s q
      obtain ⟨a_13, e_a_13, q⟩ := q
      refine x_getR hx hb hown hX M e_a_13 okX12 ra0 (by decide) rfl kw_1029 dX12_watcher_46 (fun ra_13 => ?_)
      refine lv_iconst (v := 5) hx hb dX12_watcher_49 (by decide) ?_
      refine lv_iload_n hx hb dX12_watcher_50 rfl (lv_at hl 1 rfl) ?_
      refine lv_imul hx hb dX12_watcher_51 ?_
      refine lv_iconst (v := 2) hx hb dX12_watcher_52 (by decide) ?_
      refine lv_iadd hx hb dX12_watcher_53 ?_
      refine lv_iload hx hb dX12_watcher_54 (lv_at hl 4 rfl) ?_
      replace q := ck_s q
      obtain ⟨hin, q⟩ := q
      refine x_iast hx hb hX M ra_13 (inb_in hin) dX12_watcher_56 (fun H locs M => ?_)
      replace q := gen_g M q
      obtain ⟨g_14, -, M, q⟩ := q
      refine lv_aload_n hx hb dX12_watcher_57 rfl (lv_at hl 0 rfl) ?_
      replace q := nn_s q
      obtain ⟨a_15, e_a_15, q⟩ := q
      refine x_getR hx hb hown hX M e_a_15 okX12 ra0 (by decide) rfl kw_1029 dX12_watcher_58 (fun ra_15 => ?_)
      refine lv_iconst (v := 5) hx hb dX12_watcher_61 (by decide) ?_
      refine lv_iload_n hx hb dX12_watcher_62 rfl (lv_at hl 1 rfl) ?_
      refine lv_imul hx hb dX12_watcher_63 ?_
      refine lv_iconst (v := 3) hx hb dX12_watcher_64 (by decide) ?_
      refine lv_iadd hx hb dX12_watcher_65 ?_
      refine lv_iconst (v := 0) hx hb dX12_watcher_66 (by decide) ?_
      replace q := ck_s q
      obtain ⟨hin, q⟩ := q
      refine x_iast hx hb hX M ra_15 (inb_in hin) dX12_watcher_67 (fun H locs M => ?_)
      replace q := gen_g M q
      obtain ⟨g_16, -, M, q⟩ := q
      refine lv_aload_n hx hb dX12_watcher_68 rfl (lv_at hl 0 rfl) ?_
      replace q := nn_s q
      obtain ⟨a_17, e_a_17, q⟩ := q
      refine x_getR hx hb hown hX M e_a_17 okX12 ra0 (by decide) rfl kw_1029 dX12_watcher_69 (fun ra_17 => ?_)
      refine lv_iconst (v := 5) hx hb dX12_watcher_72 (by decide) ?_
      refine lv_iload_n hx hb dX12_watcher_73 rfl (lv_at hl 1 rfl) ?_
      refine lv_imul hx hb dX12_watcher_74 ?_
      refine lv_iconst (v := 4) hx hb dX12_watcher_75 (by decide) ?_
      refine lv_iadd hx hb dX12_watcher_76 ?_
      refine lv_iconst (v := 0) hx hb dX12_watcher_77 (by decide) ?_
      replace q := ck_s q
      obtain ⟨hin, q⟩ := q
      refine x_iast hx hb hX M ra_17 (inb_in hin) dX12_watcher_78 (fun H locs M => ?_)
      replace q := gen_g M q
      obtain ⟨g_18, -, M, q⟩ := q
      refine lv_iconst (v := 1) hx hb dX12_watcher_79 (by decide) ?_
      cases q
      exact x_zret hx hb hr hlk rfl M Ext.rf dX12_watcher_80
    · replace q := if_t c_6 q
      refine lv_iconst (v := 0) hx hb dX12_watcher_16 (by decide) ?_
      cases q
      exact x_zret hx hb hr hlk rfl M Ext.rf dX12_watcher_17
set_option maxRecDepth 100000 in
theorem c_X12_watcher {l : Launch} {D : va_G} {cA : Nat → ClassId} {lo tS N : Nat} {S : Hs} {g g1 : Hg} {rv : Int32} {a0 : Nat} {x1 : Int32} {x2 : Int32} {x3 : Int32} {x4 : Int32} (ra0 : Rf lo S a0 12) (q : f_X12_watcher N S g a0 x1 x2 x3 x4 = some (rv, g1)) {d : Nat} (hd : 2 ≤ d) : Ctr l yX12_watcher cX12_watcher 5 (some .boolean) D cA lo tS [.ref a0, .int x1, .int x2, .int x3, .int x4] S g d (some (.int rv)) S g1 True 0 0 := by
  refine x_met (by decide) (Nat.le_of_ble_eq_true rfl) ?_
  intro p e s m below meth c ls hx hb hml hr hlk hown hnm hX M hl
  exact w_X12_watcher_0 hx hb hml hr hlk hown hX hd (Nat.mul_le_mul_left 60 hd) (N := N) _ _ _ _ _ _ _ _ _ M ra0 (lv_sub hl [0, 1, 2, 3, 4] rfl) q
def b_X12_watching_0 (N : Nat) (S : Hs) (g : Hg) (a0 : Nat) (x1 : Int32) (x2 : Int32) : Option (Int32 × Hg) :=
c2 (f_X12_isWatcher N S g a0 x1) (fun x_2 g_1 =>
if x_2 = 0 then (
some ((-1 : Int32), g_1)) else (
nn (rdR g_1 a0 18) (fun a_4 =>
ck (inb x1 (hpL S a_4)) (
if (rdI g_1 a_4 x1.toNatClampNeg) = 0 then (
some ((-1 : Int32), g_1)) else (
if x2 = 0 then (
nn (rdR g_1 a0 17) (fun a_11 =>
ck (inb (((5 : Int32) * x1) + (3 : Int32)) (hpL S a_11)) (
some ((rdI g_1 a_11 (((5 : Int32) * x1) + (3 : Int32)).toNatClampNeg), g_1)))) else (
if x2 = (1 : Int32) then (
nn (rdR g_1 a0 17) (fun a_10 =>
ck (inb (((5 : Int32) * x1) + (4 : Int32)) (hpL S a_10)) (
some ((rdI g_1 a_10 (((5 : Int32) * x1) + (4 : Int32)).toNatClampNeg), g_1)))) else (
if x2 = (2 : Int32) then (
nn (rdR g_1 a0 17) (fun a_9 =>
ck (inb ((5 : Int32) * x1) (hpL S a_9)) (
some ((rdI g_1 a_9 ((5 : Int32) * x1).toNatClampNeg), g_1)))) else (
some ((-1 : Int32), g_1)))))))))
def f_X12_watching (N : Nat) (S : Hs) (g : Hg) (a0 : Nat) (x1 : Int32) (x2 : Int32) : Option (Int32 × Hg) := b_X12_watching_0 N S g a0 x1 x2
set_option maxHeartbeats 4000000 in
set_option maxRecDepth 100000 in
theorem w_X12_watching_0 (hx : p.tables.exec = Jvm.exec) (hb : c.code = cX12_watching) (hml : c.maxLocals = 3) (hr : meth.sig.returnType = (some .int)) (hlk : meth.locks = false) (hown : s.vm.findClass RX12 = some m.cls) (hX : Kx D cA lo tS s) (hRf : 2 ≤ R.frames) (hRl : 120 ≤ R.locals) {N : Nat} {rv : Int32} {g1 : Hg} {S : Hs} : ∀ (H : Heap) (locs : List Loc) (ls : Array Slot) (g : Hg) (a0 : Nat) (x1 : Int32) (x2 : Int32), Mm D cA lo S g s H locs → Rf lo S a0 12 → lv_has ls 3 [(0, .ref a0), (1, .int x1), (2, .int x2)] → b_X12_watching_0 N S g a0 x1 x2 = some (rv, g1) → W p l e R s m args below meth c H locs 0 0 (MQ below (Qcx D cA lo S (some (.int rv)) S g1 True) args s 0 0 (fun q : Nat => lo ≤ q)) (F0 m 0 ls []) := by
  intro H locs ls g a0 x1 x2 M ra0 hl q
  unfold b_X12_watching_0 at q
  refine lv_aload_n hx hb dX12_watching_0 rfl (lv_at hl 0 rfl) ?_
  refine lv_iload_n hx hb dX12_watching_1 rfl (lv_at hl 1 rfl) ?_
  replace q := c2_s q
  obtain ⟨x_2, g_1, qc, q⟩ := q
  refine x_callV hx hb hml hl.1 hown hX M (S1 := S) (As := [.int x1]) (rest := []) okX12 ra0 rfl kw_1483 kw_51 mok_X12_isWatcher (c_X12_isWatcher ra0 qc (Nat.le_refl 1)) kw_1481 rfl rfl dX12_watching_2 (Nat.le_of_ble_eq_true rfl) ⟨Nat.le_trans (by decide) hRf, Nat.le_trans (by decide) hRl⟩ (Nat.zero_le _) (Nat.zero_le _) (fun H locs M hEF => ?_)
  refine lv_if_eq (tgt := 17) hx hb dX12_watching_5 (by decide) (fun c_3 => ?_) (fun c_3 => ?_)
  · replace q := if_t c_3 q
    refine lv_iconst (v := -1) hx hb dX12_watching_17 (by decide) ?_
    cases q
    exact x_iret hx hb hr hlk M Ext.rf dX12_watching_18
  · replace q := if_f c_3 q
    refine lv_aload_n hx hb dX12_watching_8 rfl (lv_at hl 0 rfl) ?_
    replace q := nn_s q
    obtain ⟨a_4, e_a_4, q⟩ := q
    refine x_getR hx hb hown hX M e_a_4 okX12 ra0 (by decide) rfl kw_1030 dX12_watching_9 (fun ra_4 => ?_)
    refine lv_iload_n hx hb dX12_watching_12 rfl (lv_at hl 1 rfl) ?_
    replace q := ck_s q
    obtain ⟨hin, q⟩ := q
    refine x_zald hx hb hX M ra_4 (inb_in hin) dX12_watching_13 ?_
    refine lv_if_ne (tgt := 19) hx hb dX12_watching_14 (by decide) (fun c_5 => ?_) (fun c_5 => ?_)
    · replace q := if_f c_5 q
      refine lv_iload_n hx hb dX12_watching_19 rfl (lv_at hl 2 rfl) ?_
      refine lv_if_ne (tgt := 36) hx hb dX12_watching_20 (by decide) (fun c_6 => ?_) (fun c_6 => ?_)
      · replace q := if_f c_6 q
        refine lv_iload_n hx hb dX12_watching_36 rfl (lv_at hl 2 rfl) ?_
        refine lv_iconst (v := 1) hx hb dX12_watching_37 (by decide) ?_
        refine lv_icmp_ne (tgt := 54) hx hb dX12_watching_38 (by decide) (fun c_7 => ?_) (fun c_7 => ?_)
        · replace q := if_f c_7 q
          refine lv_iload_n hx hb dX12_watching_54 rfl (lv_at hl 2 rfl) ?_
          refine lv_iconst (v := 2) hx hb dX12_watching_55 (by decide) ?_
          refine lv_icmp_ne (tgt := 70) hx hb dX12_watching_56 (by decide) (fun c_8 => ?_) (fun c_8 => ?_)
          · replace q := if_f c_8 q
            refine lv_iconst (v := -1) hx hb dX12_watching_70 (by decide) ?_
            cases q
            exact x_iret hx hb hr hlk M Ext.rf dX12_watching_71
          · replace q := if_t c_8 q
            refine lv_aload_n hx hb dX12_watching_59 rfl (lv_at hl 0 rfl) ?_
            replace q := nn_s q
            obtain ⟨a_9, e_a_9, q⟩ := q
            refine x_getR hx hb hown hX M e_a_9 okX12 ra0 (by decide) rfl kw_1029 dX12_watching_60 (fun ra_9 => ?_)
            refine lv_iconst (v := 5) hx hb dX12_watching_63 (by decide) ?_
            refine lv_iload_n hx hb dX12_watching_64 rfl (lv_at hl 1 rfl) ?_
            refine lv_imul hx hb dX12_watching_65 ?_
            replace q := ck_s q
            obtain ⟨hin, q⟩ := q
            refine x_iald hx hb hX M ra_9 (inb_in hin) dX12_watching_66 ?_
            refine lv_goto (tgt := 71) hx hb dX12_watching_67 (by decide) ?_
            cases q
            exact x_iret hx hb hr hlk M Ext.rf dX12_watching_71
        · replace q := if_t c_7 q
          refine lv_aload_n hx hb dX12_watching_41 rfl (lv_at hl 0 rfl) ?_
          replace q := nn_s q
          obtain ⟨a_10, e_a_10, q⟩ := q
          refine x_getR hx hb hown hX M e_a_10 okX12 ra0 (by decide) rfl kw_1029 dX12_watching_42 (fun ra_10 => ?_)
          refine lv_iconst (v := 5) hx hb dX12_watching_45 (by decide) ?_
          refine lv_iload_n hx hb dX12_watching_46 rfl (lv_at hl 1 rfl) ?_
          refine lv_imul hx hb dX12_watching_47 ?_
          refine lv_iconst (v := 4) hx hb dX12_watching_48 (by decide) ?_
          refine lv_iadd hx hb dX12_watching_49 ?_
          replace q := ck_s q
          obtain ⟨hin, q⟩ := q
          refine x_iald hx hb hX M ra_10 (inb_in hin) dX12_watching_50 ?_
          refine lv_goto (tgt := 71) hx hb dX12_watching_51 (by decide) ?_
          cases q
          exact x_iret hx hb hr hlk M Ext.rf dX12_watching_71
      · replace q := if_t c_6 q
        refine lv_aload_n hx hb dX12_watching_23 rfl (lv_at hl 0 rfl) ?_
        replace q := nn_s q
        obtain ⟨a_11, e_a_11, q⟩ := q
        refine x_getR hx hb hown hX M e_a_11 okX12 ra0 (by decide) rfl kw_1029 dX12_watching_24 (fun ra_11 => ?_)
        refine lv_iconst (v := 5) hx hb dX12_watching_27 (by decide) ?_
        refine lv_iload_n hx hb dX12_watching_28 rfl (lv_at hl 1 rfl) ?_
        refine lv_imul hx hb dX12_watching_29 ?_
        refine lv_iconst (v := 3) hx hb dX12_watching_30 (by decide) ?_
        refine lv_iadd hx hb dX12_watching_31 ?_
        replace q := ck_s q
        obtain ⟨hin, q⟩ := q
        refine x_iald hx hb hX M ra_11 (inb_in hin) dX12_watching_32 ?_
        refine lv_goto (tgt := 71) hx hb dX12_watching_33 (by decide) ?_
        cases q
        exact x_iret hx hb hr hlk M Ext.rf dX12_watching_71
    · replace q := if_t c_5 q
      refine lv_iconst (v := -1) hx hb dX12_watching_17 (by decide) ?_
      cases q
      exact x_iret hx hb hr hlk M Ext.rf dX12_watching_18
set_option maxRecDepth 100000 in
theorem c_X12_watching {l : Launch} {D : va_G} {cA : Nat → ClassId} {lo tS N : Nat} {S : Hs} {g g1 : Hg} {rv : Int32} {a0 : Nat} {x1 : Int32} {x2 : Int32} (ra0 : Rf lo S a0 12) (q : f_X12_watching N S g a0 x1 x2 = some (rv, g1)) {d : Nat} (hd : 2 ≤ d) : Ctr l yX12_watching cX12_watching 3 (some .int) D cA lo tS [.ref a0, .int x1, .int x2] S g d (some (.int rv)) S g1 True 0 0 := by
  refine x_met (by decide) (Nat.le_of_ble_eq_true rfl) ?_
  intro p e s m below meth c ls hx hb hml hr hlk hown hnm hX M hl
  exact w_X12_watching_0 hx hb hml hr hlk hown hX hd (Nat.mul_le_mul_left 60 hd) (N := N) _ _ _ _ _ _ _ M ra0 (lv_sub hl [0, 1, 2] rfl) q
end W20
