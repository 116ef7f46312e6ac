section W17
variable {p : Program} {l : Launch} {e : Env} {R : Room} {s : State} {m : MethodId} {args : Array Value} {below : List Frame} {meth : Method} {c : Code} {D : va_G} {cA : Nat → ClassId} {lo tS : Nat}
def b_X12_held_0 (N : Nat) (S : Hs) (g : Hg) (a0 : Nat) (x1 : Int32) (x2 : Int32) (x3 : Int32) (x4 : Int32) : Option (Int32 × Hg) :=
c2 (f_X12_isSlot N S g a0 x1) (fun x_2 g_1 =>
if x_2 = 0 then (
some ((-1 : Int32), g_1)) else (
c2 (f_X12_isCount N S g_1 a0 x2 x3) (fun x_5 g_4 =>
if x_5 = 0 then (
some ((-1 : Int32), g_4)) else (
c2 (f_X12_map N S g_4 a0 x2 x3) (fun u_8 g_7 =>
c2 (f_X12_find N S g_7 a0 x4) (fun x_10 g_9 =>
if x_10 = (-1 : Int32) then (
some ((-1 : Int32), g_9)) else (
c2 (f_X12_begin N S g_9 a0 x1 (3 : Int32) x3 (0 : Int32) (0 : Int32)) (fun u_13 g_12 =>
nn (rdR g_12 a0 10) (fun a_14 =>
ck (inb ((40 : Int32) * x1) (hpL S a_14)) (
nm (wrI g_12 a_14 ((40 : Int32) * x1).toNatClampNeg x4) (fun g_15 =>
nn (rdR g_15 a0 9) (fun a_16 =>
nn (rdR g_15 a0 53) (fun a_17 =>
ck (inb x_10 (hpL S a_17)) (
ck (inb (((8 : Int32) * x1) + (5 : Int32)) (hpL S a_16)) (
nm (wrI g_15 a_16 (((8 : Int32) * x1) + (5 : Int32)).toNatClampNeg (rdI g_15 a_17 x_10.toNatClampNeg)) (fun g_18 =>
c2 (f_X12_follow N S g_18 a0 x1 x4) (fun u_20 g_19 =>
nn (rdR g_19 a0 9) (fun a_21 =>
ck (inb (((8 : Int32) * x1) + (1 : Int32)) (hpL S a_21)) (
some ((rdI g_19 a_21 (((8 : Int32) * x1) + (1 : Int32)).toNatClampNeg), g_19))))))))))))))))))))
def f_X12_held (N : Nat) (S : Hs) (g : Hg) (a0 : Nat) (x1 : Int32) (x2 : Int32) (x3 : Int32) (x4 : Int32) : Option (Int32 × Hg) := b_X12_held_0 N S g a0 x1 x2 x3 x4
set_option maxHeartbeats 4000000 in
set_option maxRecDepth 100000 in
theorem w_X12_held_0 (hx : p.tables.exec = Jvm.exec) (hb : c.code = cX12_held) (hml : c.maxLocals = 6) (hr : meth.sig.returnType = (some .int)) (hlk : meth.locks = false) (hown : s.vm.findClass RX12 = some m.cls) (hX : Kx D cA lo tS s) (hRf : 306 ≤ R.frames) (hRl : 18360 ≤ R.locals) {N : Nat} {rv : Int32} {g1 : Hg} {S : Hs} : ∀ (H : Heap) (locs : List Loc) (ls : Array Slot) (g : Hg) (a0 : Nat) (x1 : Int32) (x2 : Int32) (x3 : Int32) (x4 : Int32), Mm D cA lo S g s H locs → Rf lo S a0 12 → lv_has ls 6 [(0, .ref a0), (1, .int x1), (2, .int x2), (3, .int x3), (4, .int x4)] → b_X12_held_0 N S g a0 x1 x2 x3 x4 = some (rv, g1) → W p l e R s m args below meth c H locs 0 0 (MQ below (Qcx D cA lo S (some (.int rv)) S g1 True) args s 0 0 (fun q : Nat => lo ≤ q)) (F0 m 0 ls []) := by
  intro H locs ls g a0 x1 x2 x3 x4 M ra0 hl q
  unfold b_X12_held_0 at q
  refine lv_aload_n hx hb dX12_held_0 rfl (lv_at hl 0 rfl) ?_
  refine lv_iload_n hx hb dX12_held_1 rfl (lv_at hl 1 rfl) ?_
  replace q := c2_s q
  obtain ⟨x_2, g_1, qc, q⟩ := q
  refine x_callV hx hb hml hl.1 hown hX M (S1 := S) (As := [.int x1]) (rest := []) okX12 ra0 rfl kw_1357 kw_37 mok_X12_isSlot (c_X12_isSlot ra0 qc (Nat.le_refl 1)) kw_1355 rfl rfl dX12_held_2 (Nat.le_of_ble_eq_true rfl) ⟨Nat.le_trans (by decide) hRf, Nat.le_trans (by decide) hRl⟩ (Nat.zero_le _) (Nat.zero_le _) (fun H locs M hEF => ?_)
  refine lv_if_eq (tgt := 17) hx hb dX12_held_5 (by decide) (fun c_3 => ?_) (fun c_3 => ?_)
  · replace q := if_t c_3 q
    refine lv_iconst (v := -1) hx hb dX12_held_17 (by decide) ?_
    cases q
    exact x_iret hx hb hr hlk M Ext.rf dX12_held_18
  · replace q := if_f c_3 q
    refine lv_aload_n hx hb dX12_held_8 rfl (lv_at hl 0 rfl) ?_
    refine lv_iload_n hx hb dX12_held_9 rfl (lv_at hl 2 rfl) ?_
    refine lv_iload_n hx hb dX12_held_10 rfl (lv_at hl 3 rfl) ?_
    replace q := c2_s q
    obtain ⟨x_5, g_4, qc, q⟩ := q
    refine x_callV hx hb hml hl.1 hown hX M (S1 := S) (As := [.int x2, .int x3]) (rest := []) okX12 ra0 rfl kw_1233 kw_16 mok_X12_isCount (c_X12_isCount ra0 qc (Nat.le_refl 2)) kw_1231 rfl rfl dX12_held_11 (Nat.le_of_ble_eq_true rfl) ⟨Nat.le_trans (by decide) hRf, Nat.le_trans (by decide) hRl⟩ (Nat.zero_le _) (Nat.zero_le _) (fun H locs M hEF => ?_)
    refine lv_if_ne (tgt := 19) hx hb dX12_held_14 (by decide) (fun c_6 => ?_) (fun c_6 => ?_)
    · replace q := if_f c_6 q
      refine lv_aload_n hx hb dX12_held_19 rfl (lv_at hl 0 rfl) ?_
      refine lv_iload_n hx hb dX12_held_20 rfl (lv_at hl 2 rfl) ?_
      refine lv_iload_n hx hb dX12_held_21 rfl (lv_at hl 3 rfl) ?_
      replace q := c2_s q
      obtain ⟨u_8, g_7, qc, q⟩ := q
      refine x_callV hx hb hml hl.1 hown hX M (S1 := S) (As := [.int x2, .int x3]) (rest := []) okX12 ra0 rfl kw_1265 kw_19 mok_X12_map (c_X12_map ra0 qc (Nat.le_refl 4)) kw_1263 rfl rfl dX12_held_22 (Nat.le_of_ble_eq_true rfl) ⟨Nat.le_trans (by decide) hRf, Nat.le_trans (by decide) hRl⟩ (Nat.zero_le _) (Nat.zero_le _) (fun H locs M hEF => ?_)
      refine lv_aload_n hx hb dX12_held_25 rfl (lv_at hl 0 rfl) ?_
      refine lv_iload hx hb dX12_held_26 (lv_at hl 4 rfl) ?_
      replace q := c2_s q
      obtain ⟨x_10, g_9, qc, q⟩ := q
      refine x_callV hx hb hml hl.1 hown hX M (S1 := S) (As := [.int x4]) (rest := []) okX12 ra0 rfl kw_1273 kw_21 mok_X12_find (c_X12_find ra0 qc (Nat.le_refl 1)) kw_1271 rfl rfl dX12_held_28 (Nat.le_of_ble_eq_true rfl) ⟨Nat.le_trans (by decide) hRf, Nat.le_trans (by decide) hRl⟩ (Nat.zero_le _) (Nat.zero_le _) (fun H locs M hEF => ?_)
      refine lv_istore (lv' := [(5, .int x_10), (0, .ref a0), (1, .int x1), (2, .int x2), (3, .int x3), (4, .int x4)]) hx hb dX12_held_31 hl (by decide) rfl (fun ls hl => ?_)
      refine lv_iload hx hb dX12_held_33 (lv_at hl 0 rfl) ?_
      refine lv_iconst (v := -1) hx hb dX12_held_35 (by decide) ?_
      refine lv_icmp_ne (tgt := 41) hx hb dX12_held_36 (by decide) (fun c_11 => ?_) (fun c_11 => ?_)
      · replace q := if_f c_11 q
        refine lv_aload_n hx hb dX12_held_41 rfl (lv_at hl 1 rfl) ?_
        refine lv_iload_n hx hb dX12_held_42 rfl (lv_at hl 2 rfl) ?_
        refine lv_iconst (v := 3) hx hb dX12_held_43 (by decide) ?_
        refine lv_iload_n hx hb dX12_held_44 rfl (lv_at hl 4 rfl) ?_
        refine lv_iconst (v := 0) hx hb dX12_held_45 (by decide) ?_
        refine lv_iconst (v := 0) hx hb dX12_held_46 (by decide) ?_
        replace q := c2_s q
        obtain ⟨u_13, g_12, qc, q⟩ := q
        refine x_callV hx hb hml hl.1 hown hX M (S1 := S) (As := [.int x1, .int (3 : Int32), .int x3, .int (0 : Int32), .int (0 : Int32)]) (rest := []) okX12 ra0 rfl kw_1361 kw_38 mok_X12_begin (c_X12_begin ra0 qc (Nat.le_refl 1)) kw_1359 rfl rfl dX12_held_47 (Nat.le_of_ble_eq_true rfl) ⟨Nat.le_trans (by decide) hRf, Nat.le_trans (by decide) hRl⟩ (Nat.zero_le _) (Nat.zero_le _) (fun H locs M hEF => ?_)
        refine lv_aload_n hx hb dX12_held_50 rfl (lv_at hl 1 rfl) ?_
        replace q := nn_s q
        obtain ⟨a_14, e_a_14, q⟩ := q
        refine x_getR hx hb hown hX M e_a_14 okX12 ra0 (by decide) rfl kw_1022 dX12_held_51 (fun ra_14 => ?_)
        refine lv_bipush (v := 40) hx hb dX12_held_54 (by decide) ?_
        refine lv_iload_n hx hb dX12_held_56 rfl (lv_at hl 2 rfl) ?_
        refine lv_imul hx hb dX12_held_57 ?_
        refine lv_iload hx hb dX12_held_58 (lv_at hl 5 rfl) ?_
        replace q := ck_s q
        obtain ⟨hin, q⟩ := q
        refine x_iast hx hb hX M ra_14 (inb_in hin) dX12_held_60 (fun H locs M => ?_)
        replace q := gen_g M q
        obtain ⟨g_15, -, M, q⟩ := q
        refine lv_aload_n hx hb dX12_held_61 rfl (lv_at hl 1 rfl) ?_
        replace q := nn_s q
        obtain ⟨a_16, e_a_16, q⟩ := q
        refine x_getR hx hb hown hX M e_a_16 okX12 ra0 (by decide) rfl kw_1021 dX12_held_62 (fun ra_16 => ?_)
        refine lv_bipush (v := 8) hx hb dX12_held_65 (by decide) ?_
        refine lv_iload_n hx hb dX12_held_67 rfl (lv_at hl 2 rfl) ?_
        refine lv_imul hx hb dX12_held_68 ?_
        refine lv_iconst (v := 5) hx hb dX12_held_69 (by decide) ?_
        refine lv_iadd hx hb dX12_held_70 ?_
        refine lv_aload_n hx hb dX12_held_71 rfl (lv_at hl 1 rfl) ?_
        replace q := nn_s q
        obtain ⟨a_17, e_a_17, q⟩ := q
        refine x_getR hx hb hown hX M e_a_17 okX12 ra0 (by decide) rfl kw_1065 dX12_held_72 (fun ra_17 => ?_)
        refine lv_iload hx hb dX12_held_75 (lv_at hl 0 rfl) ?_
        replace q := ck_s q
        obtain ⟨hin, q⟩ := q
        refine x_iald hx hb hX M ra_17 (inb_in hin) dX12_held_77 ?_
        replace q := ck_s q
        obtain ⟨hin, q⟩ := q
        refine x_iast hx hb hX M ra_16 (inb_in hin) dX12_held_78 (fun H locs M => ?_)
        replace q := gen_g M q
        obtain ⟨g_18, -, M, q⟩ := q
        refine lv_aload_n hx hb dX12_held_79 rfl (lv_at hl 1 rfl) ?_
        refine lv_iload_n hx hb dX12_held_80 rfl (lv_at hl 2 rfl) ?_
        refine lv_iload hx hb dX12_held_81 (lv_at hl 5 rfl) ?_
        replace q := c2_s q
        obtain ⟨u_20, g_19, qc, q⟩ := q
        refine x_callV hx hb hml hl.1 hown hX M (S1 := S) (As := [.int x1, .int x4]) (rest := []) okX12 ra0 rfl kw_1381 kw_41 mok_X12_follow (c_X12_follow ra0 qc (Nat.le_refl 305)) kw_1379 rfl rfl dX12_held_83 (Nat.le_of_ble_eq_true rfl) ⟨Nat.le_trans (by decide) hRf, Nat.le_trans (by decide) hRl⟩ (Nat.zero_le _) (Nat.zero_le _) (fun H locs M hEF => ?_)
        refine lv_aload_n hx hb dX12_held_86 rfl (lv_at hl 1 rfl) ?_
        replace q := nn_s q
        obtain ⟨a_21, e_a_21, q⟩ := q
        refine x_getR hx hb hown hX M e_a_21 okX12 ra0 (by decide) rfl kw_1021 dX12_held_87 (fun ra_21 => ?_)
        refine lv_bipush (v := 8) hx hb dX12_held_90 (by decide) ?_
        refine lv_iload_n hx hb dX12_held_92 rfl (lv_at hl 2 rfl) ?_
        refine lv_imul hx hb dX12_held_93 ?_
        refine lv_iconst (v := 1) hx hb dX12_held_94 (by decide) ?_
        refine lv_iadd hx hb dX12_held_95 ?_
        replace q := ck_s q
        obtain ⟨hin, q⟩ := q
        refine x_iald hx hb hX M ra_21 (inb_in hin) dX12_held_96 ?_
        cases q
        exact x_iret hx hb hr hlk M Ext.rf dX12_held_97
      · replace q := if_t c_11 q
        refine lv_iconst (v := -1) hx hb dX12_held_39 (by decide) ?_
        cases q
        exact x_iret hx hb hr hlk M Ext.rf dX12_held_40
    · replace q := if_t c_6 q
      refine lv_iconst (v := -1) hx hb dX12_held_17 (by decide) ?_
      cases q
      exact x_iret hx hb hr hlk M Ext.rf dX12_held_18
set_option maxRecDepth 100000 in
theorem c_X12_held {l : Launch} {D : va_G} {cA : Nat → ClassId} {lo tS N : Nat} {S : Hs} {g g1 : Hg} {rv : Int32} {a0 : Nat} {x1 : Int32} {x2 : Int32} {x3 : Int32} {x4 : Int32} (ra0 : Rf lo S a0 12) (q : f_X12_held N S g a0 x1 x2 x3 x4 = some (rv, g1)) {d : Nat} (hd : 306 ≤ d) : Ctr l yX12_held cX12_held 6 (some .int) D cA lo tS [.ref a0, .int x1, .int x2, .int x3, .int x4] S g d (some (.int rv)) S g1 True 0 0 := by
  refine x_met (by decide) (Nat.le_of_ble_eq_true rfl) ?_
  intro p e s m below meth c ls hx hb hml hr hlk hown hnm hX M hl
  exact w_X12_held_0 hx hb hml hr hlk hown hX hd (Nat.mul_le_mul_left 60 hd) (N := N) _ _ _ _ _ _ _ _ _ M ra0 (lv_sub hl [0, 1, 2, 3, 4] rfl) q
def b_X12_say_111 (N : Nat) (S : Hs) (g : Hg) (sa0 : Nat) (sx1 : Int32) (sx2 : Int32) : Option (Int32 × Hg) :=
ck (inb (sx1 + sx2) (hpL S sa0)) (
ck (inb (sx1 + sx2) (hpL S sa0)) (
nm (wrI g sa0 (sx1 + sx2).toNatClampNeg ((rdI g sa0 (sx1 + sx2).toNatClampNeg) + (1 : Int32))) (fun g_1 =>
some ((1 : Int32), g_1))))
def b_X12_say_0 (N : Nat) (S : Hs) (g : Hg) (a0 : Nat) (x1 : Int32) (x2 : Int32) (x3 : Int32) : Option (Int32 × Hg) :=
c2 (f_X12_isLog N S g a0 x1) (fun x_2 g_1 =>
if x_2 = 0 then (
some ((0 : Int32), g_1)) else (
c2 (f_X12_word N S g_1 a0 x1 x2) (fun x_5 g_4 =>
if x_5 = (-1 : Int32) then (
nn (rdR g_4 a0 0) (fun a_7 =>
ck (inb (((4 : Int32) * x1) + (2 : Int32)) (hpL S a_7)) (
nn (rdR g_4 a0 0) (fun a_8 =>
ck (inb (((4 : Int32) * x1) + (3 : Int32)) (hpL S a_8)) (
nm ((rdI g_4 a_7 (((4 : Int32) * x1) + (2 : Int32)).toNatClampNeg) + (rdI g_4 a_8 (((4 : Int32) * x1) + (3 : Int32)).toNatClampNeg)) (fun x_9 =>
if x_9 = (100 : Int32) then (
some ((0 : Int32), g_4)) else (
nn (rdR g_4 a0 6) (fun a_11 =>
ck (inb (((100 : Int32) * x1) + x_9) (hpL S a_11)) (
nm (wrI g_4 a_11 (((100 : Int32) * x1) + x_9).toNatClampNeg x2) (fun g_12 =>
nn (rdR g_12 a0 7) (fun a_13 =>
c2 (f_X12_many N S g_12 a0 x1) (fun x_15 g_14 =>
ck (inb (((100 : Int32) * x1) + x_9) (hpL S a_13)) (
nm (wrI g_14 a_13 (((100 : Int32) * x1) + x_9).toNatClampNeg x_15) (fun g_16 =>
nn (rdR g_16 a0 8) (fun a_17 =>
ck (inb (((100 : Int32) * x1) + x_9) (hpL S a_17)) (
ck (zb x3) (
nm (wrI g_16 a_17 (((100 : Int32) * x1) + x_9).toNatClampNeg x3) (fun g_18 =>
nn (rdR g_18 a0 0) (fun a_19 =>
if x3 = 0 then (
b_X12_say_111 N S g_18 a_19 ((4 : Int32) * x1) (3 : Int32)) else (
b_X12_say_111 N S g_18 a_19 ((4 : Int32) * x1) (2 : Int32))))))))))))))))))))) else (
some ((0 : Int32), g_4)))))
def f_X12_say (N : Nat) (S : Hs) (g : Hg) (a0 : Nat) (x1 : Int32) (x2 : Int32) (x3 : Int32) : Option (Int32 × Hg) := b_X12_say_0 N S g a0 x1 x2 x3
set_option maxHeartbeats 4000000 in
set_option maxRecDepth 100000 in
theorem w_X12_say_111 (hx : p.tables.exec = Jvm.exec) (hb : c.code = cX12_say) (hml : c.maxLocals = 5) (hr : meth.sig.returnType = (some .boolean)) (hlk : meth.locks = false) (hown : s.vm.findClass RX12 = some m.cls) (hX : Kx D cA lo tS s) (hRf : 2 ≤ R.frames) (hRl : 120 ≤ R.locals) {N : Nat} {rv : Int32} {g1 : Hg} {S : Hs} : ∀ (H : Heap) (locs : List Loc) (ls : Array Slot) (g : Hg) (sa0 : Nat) (sx1 : Int32) (sx2 : Int32), Mm D cA lo S g s H locs → Rf lo S sa0 20 → lv_has ls 5 [] → b_X12_say_111 N S g sa0 sx1 sx2 = some (rv, g1) → W p l e R s m args below meth c H locs 0 0 (MQ below (Qcx D cA lo S (some (.int rv)) S g1 True) args s 0 0 (fun q : Nat => lo ≤ q)) (F0 m 111 ls [.int sx2, .int sx1, .ref sa0]) := by
  intro H locs ls g sa0 sx1 sx2 M rsa0 hl q
  unfold b_X12_say_111 at q
  refine lv_iadd hx hb dX12_say_111 ?_
  refine lv_dup2_11 hx hb dX12_say_112 rfl rfl ?_
  replace q := ck_s q
  obtain ⟨hin, q⟩ := q
  refine x_iald hx hb hX M rsa0 (inb_in hin) dX12_say_113 ?_
  refine lv_iconst (v := 1) hx hb dX12_say_114 (by decide) ?_
  refine lv_iadd hx hb dX12_say_115 ?_
  replace q := ck_s q
  obtain ⟨hin, q⟩ := q
  refine x_iast hx hb hX M rsa0 (inb_in hin) dX12_say_116 (fun H locs M => ?_)
  replace q := gen_g M q
  obtain ⟨g_1, -, M, q⟩ := q
  refine lv_iconst (v := 1) hx hb dX12_say_117 (by decide) ?_
  cases q
  exact x_zret hx hb hr hlk rfl M Ext.rf dX12_say_118
set_option maxHeartbeats 4000000 in
set_option maxRecDepth 100000 in
theorem w_X12_say_0 (hx : p.tables.exec = Jvm.exec) (hb : c.code = cX12_say) (hml : c.maxLocals = 5) (hr : meth.sig.returnType = (some .boolean)) (hlk : meth.locks = false) (hown : s.vm.findClass RX12 = some m.cls) (hX : Kx D cA lo tS s) (hRf : 2 ≤ R.frames) (hRl : 120 ≤ R.locals) {N : Nat} {rv : Int32} {g1 : Hg} {S : Hs} : ∀ (H : Heap) (locs : List Loc) (ls : Array Slot) (g : Hg) (a0 : Nat) (x1 : Int32) (x2 : Int32) (x3 : Int32), Mm D cA lo S g s H locs → Rf lo S a0 12 → lv_has ls 5 [(0, .ref a0), (1, .int x1), (2, .int x2), (3, .int x3)] → b_X12_say_0 N S g a0 x1 x2 x3 = some (rv, g1) → W p l e R s m args below meth c H locs 0 0 (MQ below (Qcx D cA lo S (some (.int rv)) S g1 True) args s 0 0 (fun q : Nat => lo ≤ q)) (F0 m 0 ls []) := by
  intro H locs ls g a0 x1 x2 x3 M ra0 hl q
  unfold b_X12_say_0 at q
  refine lv_aload_n hx hb dX12_say_0 rfl (lv_at hl 0 rfl) ?_
  refine lv_iload_n hx hb dX12_say_1 rfl (lv_at hl 1 rfl) ?_
  replace q := c2_s q
  obtain ⟨x_2, g_1, qc, q⟩ := q
  refine x_callV hx hb hml hl.1 hown hX M (S1 := S) (As := [.int x1]) (rest := []) okX12 ra0 rfl kw_1221 kw_14 mok_X12_isLog (c_X12_isLog ra0 qc (Nat.le_refl 1)) kw_1219 rfl rfl dX12_say_2 (Nat.le_of_ble_eq_true rfl) ⟨Nat.le_trans (by decide) hRf, Nat.le_trans (by decide) hRl⟩ (Nat.zero_le _) (Nat.zero_le _) (fun H locs M hEF => ?_)
  refine lv_if_eq (tgt := 18) hx hb dX12_say_5 (by decide) (fun c_3 => ?_) (fun c_3 => ?_)
  · replace q := if_t c_3 q
    refine lv_iconst (v := 0) hx hb dX12_say_18 (by decide) ?_
    cases q
    exact x_zret hx hb hr hlk rfl M Ext.rf dX12_say_19
  · replace q := if_f c_3 q
    refine lv_aload_n hx hb dX12_say_8 rfl (lv_at hl 0 rfl) ?_
    refine lv_iload_n hx hb dX12_say_9 rfl (lv_at hl 1 rfl) ?_
    refine lv_iload_n hx hb dX12_say_10 rfl (lv_at hl 2 rfl) ?_
    replace q := c2_s q
    obtain ⟨x_5, g_4, qc, q⟩ := q
    refine x_callV hx hb hml hl.1 hown hX M (S1 := S) (As := [.int x1, .int x2]) (rest := []) okX12 ra0 rfl kw_1245 kw_18 mok_X12_word (c_X12_word ra0 qc (Nat.le_refl 1)) kw_1243 rfl rfl dX12_say_11 (Nat.le_of_ble_eq_true rfl) ⟨Nat.le_trans (by decide) hRf, Nat.le_trans (by decide) hRl⟩ (Nat.zero_le _) (Nat.zero_le _) (fun H locs M hEF => ?_)
    refine lv_iconst (v := -1) hx hb dX12_say_14 (by decide) ?_
    refine lv_icmp_eq (tgt := 20) hx hb dX12_say_15 (by decide) (fun c_6 => ?_) (fun c_6 => ?_)
    · replace q := if_t c_6 q
      refine lv_aload_n hx hb dX12_say_20 rfl (lv_at hl 0 rfl) ?_
      replace q := nn_s q
      obtain ⟨a_7, e_a_7, q⟩ := q
      refine x_getR hx hb hown hX M e_a_7 okX12 ra0 (by decide) rfl kw_1012 dX12_say_21 (fun ra_7 => ?_)
      refine lv_iconst (v := 4) hx hb dX12_say_24 (by decide) ?_
      refine lv_iload_n hx hb dX12_say_25 rfl (lv_at hl 1 rfl) ?_
      refine lv_imul hx hb dX12_say_26 ?_
      refine lv_iconst (v := 2) hx hb dX12_say_27 (by decide) ?_
      refine lv_iadd hx hb dX12_say_28 ?_
      replace q := ck_s q
      obtain ⟨hin, q⟩ := q
      refine x_iald hx hb hX M ra_7 (inb_in hin) dX12_say_29 ?_
      refine lv_aload_n hx hb dX12_say_30 rfl (lv_at hl 0 rfl) ?_
      replace q := nn_s q
      obtain ⟨a_8, e_a_8, q⟩ := q
      refine x_getR hx hb hown hX M e_a_8 okX12 ra0 (by decide) rfl kw_1012 dX12_say_31 (fun ra_8 => ?_)
      refine lv_iconst (v := 4) hx hb dX12_say_34 (by decide) ?_
      refine lv_iload_n hx hb dX12_say_35 rfl (lv_at hl 1 rfl) ?_
      refine lv_imul hx hb dX12_say_36 ?_
      refine lv_iconst (v := 3) hx hb dX12_say_37 (by decide) ?_
      refine lv_iadd hx hb dX12_say_38 ?_
      replace q := ck_s q
      obtain ⟨hin, q⟩ := q
      refine x_iald hx hb hX M ra_8 (inb_in hin) dX12_say_39 ?_
      refine lv_iadd hx hb dX12_say_40 ?_
      refine lv_topi (fun x_9 e_x_9 => ?_)
      replace q := nm_s q e_x_9
      refine lv_istore (lv' := [(4, .int x_9), (0, .ref a0), (1, .int x1), (2, .int x2), (3, .int x3)]) hx hb dX12_say_41 hl (by decide) rfl (fun ls hl => ?_)
      refine lv_iload hx hb dX12_say_43 (lv_at hl 0 rfl) ?_
      refine lv_bipush (v := 100) hx hb dX12_say_45 (by decide) ?_
      refine lv_icmp_ne (tgt := 52) hx hb dX12_say_47 (by decide) (fun c_10 => ?_) (fun c_10 => ?_)
      · replace q := if_f c_10 q
        refine lv_aload_n hx hb dX12_say_52 rfl (lv_at hl 1 rfl) ?_
        replace q := nn_s q
        obtain ⟨a_11, e_a_11, q⟩ := q
        refine x_getR hx hb hown hX M e_a_11 okX12 ra0 (by decide) rfl kw_1018 dX12_say_53 (fun ra_11 => ?_)
        refine lv_bipush (v := 100) hx hb dX12_say_56 (by decide) ?_
        refine lv_iload_n hx hb dX12_say_58 rfl (lv_at hl 2 rfl) ?_
        refine lv_imul hx hb dX12_say_59 ?_
        refine lv_iload hx hb dX12_say_60 (lv_at hl 0 rfl) ?_
        refine lv_iadd hx hb dX12_say_62 ?_
        refine lv_iload_n hx hb dX12_say_63 rfl (lv_at hl 3 rfl) ?_
        replace q := ck_s q
        obtain ⟨hin, q⟩ := q
        refine x_iast hx hb hX M ra_11 (inb_in hin) dX12_say_64 (fun H locs M => ?_)
        replace q := gen_g M q
        obtain ⟨g_12, -, M, q⟩ := q
        refine lv_aload_n hx hb dX12_say_65 rfl (lv_at hl 1 rfl) ?_
        replace q := nn_s q
        obtain ⟨a_13, e_a_13, q⟩ := q
        refine x_getR hx hb hown hX M e_a_13 okX12 ra0 (by decide) rfl kw_1019 dX12_say_66 (fun ra_13 => ?_)
        refine lv_bipush (v := 100) hx hb dX12_say_69 (by decide) ?_
        refine lv_iload_n hx hb dX12_say_71 rfl (lv_at hl 2 rfl) ?_
        refine lv_imul hx hb dX12_say_72 ?_
        refine lv_iload hx hb dX12_say_73 (lv_at hl 0 rfl) ?_
        refine lv_iadd hx hb dX12_say_75 ?_
        refine lv_aload_n hx hb dX12_say_76 rfl (lv_at hl 1 rfl) ?_
        refine lv_iload_n hx hb dX12_say_77 rfl (lv_at hl 2 rfl) ?_
        replace q := c2_s q
        obtain ⟨x_15, g_14, qc, q⟩ := q
        refine x_callV hx hb hml hl.1 hown hX M (S1 := S) (As := [.int x1]) (rest := [.int (((100 : Int32) * x1) + x_9), .ref a_13]) okX12 ra0 rfl kw_1225 kw_15 mok_X12_many (c_X12_many ra0 qc (Nat.le_refl 1)) kw_1223 rfl rfl dX12_say_78 (Nat.le_of_ble_eq_true rfl) ⟨Nat.le_trans (by decide) hRf, Nat.le_trans (by decide) hRl⟩ (Nat.zero_le _) (Nat.zero_le _) (fun H locs M hEF => ?_)
        replace q := ck_s q
        obtain ⟨hin, q⟩ := q
        refine x_iast hx hb hX M ra_13 (inb_in hin) dX12_say_81 (fun H locs M => ?_)
        replace q := gen_g M q
        obtain ⟨g_16, -, M, q⟩ := q
        refine lv_aload_n hx hb dX12_say_82 rfl (lv_at hl 1 rfl) ?_
        replace q := nn_s q
        obtain ⟨a_17, e_a_17, q⟩ := q
        refine x_getR hx hb hown hX M e_a_17 okX12 ra0 (by decide) rfl kw_1020 dX12_say_83 (fun ra_17 => ?_)
        refine lv_bipush (v := 100) hx hb dX12_say_86 (by decide) ?_
        refine lv_iload_n hx hb dX12_say_88 rfl (lv_at hl 2 rfl) ?_
        refine lv_imul hx hb dX12_say_89 ?_
        refine lv_iload hx hb dX12_say_90 (lv_at hl 0 rfl) ?_
        refine lv_iadd hx hb dX12_say_92 ?_
        refine lv_iload_n hx hb dX12_say_93 rfl (lv_at hl 4 rfl) ?_
        replace q := ck_s q
        obtain ⟨hin, q⟩ := q
        replace q := ck_s q
        obtain ⟨hz, q⟩ := q
        refine x_zast hx hb hX M ra_17 (zb_nar hz) (inb_in hin) dX12_say_94 (fun H locs M => ?_)
        replace q := gen_g M q
        obtain ⟨g_18, -, M, q⟩ := q
        refine lv_aload_n hx hb dX12_say_95 rfl (lv_at hl 1 rfl) ?_
        replace q := nn_s q
        obtain ⟨a_19, e_a_19, q⟩ := q
        refine x_getR hx hb hown hX M e_a_19 okX12 ra0 (by decide) rfl kw_1012 dX12_say_96 (fun ra_19 => ?_)
        refine lv_iconst (v := 4) hx hb dX12_say_99 (by decide) ?_
        refine lv_iload_n hx hb dX12_say_100 rfl (lv_at hl 2 rfl) ?_
        refine lv_imul hx hb dX12_say_101 ?_
        refine lv_iload_n hx hb dX12_say_102 rfl (lv_at hl 4 rfl) ?_
        refine lv_if_eq (tgt := 110) hx hb dX12_say_103 (by decide) (fun c_20 => ?_) (fun c_20 => ?_)
        · replace q := if_t c_20 q
          refine lv_iconst (v := 3) hx hb dX12_say_110 (by decide) ?_
          exact w_X12_say_111 hx hb hml hr hlk hown hX hRf hRl (N := N)  _ _ _ _ _ _ _ M ra_19 (lv_sub hl [] rfl) q
        · replace q := if_f c_20 q
          refine lv_iconst (v := 2) hx hb dX12_say_106 (by decide) ?_
          refine lv_goto (tgt := 111) hx hb dX12_say_107 (by decide) ?_
          exact w_X12_say_111 hx hb hml hr hlk hown hX hRf hRl (N := N)  _ _ _ _ _ _ _ M ra_19 (lv_sub hl [] rfl) q
      · replace q := if_t c_10 q
        refine lv_iconst (v := 0) hx hb dX12_say_50 (by decide) ?_
        cases q
        exact x_zret hx hb hr hlk rfl M Ext.rf dX12_say_51
    · replace q := if_f c_6 q
      refine lv_iconst (v := 0) hx hb dX12_say_18 (by decide) ?_
      cases q
      exact x_zret hx hb hr hlk rfl M Ext.rf dX12_say_19
set_option maxRecDepth 100000 in
theorem c_X12_say {l : Launch} {D : va_G} {cA : Nat → ClassId} {lo tS N : Nat} {S : Hs} {g g1 : Hg} {rv : Int32} {a0 : Nat} {x1 : Int32} {x2 : Int32} {x3 : Int32} (ra0 : Rf lo S a0 12) (q : f_X12_say N S g a0 x1 x2 x3 = some (rv, g1)) {d : Nat} (hd : 2 ≤ d) : Ctr l yX12_say cX12_say 5 (some .boolean) D cA lo tS [.ref a0, .int x1, .int x2, .int x3] S g d (some (.int rv)) S g1 True 0 0 := by
  refine x_met (by decide) (Nat.le_of_ble_eq_true rfl) ?_
  intro p e s m below meth c ls hx hb hml hr hlk hown hnm hX M hl
  exact w_X12_say_0 hx hb hml hr hlk hown hX hd (Nat.mul_le_mul_left 60 hd) (N := N) _ _ _ _ _ _ _ _ M ra0 (lv_sub hl [0, 1, 2, 3] rfl) q
def b_X12_hide_0 (N : Nat) (S : Hs) (g : Hg) (a0 : Nat) (x1 : Int32) (x2 : Int32) : Option (Int32 × Hg) :=
c2 (f_X12_say N S g a0 x1 x2 (1 : Int32)) (fun x_2 g_1 =>
ck (zb x_2) (
some (x_2, g_1)))
def f_X12_hide (N : Nat) (S : Hs) (g : Hg) (a0 : Nat) (x1 : Int32) (x2 : Int32) : Option (Int32 × Hg) := b_X12_hide_0 N S g a0 x1 x2
set_option maxHeartbeats 4000000 in
set_option maxRecDepth 100000 in
theorem w_X12_hide_0 (hx : p.tables.exec = Jvm.exec) (hb : c.code = cX12_hide) (hml : c.maxLocals = 3) (hr : meth.sig.returnType = (some .boolean)) (hlk : meth.locks = false) (hown : s.vm.findClass RX12 = some m.cls) (hX : Kx D cA lo tS s) (hRf : 3 ≤ R.frames) (hRl : 180 ≤ R.locals) {N : Nat} {rv : Int32} {g1 : Hg} {S : Hs} : ∀ (H : Heap) (locs : List Loc) (ls : Array Slot) (g : Hg) (a0 : Nat) (x1 : Int32) (x2 : Int32), Mm D cA lo S g s H locs → Rf lo S a0 12 → lv_has ls 3 [(0, .ref a0), (1, .int x1), (2, .int x2)] → b_X12_hide_0 N S g a0 x1 x2 = some (rv, g1) → W p l e R s m args below meth c H locs 0 0 (MQ below (Qcx D cA lo S (some (.int rv)) S g1 True) args s 0 0 (fun q : Nat => lo ≤ q)) (F0 m 0 ls []) := by
  intro H locs ls g a0 x1 x2 M ra0 hl q
  unfold b_X12_hide_0 at q
  refine lv_aload_n hx hb dX12_hide_0 rfl (lv_at hl 0 rfl) ?_
  refine lv_iload_n hx hb dX12_hide_1 rfl (lv_at hl 1 rfl) ?_
  refine lv_iload_n hx hb dX12_hide_2 rfl (lv_at hl 2 rfl) ?_
  refine lv_iconst (v := 1) hx hb dX12_hide_3 (by decide) ?_
  replace q := c2_s q
  obtain ⟨x_2, g_1, qc, q⟩ := q
  refine x_callV hx hb hml hl.1 hown hX M (S1 := S) (As := [.int x1, .int x2, .int (1 : Int32)]) (rest := []) okX12 ra0 rfl kw_1241 kw_17 mok_X12_say (c_X12_say ra0 qc (Nat.le_refl 2)) kw_1239 rfl rfl dX12_hide_4 (Nat.le_of_ble_eq_true rfl) ⟨Nat.le_trans (by decide) hRf, Nat.le_trans (by decide) hRl⟩ (Nat.zero_le _) (Nat.zero_le _) (fun H locs M hEF => ?_)
  replace q := ck_s q
  obtain ⟨hz, q⟩ := q
  cases q
  exact x_zret hx hb hr hlk (zb_nar hz) M Ext.rf dX12_hide_7
set_option maxRecDepth 100000 in
theorem c_X12_hide {l : Launch} {D : va_G} {cA : Nat → ClassId} {lo tS N : Nat} {S : Hs} {g g1 : Hg} {rv : Int32} {a0 : Nat} {x1 : Int32} {x2 : Int32} (ra0 : Rf lo S a0 12) (q : f_X12_hide N S g a0 x1 x2 = some (rv, g1)) {d : Nat} (hd : 3 ≤ d) : Ctr l yX12_hide cX12_hide 3 (some .boolean) D cA lo tS [.ref a0, .int x1, .int x2] S g d (some (.int rv)) S g1 True 0 0 := by
  refine x_met (by decide) (Nat.le_of_ble_eq_true rfl) ?_
  intro p e s m below meth c ls hx hb hml hr hlk hown hnm hX M hl
  exact w_X12_hide_0 hx hb hml hr hlk hown hX hd (Nat.mul_le_mul_left 60 hd) (N := N) _ _ _ _ _ _ _ M ra0 (lv_sub hl [0, 1, 2] rfl) q
def b_X12_image_0 (N : Nat) (S : Hs) (g : Hg) (a0 : Nat) : Option (Int32 × Hg) :=
nm (wrI g a0 21 (1 : Int32)) (fun g_1 =>
nm (wrI g_1 a0 23 (rdI g_1 a0 1)) (fun g_2 =>
nm (wrI g_2 a0 38 (rdI g_2 a0 16)) (fun g_3 =>
nn (rdR g_3 a0 0) (fun a_4 =>
nn (rdR g_3 a0 22) (fun a_5 =>
c2 (f_X12_ints N S g_3 a_4 a_5) (fun u_7 g_6 =>
nn (rdR g_6 a0 2) (fun a_8 =>
nn (rdR g_6 a0 24) (fun a_9 =>
c2 (f_X12_ints N S g_6 a_8 a_9) (fun u_11 g_10 =>
nn (rdR g_10 a0 3) (fun a_12 =>
nn (rdR g_10 a0 25) (fun a_13 =>
c2 (f_X12_longs N S g_10 a_12 a_13) (fun u_15 g_14 =>
nn (rdR g_14 a0 4) (fun a_16 =>
nn (rdR g_14 a0 26) (fun a_17 =>
c2 (f_X12_truths N S g_14 a_16 a_17) (fun u_19 g_18 =>
nn (rdR g_18 a0 5) (fun a_20 =>
nn (rdR g_18 a0 27) (fun a_21 =>
c2 (f_X12_truths N S g_18 a_20 a_21) (fun u_23 g_22 =>
nn (rdR g_22 a0 6) (fun a_24 =>
nn (rdR g_22 a0 28) (fun a_25 =>
c2 (f_X12_ints N S g_22 a_24 a_25) (fun u_27 g_26 =>
nn (rdR g_26 a0 7) (fun a_28 =>
nn (rdR g_26 a0 29) (fun a_29 =>
c2 (f_X12_ints N S g_26 a_28 a_29) (fun u_31 g_30 =>
nn (rdR g_30 a0 8) (fun a_32 =>
nn (rdR g_30 a0 30) (fun a_33 =>
c2 (f_X12_truths N S g_30 a_32 a_33) (fun u_35 g_34 =>
nn (rdR g_34 a0 9) (fun a_36 =>
nn (rdR g_34 a0 31) (fun a_37 =>
c2 (f_X12_ints N S g_34 a_36 a_37) (fun u_39 g_38 =>
nn (rdR g_38 a0 10) (fun a_40 =>
nn (rdR g_38 a0 32) (fun a_41 =>
c2 (f_X12_ints N S g_38 a_40 a_41) (fun u_43 g_42 =>
nn (rdR g_42 a0 11) (fun a_44 =>
nn (rdR g_42 a0 33) (fun a_45 =>
c2 (f_X12_longs N S g_42 a_44 a_45) (fun u_47 g_46 =>
nn (rdR g_46 a0 12) (fun a_48 =>
nn (rdR g_46 a0 34) (fun a_49 =>
c2 (f_X12_ints N S g_46 a_48 a_49) (fun u_51 g_50 =>
nn (rdR g_50 a0 13) (fun a_52 =>
nn (rdR g_50 a0 35) (fun a_53 =>
c2 (f_X12_ints N S g_50 a_52 a_53) (fun u_55 g_54 =>
nn (rdR g_54 a0 14) (fun a_56 =>
nn (rdR g_54 a0 36) (fun a_57 =>
c2 (f_X12_truths N S g_54 a_56 a_57) (fun u_59 g_58 =>
nn (rdR g_58 a0 15) (fun a_60 =>
nn (rdR g_58 a0 37) (fun a_61 =>
c2 (f_X12_ints N S g_58 a_60 a_61) (fun u_63 g_62 =>
nn (rdR g_62 a0 17) (fun a_64 =>
nn (rdR g_62 a0 39) (fun a_65 =>
c2 (f_X12_ints N S g_62 a_64 a_65) (fun u_67 g_66 =>
nn (rdR g_66 a0 18) (fun a_68 =>
nn (rdR g_66 a0 40) (fun a_69 =>
c2 (f_X12_truths N S g_66 a_68 a_69) (fun u_71 g_70 =>
nn (rdR g_70 a0 19) (fun a_72 =>
nn (rdR g_70 a0 41) (fun a_73 =>
c2 (f_X12_ints N S g_70 a_72 a_73) (fun u_75 g_74 =>
nn (rdR g_74 a0 20) (fun a_76 =>
nn (rdR g_74 a0 42) (fun a_77 =>
c2 (f_X12_ints N S g_74 a_76 a_77) (fun u_79 g_78 =>
some ((1 : Int32), g_78)))))))))))))))))))))))))))))))))))))))))))))))))))))))))))))
def f_X12_image (N : Nat) (S : Hs) (g : Hg) (a0 : Nat) : Option (Int32 × Hg) := b_X12_image_0 N S g a0
set_option maxHeartbeats 4000000 in
set_option maxRecDepth 100000 in
theorem w_X12_image_0 (hx : p.tables.exec = Jvm.exec) (hb : c.code = cX12_image) (hml : c.maxLocals = 1) (hr : meth.sig.returnType = (some .boolean)) (hlk : meth.locks = false) (hown : s.vm.findClass RX12 = some m.cls) (hX : Kx D cA lo tS s) (hRf : 2 ≤ R.frames) (hRl : 120 ≤ R.locals) {N : Nat} {rv : Int32} {g1 : Hg} {S : Hs} : ∀ (H : Heap) (locs : List Loc) (ls : Array Slot) (g : Hg) (a0 : Nat), Mm D cA lo S g s H locs → Rf lo S a0 12 → lv_has ls 1 [(0, .ref a0)] → b_X12_image_0 N S g a0 = some (rv, g1) → W p l e R s m args below meth c H locs 0 0 (MQ below (Qcx D cA lo S (some (.int rv)) S g1 True) args s 0 0 (fun q : Nat => lo ≤ q)) (F0 m 0 ls []) := by
  intro H locs ls g a0 M ra0 hl q
  unfold b_X12_image_0 at q
  refine lv_aload_n hx hb dX12_image_0 rfl (lv_at hl 0 rfl) ?_
  refine lv_iconst (v := 1) hx hb dX12_image_1 (by decide) ?_
  refine x_putI hx hb hown hX M (k := 21) okX12 ra0 (by decide) rfl (Or.inl rfl) rfl rfl kw_1033 dX12_image_2 (fun H locs M => ?_)
  replace q := gen_g M q
  obtain ⟨g_1, -, M, q⟩ := q
  refine lv_aload_n hx hb dX12_image_5 rfl (lv_at hl 0 rfl) ?_
  refine lv_aload_n hx hb dX12_image_6 rfl (lv_at hl 0 rfl) ?_
  refine x_getI hx hb hown hX M (k := 1) okX12 ra0 (by decide) rfl kw_1013 dX12_image_7 ?_
  refine x_putI hx hb hown hX M (k := 23) okX12 ra0 (by decide) rfl (Or.inl rfl) rfl rfl kw_1035 dX12_image_10 (fun H locs M => ?_)
  replace q := gen_g M q
  obtain ⟨g_2, -, M, q⟩ := q
  refine lv_aload_n hx hb dX12_image_13 rfl (lv_at hl 0 rfl) ?_
  refine lv_aload_n hx hb dX12_image_14 rfl (lv_at hl 0 rfl) ?_
  refine x_getI hx hb hown hX M (k := 16) okX12 ra0 (by decide) rfl kw_1028 dX12_image_15 ?_
  refine x_putI hx hb hown hX M (k := 38) okX12 ra0 (by decide) rfl (Or.inl rfl) rfl rfl kw_1050 dX12_image_18 (fun H locs M => ?_)
  replace q := gen_g M q
  obtain ⟨g_3, -, M, q⟩ := q
  refine lv_aload_n hx hb dX12_image_21 rfl (lv_at hl 0 rfl) ?_
  replace q := nn_s q
  obtain ⟨a_4, e_a_4, q⟩ := q
  refine x_getR hx hb hown hX M e_a_4 okX12 ra0 (by decide) rfl kw_1012 dX12_image_22 (fun ra_4 => ?_)
  refine lv_aload_n hx hb dX12_image_25 rfl (lv_at hl 0 rfl) ?_
  replace q := nn_s q
  obtain ⟨a_5, e_a_5, q⟩ := q
  refine x_getR hx hb hown hX M e_a_5 okX12 ra0 (by decide) rfl kw_1034 dX12_image_26 (fun ra_5 => ?_)
  replace q := c2_s q
  obtain ⟨u_7, g_6, qc, q⟩ := q
  refine x_callS hx hb hml hl.1 hown hX M (S1 := S) (As := [.ref a_4, .ref a_5]) (rest := []) kw_1502 mok_X12_ints (c_X12_ints ra_4 ra_5 qc (Nat.le_refl 1)) kw_1501 rfl rfl dX12_image_29 (Nat.le_of_ble_eq_true rfl) ⟨Nat.le_trans (by decide) hRf, Nat.le_trans (by decide) hRl⟩ (Nat.zero_le _) (Nat.zero_le _) (fun H locs M hEF => ?_)
  refine lv_aload_n hx hb dX12_image_32 rfl (lv_at hl 0 rfl) ?_
  replace q := nn_s q
  obtain ⟨a_8, e_a_8, q⟩ := q
  refine x_getR hx hb hown hX M e_a_8 okX12 ra0 (by decide) rfl kw_1014 dX12_image_33 (fun ra_8 => ?_)
  refine lv_aload_n hx hb dX12_image_36 rfl (lv_at hl 0 rfl) ?_
  replace q := nn_s q
  obtain ⟨a_9, e_a_9, q⟩ := q
  refine x_getR hx hb hown hX M e_a_9 okX12 ra0 (by decide) rfl kw_1036 dX12_image_37 (fun ra_9 => ?_)
  replace q := c2_s q
  obtain ⟨u_11, g_10, qc, q⟩ := q
  refine x_callS hx hb hml hl.1 hown hX M (S1 := S) (As := [.ref a_8, .ref a_9]) (rest := []) kw_1502 mok_X12_ints (c_X12_ints ra_8 ra_9 qc (Nat.le_refl 1)) kw_1501 rfl rfl dX12_image_40 (Nat.le_of_ble_eq_true rfl) ⟨Nat.le_trans (by decide) hRf, Nat.le_trans (by decide) hRl⟩ (Nat.zero_le _) (Nat.zero_le _) (fun H locs M hEF => ?_)
  refine lv_aload_n hx hb dX12_image_43 rfl (lv_at hl 0 rfl) ?_
  replace q := nn_s q
  obtain ⟨a_12, e_a_12, q⟩ := q
  refine x_getR hx hb hown hX M e_a_12 okX12 ra0 (by decide) rfl kw_1015 dX12_image_44 (fun ra_12 => ?_)
  refine lv_aload_n hx hb dX12_image_47 rfl (lv_at hl 0 rfl) ?_
  replace q := nn_s q
  obtain ⟨a_13, e_a_13, q⟩ := q
  refine x_getR hx hb hown hX M e_a_13 okX12 ra0 (by decide) rfl kw_1037 dX12_image_48 (fun ra_13 => ?_)
  replace q := c2_s q
  obtain ⟨u_15, g_14, qc, q⟩ := q
  refine x_callS hx hb hml hl.1 hown hX M (S1 := S) (As := [.ref a_12, .ref a_13]) (rest := []) kw_1505 mok_X12_longs (c_X12_longs ra_12 ra_13 qc (Nat.le_refl 1)) kw_1504 rfl rfl dX12_image_51 (Nat.le_of_ble_eq_true rfl) ⟨Nat.le_trans (by decide) hRf, Nat.le_trans (by decide) hRl⟩ (Nat.zero_le _) (Nat.zero_le _) (fun H locs M hEF => ?_)
  refine lv_aload_n hx hb dX12_image_54 rfl (lv_at hl 0 rfl) ?_
  replace q := nn_s q
  obtain ⟨a_16, e_a_16, q⟩ := q
  refine x_getR hx hb hown hX M e_a_16 okX12 ra0 (by decide) rfl kw_1016 dX12_image_55 (fun ra_16 => ?_)
  refine lv_aload_n hx hb dX12_image_58 rfl (lv_at hl 0 rfl) ?_
  replace q := nn_s q
  obtain ⟨a_17, e_a_17, q⟩ := q
  refine x_getR hx hb hown hX M e_a_17 okX12 ra0 (by decide) rfl kw_1038 dX12_image_59 (fun ra_17 => ?_)
  replace q := c2_s q
  obtain ⟨u_19, g_18, qc, q⟩ := q
  refine x_callS hx hb hml hl.1 hown hX M (S1 := S) (As := [.ref a_16, .ref a_17]) (rest := []) kw_1508 mok_X12_truths (c_X12_truths ra_16 ra_17 qc (Nat.le_refl 1)) kw_1507 rfl rfl dX12_image_62 (Nat.le_of_ble_eq_true rfl) ⟨Nat.le_trans (by decide) hRf, Nat.le_trans (by decide) hRl⟩ (Nat.zero_le _) (Nat.zero_le _) (fun H locs M hEF => ?_)
  refine lv_aload_n hx hb dX12_image_65 rfl (lv_at hl 0 rfl) ?_
  replace q := nn_s q
  obtain ⟨a_20, e_a_20, q⟩ := q
  refine x_getR hx hb hown hX M e_a_20 okX12 ra0 (by decide) rfl kw_1017 dX12_image_66 (fun ra_20 => ?_)
  refine lv_aload_n hx hb dX12_image_69 rfl (lv_at hl 0 rfl) ?_
  replace q := nn_s q
  obtain ⟨a_21, e_a_21, q⟩ := q
  refine x_getR hx hb hown hX M e_a_21 okX12 ra0 (by decide) rfl kw_1039 dX12_image_70 (fun ra_21 => ?_)
  replace q := c2_s q
  obtain ⟨u_23, g_22, qc, q⟩ := q
  refine x_callS hx hb hml hl.1 hown hX M (S1 := S) (As := [.ref a_20, .ref a_21]) (rest := []) kw_1508 mok_X12_truths (c_X12_truths ra_20 ra_21 qc (Nat.le_refl 1)) kw_1507 rfl rfl dX12_image_73 (Nat.le_of_ble_eq_true rfl) ⟨Nat.le_trans (by decide) hRf, Nat.le_trans (by decide) hRl⟩ (Nat.zero_le _) (Nat.zero_le _) (fun H locs M hEF => ?_)
  refine lv_aload_n hx hb dX12_image_76 rfl (lv_at hl 0 rfl) ?_
  replace q := nn_s q
  obtain ⟨a_24, e_a_24, q⟩ := q
  refine x_getR hx hb hown hX M e_a_24 okX12 ra0 (by decide) rfl kw_1018 dX12_image_77 (fun ra_24 => ?_)
  refine lv_aload_n hx hb dX12_image_80 rfl (lv_at hl 0 rfl) ?_
  replace q := nn_s q
  obtain ⟨a_25, e_a_25, q⟩ := q
  refine x_getR hx hb hown hX M e_a_25 okX12 ra0 (by decide) rfl kw_1040 dX12_image_81 (fun ra_25 => ?_)
  replace q := c2_s q
  obtain ⟨u_27, g_26, qc, q⟩ := q
  refine x_callS hx hb hml hl.1 hown hX M (S1 := S) (As := [.ref a_24, .ref a_25]) (rest := []) kw_1502 mok_X12_ints (c_X12_ints ra_24 ra_25 qc (Nat.le_refl 1)) kw_1501 rfl rfl dX12_image_84 (Nat.le_of_ble_eq_true rfl) ⟨Nat.le_trans (by decide) hRf, Nat.le_trans (by decide) hRl⟩ (Nat.zero_le _) (Nat.zero_le _) (fun H locs M hEF => ?_)
  refine lv_aload_n hx hb dX12_image_87 rfl (lv_at hl 0 rfl) ?_
  replace q := nn_s q
  obtain ⟨a_28, e_a_28, q⟩ := q
  refine x_getR hx hb hown hX M e_a_28 okX12 ra0 (by decide) rfl kw_1019 dX12_image_88 (fun ra_28 => ?_)
  refine lv_aload_n hx hb dX12_image_91 rfl (lv_at hl 0 rfl) ?_
  replace q := nn_s q
  obtain ⟨a_29, e_a_29, q⟩ := q
  refine x_getR hx hb hown hX M e_a_29 okX12 ra0 (by decide) rfl kw_1041 dX12_image_92 (fun ra_29 => ?_)
  replace q := c2_s q
  obtain ⟨u_31, g_30, qc, q⟩ := q
  refine x_callS hx hb hml hl.1 hown hX M (S1 := S) (As := [.ref a_28, .ref a_29]) (rest := []) kw_1502 mok_X12_ints (c_X12_ints ra_28 ra_29 qc (Nat.le_refl 1)) kw_1501 rfl rfl dX12_image_95 (Nat.le_of_ble_eq_true rfl) ⟨Nat.le_trans (by decide) hRf, Nat.le_trans (by decide) hRl⟩ (Nat.zero_le _) (Nat.zero_le _) (fun H locs M hEF => ?_)
  refine lv_aload_n hx hb dX12_image_98 rfl (lv_at hl 0 rfl) ?_
  replace q := nn_s q
  obtain ⟨a_32, e_a_32, q⟩ := q
  refine x_getR hx hb hown hX M e_a_32 okX12 ra0 (by decide) rfl kw_1020 dX12_image_99 (fun ra_32 => ?_)
  refine lv_aload_n hx hb dX12_image_102 rfl (lv_at hl 0 rfl) ?_
  replace q := nn_s q
  obtain ⟨a_33, e_a_33, q⟩ := q
  refine x_getR hx hb hown hX M e_a_33 okX12 ra0 (by decide) rfl kw_1042 dX12_image_103 (fun ra_33 => ?_)
  replace q := c2_s q
  obtain ⟨u_35, g_34, qc, q⟩ := q
  refine x_callS hx hb hml hl.1 hown hX M (S1 := S) (As := [.ref a_32, .ref a_33]) (rest := []) kw_1508 mok_X12_truths (c_X12_truths ra_32 ra_33 qc (Nat.le_refl 1)) kw_1507 rfl rfl dX12_image_106 (Nat.le_of_ble_eq_true rfl) ⟨Nat.le_trans (by decide) hRf, Nat.le_trans (by decide) hRl⟩ (Nat.zero_le _) (Nat.zero_le _) (fun H locs M hEF => ?_)
  refine lv_aload_n hx hb dX12_image_109 rfl (lv_at hl 0 rfl) ?_
  replace q := nn_s q
  obtain ⟨a_36, e_a_36, q⟩ := q
  refine x_getR hx hb hown hX M e_a_36 okX12 ra0 (by decide) rfl kw_1021 dX12_image_110 (fun ra_36 => ?_)
  refine lv_aload_n hx hb dX12_image_113 rfl (lv_at hl 0 rfl) ?_
  replace q := nn_s q
  obtain ⟨a_37, e_a_37, q⟩ := q
  refine x_getR hx hb hown hX M e_a_37 okX12 ra0 (by decide) rfl kw_1043 dX12_image_114 (fun ra_37 => ?_)
  replace q := c2_s q
  obtain ⟨u_39, g_38, qc, q⟩ := q
  refine x_callS hx hb hml hl.1 hown hX M (S1 := S) (As := [.ref a_36, .ref a_37]) (rest := []) kw_1502 mok_X12_ints (c_X12_ints ra_36 ra_37 qc (Nat.le_refl 1)) kw_1501 rfl rfl dX12_image_117 (Nat.le_of_ble_eq_true rfl) ⟨Nat.le_trans (by decide) hRf, Nat.le_trans (by decide) hRl⟩ (Nat.zero_le _) (Nat.zero_le _) (fun H locs M hEF => ?_)
  refine lv_aload_n hx hb dX12_image_120 rfl (lv_at hl 0 rfl) ?_
  replace q := nn_s q
  obtain ⟨a_40, e_a_40, q⟩ := q
  refine x_getR hx hb hown hX M e_a_40 okX12 ra0 (by decide) rfl kw_1022 dX12_image_121 (fun ra_40 => ?_)
  refine lv_aload_n hx hb dX12_image_124 rfl (lv_at hl 0 rfl) ?_
  replace q := nn_s q
  obtain ⟨a_41, e_a_41, q⟩ := q
  refine x_getR hx hb hown hX M e_a_41 okX12 ra0 (by decide) rfl kw_1044 dX12_image_125 (fun ra_41 => ?_)
  replace q := c2_s q
  obtain ⟨u_43, g_42, qc, q⟩ := q
  refine x_callS hx hb hml hl.1 hown hX M (S1 := S) (As := [.ref a_40, .ref a_41]) (rest := []) kw_1502 mok_X12_ints (c_X12_ints ra_40 ra_41 qc (Nat.le_refl 1)) kw_1501 rfl rfl dX12_image_128 (Nat.le_of_ble_eq_true rfl) ⟨Nat.le_trans (by decide) hRf, Nat.le_trans (by decide) hRl⟩ (Nat.zero_le _) (Nat.zero_le _) (fun H locs M hEF => ?_)
  refine lv_aload_n hx hb dX12_image_131 rfl (lv_at hl 0 rfl) ?_
  replace q := nn_s q
  obtain ⟨a_44, e_a_44, q⟩ := q
  refine x_getR hx hb hown hX M e_a_44 okX12 ra0 (by decide) rfl kw_1023 dX12_image_132 (fun ra_44 => ?_)
  refine lv_aload_n hx hb dX12_image_135 rfl (lv_at hl 0 rfl) ?_
  replace q := nn_s q
  obtain ⟨a_45, e_a_45, q⟩ := q
  refine x_getR hx hb hown hX M e_a_45 okX12 ra0 (by decide) rfl kw_1045 dX12_image_136 (fun ra_45 => ?_)
  replace q := c2_s q
  obtain ⟨u_47, g_46, qc, q⟩ := q
  refine x_callS hx hb hml hl.1 hown hX M (S1 := S) (As := [.ref a_44, .ref a_45]) (rest := []) kw_1505 mok_X12_longs (c_X12_longs ra_44 ra_45 qc (Nat.le_refl 1)) kw_1504 rfl rfl dX12_image_139 (Nat.le_of_ble_eq_true rfl) ⟨Nat.le_trans (by decide) hRf, Nat.le_trans (by decide) hRl⟩ (Nat.zero_le _) (Nat.zero_le _) (fun H locs M hEF => ?_)
  refine lv_aload_n hx hb dX12_image_142 rfl (lv_at hl 0 rfl) ?_
  replace q := nn_s q
  obtain ⟨a_48, e_a_48, q⟩ := q
  refine x_getR hx hb hown hX M e_a_48 okX12 ra0 (by decide) rfl kw_1024 dX12_image_143 (fun ra_48 => ?_)
  refine lv_aload_n hx hb dX12_image_146 rfl (lv_at hl 0 rfl) ?_
  replace q := nn_s q
  obtain ⟨a_49, e_a_49, q⟩ := q
  refine x_getR hx hb hown hX M e_a_49 okX12 ra0 (by decide) rfl kw_1046 dX12_image_147 (fun ra_49 => ?_)
  replace q := c2_s q
  obtain ⟨u_51, g_50, qc, q⟩ := q
  refine x_callS hx hb hml hl.1 hown hX M (S1 := S) (As := [.ref a_48, .ref a_49]) (rest := []) kw_1502 mok_X12_ints (c_X12_ints ra_48 ra_49 qc (Nat.le_refl 1)) kw_1501 rfl rfl dX12_image_150 (Nat.le_of_ble_eq_true rfl) ⟨Nat.le_trans (by decide) hRf, Nat.le_trans (by decide) hRl⟩ (Nat.zero_le _) (Nat.zero_le _) (fun H locs M hEF => ?_)
  refine lv_aload_n hx hb dX12_image_153 rfl (lv_at hl 0 rfl) ?_
  replace q := nn_s q
  obtain ⟨a_52, e_a_52, q⟩ := q
  refine x_getR hx hb hown hX M e_a_52 okX12 ra0 (by decide) rfl kw_1025 dX12_image_154 (fun ra_52 => ?_)
  refine lv_aload_n hx hb dX12_image_157 rfl (lv_at hl 0 rfl) ?_
  replace q := nn_s q
  obtain ⟨a_53, e_a_53, q⟩ := q
  refine x_getR hx hb hown hX M e_a_53 okX12 ra0 (by decide) rfl kw_1047 dX12_image_158 (fun ra_53 => ?_)
  replace q := c2_s q
  obtain ⟨u_55, g_54, qc, q⟩ := q
  refine x_callS hx hb hml hl.1 hown hX M (S1 := S) (As := [.ref a_52, .ref a_53]) (rest := []) kw_1502 mok_X12_ints (c_X12_ints ra_52 ra_53 qc (Nat.le_refl 1)) kw_1501 rfl rfl dX12_image_161 (Nat.le_of_ble_eq_true rfl) ⟨Nat.le_trans (by decide) hRf, Nat.le_trans (by decide) hRl⟩ (Nat.zero_le _) (Nat.zero_le _) (fun H locs M hEF => ?_)
  refine lv_aload_n hx hb dX12_image_164 rfl (lv_at hl 0 rfl) ?_
  replace q := nn_s q
  obtain ⟨a_56, e_a_56, q⟩ := q
  refine x_getR hx hb hown hX M e_a_56 okX12 ra0 (by decide) rfl kw_1026 dX12_image_165 (fun ra_56 => ?_)
  refine lv_aload_n hx hb dX12_image_168 rfl (lv_at hl 0 rfl) ?_
  replace q := nn_s q
  obtain ⟨a_57, e_a_57, q⟩ := q
  refine x_getR hx hb hown hX M e_a_57 okX12 ra0 (by decide) rfl kw_1048 dX12_image_169 (fun ra_57 => ?_)
  replace q := c2_s q
  obtain ⟨u_59, g_58, qc, q⟩ := q
  refine x_callS hx hb hml hl.1 hown hX M (S1 := S) (As := [.ref a_56, .ref a_57]) (rest := []) kw_1508 mok_X12_truths (c_X12_truths ra_56 ra_57 qc (Nat.le_refl 1)) kw_1507 rfl rfl dX12_image_172 (Nat.le_of_ble_eq_true rfl) ⟨Nat.le_trans (by decide) hRf, Nat.le_trans (by decide) hRl⟩ (Nat.zero_le _) (Nat.zero_le _) (fun H locs M hEF => ?_)
  refine lv_aload_n hx hb dX12_image_175 rfl (lv_at hl 0 rfl) ?_
  replace q := nn_s q
  obtain ⟨a_60, e_a_60, q⟩ := q
  refine x_getR hx hb hown hX M e_a_60 okX12 ra0 (by decide) rfl kw_1027 dX12_image_176 (fun ra_60 => ?_)
  refine lv_aload_n hx hb dX12_image_179 rfl (lv_at hl 0 rfl) ?_
  replace q := nn_s q
  obtain ⟨a_61, e_a_61, q⟩ := q
  refine x_getR hx hb hown hX M e_a_61 okX12 ra0 (by decide) rfl kw_1049 dX12_image_180 (fun ra_61 => ?_)
  replace q := c2_s q
  obtain ⟨u_63, g_62, qc, q⟩ := q
  refine x_callS hx hb hml hl.1 hown hX M (S1 := S) (As := [.ref a_60, .ref a_61]) (rest := []) kw_1502 mok_X12_ints (c_X12_ints ra_60 ra_61 qc (Nat.le_refl 1)) kw_1501 rfl rfl dX12_image_183 (Nat.le_of_ble_eq_true rfl) ⟨Nat.le_trans (by decide) hRf, Nat.le_trans (by decide) hRl⟩ (Nat.zero_le _) (Nat.zero_le _) (fun H locs M hEF => ?_)
  refine lv_aload_n hx hb dX12_image_186 rfl (lv_at hl 0 rfl) ?_
  replace q := nn_s q
  obtain ⟨a_64, e_a_64, q⟩ := q
  refine x_getR hx hb hown hX M e_a_64 okX12 ra0 (by decide) rfl kw_1029 dX12_image_187 (fun ra_64 => ?_)
  refine lv_aload_n hx hb dX12_image_190 rfl (lv_at hl 0 rfl) ?_
  replace q := nn_s q
  obtain ⟨a_65, e_a_65, q⟩ := q
  refine x_getR hx hb hown hX M e_a_65 okX12 ra0 (by decide) rfl kw_1051 dX12_image_191 (fun ra_65 => ?_)
  replace q := c2_s q
  obtain ⟨u_67, g_66, qc, q⟩ := q
  refine x_callS hx hb hml hl.1 hown hX M (S1 := S) (As := [.ref a_64, .ref a_65]) (rest := []) kw_1502 mok_X12_ints (c_X12_ints ra_64 ra_65 qc (Nat.le_refl 1)) kw_1501 rfl rfl dX12_image_194 (Nat.le_of_ble_eq_true rfl) ⟨Nat.le_trans (by decide) hRf, Nat.le_trans (by decide) hRl⟩ (Nat.zero_le _) (Nat.zero_le _) (fun H locs M hEF => ?_)
  refine lv_aload_n hx hb dX12_image_197 rfl (lv_at hl 0 rfl) ?_
  replace q := nn_s q
  obtain ⟨a_68, e_a_68, q⟩ := q
  refine x_getR hx hb hown hX M e_a_68 okX12 ra0 (by decide) rfl kw_1030 dX12_image_198 (fun ra_68 => ?_)
  refine lv_aload_n hx hb dX12_image_201 rfl (lv_at hl 0 rfl) ?_
  replace q := nn_s q
  obtain ⟨a_69, e_a_69, q⟩ := q
  refine x_getR hx hb hown hX M e_a_69 okX12 ra0 (by decide) rfl kw_1052 dX12_image_202 (fun ra_69 => ?_)
  replace q := c2_s q
  obtain ⟨u_71, g_70, qc, q⟩ := q
  refine x_callS hx hb hml hl.1 hown hX M (S1 := S) (As := [.ref a_68, .ref a_69]) (rest := []) kw_1508 mok_X12_truths (c_X12_truths ra_68 ra_69 qc (Nat.le_refl 1)) kw_1507 rfl rfl dX12_image_205 (Nat.le_of_ble_eq_true rfl) ⟨Nat.le_trans (by decide) hRf, Nat.le_trans (by decide) hRl⟩ (Nat.zero_le _) (Nat.zero_le _) (fun H locs M hEF => ?_)
  refine lv_aload_n hx hb dX12_image_208 rfl (lv_at hl 0 rfl) ?_
  replace q := nn_s q
  obtain ⟨a_72, e_a_72, q⟩ := q
  refine x_getR hx hb hown hX M e_a_72 okX12 ra0 (by decide) rfl kw_1031 dX12_image_209 (fun ra_72 => ?_)
  refine lv_aload_n hx hb dX12_image_212 rfl (lv_at hl 0 rfl) ?_
  replace q := nn_s q
  obtain ⟨a_73, e_a_73, q⟩ := q
  refine x_getR hx hb hown hX M e_a_73 okX12 ra0 (by decide) rfl kw_1053 dX12_image_213 (fun ra_73 => ?_)
  replace q := c2_s q
  obtain ⟨u_75, g_74, qc, q⟩ := q
  refine x_callS hx hb hml hl.1 hown hX M (S1 := S) (As := [.ref a_72, .ref a_73]) (rest := []) kw_1502 mok_X12_ints (c_X12_ints ra_72 ra_73 qc (Nat.le_refl 1)) kw_1501 rfl rfl dX12_image_216 (Nat.le_of_ble_eq_true rfl) ⟨Nat.le_trans (by decide) hRf, Nat.le_trans (by decide) hRl⟩ (Nat.zero_le _) (Nat.zero_le _) (fun H locs M hEF => ?_)
  refine lv_aload_n hx hb dX12_image_219 rfl (lv_at hl 0 rfl) ?_
  replace q := nn_s q
  obtain ⟨a_76, e_a_76, q⟩ := q
  refine x_getR hx hb hown hX M e_a_76 okX12 ra0 (by decide) rfl kw_1032 dX12_image_220 (fun ra_76 => ?_)
  refine lv_aload_n hx hb dX12_image_223 rfl (lv_at hl 0 rfl) ?_
  replace q := nn_s q
  obtain ⟨a_77, e_a_77, q⟩ := q
  refine x_getR hx hb hown hX M e_a_77 okX12 ra0 (by decide) rfl kw_1054 dX12_image_224 (fun ra_77 => ?_)
  replace q := c2_s q
  obtain ⟨u_79, g_78, qc, q⟩ := q
  refine x_callS hx hb hml hl.1 hown hX M (S1 := S) (As := [.ref a_76, .ref a_77]) (rest := []) kw_1502 mok_X12_ints (c_X12_ints ra_76 ra_77 qc (Nat.le_refl 1)) kw_1501 rfl rfl dX12_image_227 (Nat.le_of_ble_eq_true rfl) ⟨Nat.le_trans (by decide) hRf, Nat.le_trans (by decide) hRl⟩ (Nat.zero_le _) (Nat.zero_le _) (fun H locs M hEF => ?_)
  refine lv_iconst (v := 1) hx hb dX12_image_230 (by decide) ?_
  cases q
  exact x_zret hx hb hr hlk rfl M Ext.rf dX12_image_231
set_option maxRecDepth 100000 in
theorem c_X12_image {l : Launch} {D : va_G} {cA : Nat → ClassId} {lo tS N : Nat} {S : Hs} {g g1 : Hg} {rv : Int32} {a0 : Nat} (ra0 : Rf lo S a0 12) (q : f_X12_image N S g a0 = some (rv, g1)) {d : Nat} (hd : 2 ≤ d) : Ctr l yX12_image cX12_image 1 (some .boolean) D cA lo tS [.ref a0] S g d (some (.int rv)) S g1 True 0 0 := by
  refine x_met (by decide) (Nat.le_of_ble_eq_true rfl) ?_
  intro p e s m below meth c ls hx hb hml hr hlk hown hnm hX M hl
  exact w_X12_image_0 hx hb hml hr hlk hown hX hd (Nat.mul_le_mul_left 60 hd) (N := N) _ _ _ _ _ M ra0 (lv_sub hl [0] rfl) q
end W17
