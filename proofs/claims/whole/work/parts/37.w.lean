section W17
variable {p : Program} {l : Launch} {e : Env} {R : Room} {s : State} {m : MethodId} {args : Array Value} {below : List Frame} {meth : Method} {c : Code} {D : va_G} {cA : Nat → ClassId} {lo tS : Nat}
def b_X12_held_0 (N : Nat) (S : Hs) (g : Hg) (a0 : Nat) (x1 : Int32) (x2 : Int32) (x3 : Int32) (x4 : Int32) : Option (Int32 × Hg) :=
c2 (f_X12_isSlot N S g a0 x1) (fun x_2 g_1 =>
if x_2 = 0 then (
some ((-1 : Int32), g_1)) else (
c2 (f_X12_isCount N S g_1 a0 x2 x3) (fun x_5 g_4 =>
if x_5 = 0 then (
some ((-1 : Int32), g_4)) else (
c2 (f_X12_map N S g_4 a0 x2 x3) (fun u_8 g_7 =>
c2 (f_X12_find N S g_7 a0 x4) (fun x_10 g_9 =>
if x_10 = (-1 : Int32) then (
some ((-1 : Int32), g_9)) else (
c2 (f_X12_begin N S g_9 a0 x1 (3 : Int32) x3 (0 : Int32) (0 : Int32)) (fun u_13 g_12 =>
nn (rdR g_12 a0 10) (fun a_14 =>
ck (inb ((40 : Int32) * x1) (hpL S a_14)) (
nm (wrI g_12 a_14 ((40 : Int32) * x1).toNatClampNeg x4) (fun g_15 =>
nn (rdR g_15 a0 9) (fun a_16 =>
nn (rdR g_15 a0 53) (fun a_17 =>
ck (inb x_10 (hpL S a_17)) (
ck (inb (((8 : Int32) * x1) + (5 : Int32)) (hpL S a_16)) (
nm (wrI g_15 a_16 (((8 : Int32) * x1) + (5 : Int32)).toNatClampNeg (rdI g_15 a_17 x_10.toNatClampNeg)) (fun g_18 =>
c2 (f_X12_follow N S g_18 a0 x1 x4) (fun u_20 g_19 =>
nn (rdR g_19 a0 9) (fun a_21 =>
ck (inb (((8 : Int32) * x1) + (1 : Int32)) (hpL S a_21)) (
some ((rdI g_19 a_21 (((8 : Int32) * x1) + (1 : Int32)).toNatClampNeg), g_19))))))))))))))))))))
def f_X12_held (N : Nat) (S : Hs) (g : Hg) (a0 : Nat) (x1 : Int32) (x2 : Int32) (x3 : Int32) (x4 : Int32) : Option (Int32 × Hg) := b_X12_held_0 N S g a0 x1 x2 x3 x4
set_option maxHeartbeats 4000000 in
set_option maxRecDepth 100000 in
theorem w_X12_held_0 (hx : p.tables.exec = Jvm.exec) (hb : c.code = cX12_held) (hml : c.maxLocals = 6) (hr : meth.sig.returnType = (some .int)) (hlk : meth.locks = false) (hown : s.vm.findClass RX12 = some m.cls) (hX : Kx D cA lo tS s) (hRf : 306 ≤ R.frames) (hRl : 18360 ≤ R.locals) {N : Nat} {rv : Int32} {g1 : Hg} {S : Hs} : ∀ (H : Heap) (locs : List Loc) (ls : Array Slot) (g : Hg) (a0 : Nat) (x1 : Int32) (x2 : Int32) (x3 : Int32) (x4 : Int32), Mm D cA lo S g s H locs → Rf lo S a0 12 → lv_has ls 6 [(0, .ref a0), (1, .int x1), (2, .int x2), (3, .int x3), (4, .int x4)] → b_X12_held_0 N S g a0 x1 x2 x3 x4 = some (rv, g1) → W p l e R s m args below meth c H locs 0 0 (MQ below (Qcx D cA lo S (some (.int rv)) S g1 True) args s 0 0 (fun q : Nat => lo ≤ q)) (F0 m 0 ls []) := by
  intro H locs ls g a0 x1 x2 x3 x4 M ra0 hl q
  unfold b_X12_held_0 at q
  refine lv_aload_n hx hb dX12_held_0 rfl (lv_at hl 0 rfl) ?_
  refine lv_iload_n hx hb dX12_held_1 rfl (lv_at hl 1 rfl) ?_
  replace q := c2_s q
  obtain ⟨x_2, g_1, qc, q⟩ := q
  refine x_callV hx hb hml hl.1 hown hX M (S1 := S) (As := [.int x1]) (rest := []) okX12 ra0 rfl kw_1357 kw_37 mok_X12_isSlot (c_X12_isSlot ra0 qc (Nat.le_refl 1)) kw_1355 rfl rfl dX12_held_2 (Nat.le_of_ble_eq_true rfl) ⟨Nat.le_trans (by decide) hRf, Nat.le_trans (by decide) hRl⟩ (Nat.zero_le _) (Nat.zero_le _) (fun H locs M hEF => ?_)
  refine lv_if_eq (tgt := 17) hx hb dX12_held_5 (by decide) (fun c_3 => ?_) (fun c_3 => ?_)
  · replace q := if_t c_3 q
    refine lv_iconst (v := -1) hx hb dX12_held_17 (by decide) ?_
    cases q
    exact x_iret hx hb hr hlk M Ext.rf dX12_held_18
  · replace q := if_f c_3 q
    refine lv_aload_n hx hb dX12_held_8 rfl (lv_at hl 0 rfl) ?_
    refine lv_iload_n hx hb dX12_held_9 rfl (lv_at hl 2 rfl) ?_
    refine lv_iload_n hx hb dX12_held_10 rfl (lv_at hl 3 rfl) ?_
    replace q := c2_s q
    obtain ⟨x_5, g_4, qc, q⟩ := q
    refine x_callV hx hb hml hl.1 hown hX M (S1 := S) (As := [.int x2, .int x3]) (rest := []) okX12 ra0 rfl kw_1233 kw_16 mok_X12_isCount (c_X12_isCount ra0 qc (Nat.le_refl 2)) kw_1231 rfl rfl dX12_held_11 (Nat.le_of_ble_eq_true rfl) ⟨Nat.le_trans (by decide) hRf, Nat.le_trans (by decide) hRl⟩ (Nat.zero_le _) (Nat.zero_le _) (fun H locs M hEF => ?_)
    refine lv_if_ne (tgt := 19) hx hb dX12_held_14 (by decide) (fun c_6 => ?_) (fun c_6 => ?_)
    · replace q := if_f c_6 q
      refine lv_aload_n hx hb dX12_held_19 rfl (lv_at hl 0 rfl) ?_
      refine lv_iload_n hx hb dX12_held_20 rfl (lv_at hl 2 rfl) ?_
      refine lv_iload_n hx hb dX12_held_21 rfl (lv_at hl 3 rfl) ?_
      replace q := c2_s q
      obtain ⟨u_8, g_7, qc, q⟩ := q
      refine x_callV hx hb hml hl.1 hown hX M (S1 := S) (As := [.int x2, .int x3]) (rest := []) okX12 ra0 rfl kw_1265 kw_19 mok_X12_map (c_X12_map ra0 qc (Nat.le_refl 4)) kw_1263 rfl rfl dX12_held_22 (Nat.le_of_ble_eq_true rfl) ⟨Nat.le_trans (by decide) hRf, Nat.le_trans (by decide) hRl⟩ (Nat.zero_le _) (Nat.zero_le _) (fun H locs M hEF => ?_)
      refine lv_aload_n hx hb dX12_held_25 rfl (lv_at hl 0 rfl) ?_
      refine lv_iload hx hb dX12_held_26 (lv_at hl 4 rfl) ?_
      replace q := c2_s q
      obtain ⟨x_10, g_9, qc, q⟩ := q
      refine x_callV hx hb hml hl.1 hown hX M (S1 := S) (As := [.int x4]) (rest := []) okX12 ra0 rfl kw_1273 kw_21 mok_X12_find (c_X12_find ra0 qc (Nat.le_refl 1)) kw_1271 rfl rfl dX12_held_28 (Nat.le_of_ble_eq_true rfl) ⟨Nat.le_trans (by decide) hRf, Nat.le_trans (by decide) hRl⟩ (Nat.zero_le _) (Nat.zero_le _) (fun H locs M hEF => ?_)
      refine lv_istore (lv' := [(5, .int x_10), (0, .ref a0), (1, .int x1), (2, .int x2), (3, .int x3), (4, .int x4)]) hx hb dX12_held_31 hl (by decide) rfl (fun ls hl => ?_)
      refine lv_iload hx hb dX12_held_33 (lv_at hl 0 rfl) ?_
      refine lv_iconst (v := -1) hx hb dX12_held_35 (by decide) ?_
      refine lv_icmp_ne (tgt := 41) hx hb dX12_held_36 (by decide) (fun c_11 => ?_) (fun c_11 => ?_)
      · replace q := if_f c_11 q
        refine lv_aload_n hx hb dX12_held_41 rfl (lv_at hl 1 rfl) ?_
        refine lv_iload_n hx hb dX12_held_42 rfl (lv_at hl 2 rfl) ?_
        refine lv_iconst (v := 3) hx hb dX12_held_43 (by decide) ?_
        refine lv_iload_n hx hb dX12_held_44 rfl (lv_at hl 4 rfl) ?_
        refine lv_iconst (v := 0) hx hb dX12_held_45 (by decide) ?_
        refine lv_iconst (v := 0) hx hb dX12_held_46 (by decide) ?_
        replace q := c2_s q
        obtain ⟨u_13, g_12, qc, q⟩ := q
        refine x_callV hx hb hml hl.1 hown hX M (S1 := S) (As := [.int x1, .int (3 : Int32), .int x3, .int (0 : Int32), .int (0 : Int32)]) (rest := []) okX12 ra0 rfl kw_1361 kw_38 mok_X12_begin (c_X12_begin ra0 qc (Nat.le_refl 1)) kw_1359 rfl rfl dX12_held_47 (Nat.le_of_ble_eq_true rfl) ⟨Nat.le_trans (by decide) hRf, Nat.le_trans (by decide) hRl⟩ (Nat.zero_le _) (Nat.zero_le _) (fun H locs M hEF => ?_)
        refine lv_aload_n hx hb dX12_held_50 rfl (lv_at hl 1 rfl) ?_
        replace q := nn_s q
        obtain ⟨a_14, e_a_14, q⟩ := q
        refine x_getR hx hb hown hX M e_a_14 okX12 ra0 (by decide) rfl kw_1022 dX12_held_51 (fun ra_14 => ?_)
        refine lv_bipush (v := 40) hx hb dX12_held_54 (by decide) ?_
        refine lv_iload_n hx hb dX12_held_56 rfl (lv_at hl 2 rfl) ?_
        refine lv_imul hx hb dX12_held_57 ?_
        refine lv_iload hx hb dX12_held_58 (lv_at hl 5 rfl) ?_
        replace q := ck_s q
        obtain ⟨hin, q⟩ := q
        refine x_iast hx hb hX M ra_14 (inb_in hin) dX12_held_60 (fun H locs M => ?_)
        replace q := gen_g M q
        obtain ⟨g_15, -, M, q⟩ := q
        refine lv_aload_n hx hb dX12_held_61 rfl (lv_at hl 1 rfl) ?_
        replace q := nn_s q
        obtain ⟨a_16, e_a_16, q⟩ := q
        refine x_getR hx hb hown hX M e_a_16 okX12 ra0 (by decide) rfl kw_1021 dX12_held_62 (fun ra_16 => ?_)
        refine lv_bipush (v := 8) hx hb dX12_held_65 (by decide) ?_
        refine lv_iload_n hx hb dX12_held_67 rfl (lv_at hl 2 rfl) ?_
        refine lv_imul hx hb dX12_held_68 ?_
        refine lv_iconst (v := 5) hx hb dX12_held_69 (by decide) ?_
        refine lv_iadd hx hb dX12_held_70 ?_
        refine lv_aload_n hx hb dX12_held_71 rfl (lv_at hl 1 rfl) ?_
        replace q := nn_s q
        obtain ⟨a_17, e_a_17, q⟩ := q
        refine x_getR hx hb hown hX M e_a_17 okX12 ra0 (by decide) rfl kw_1065 dX12_held_72 (fun ra_17 => ?_)
        refine lv_iload hx hb dX12_held_75 (lv_at hl 0 rfl) ?_
        replace q := ck_s q
        obtain ⟨hin, q⟩ := q
        refine x_iald hx hb hX M ra_17 (inb_in hin) dX12_held_77 ?_
        replace q := ck_s q
        obtain ⟨hin, q⟩ := q
        refine x_iast hx hb hX M ra_16 (inb_in hin) dX12_held_78 (fun H locs M => ?_)
        replace q := gen_g M q
        obtain ⟨g_18, -, M, q⟩ := q
        refine lv_aload_n hx hb dX12_held_79 rfl (lv_at hl 1 rfl) ?_
        refine lv_iload_n hx hb dX12_held_80 rfl (lv_at hl 2 rfl) ?_
        refine lv_iload hx hb dX12_held_81 (lv_at hl 5 rfl) ?_
        replace q := c2_s q
        obtain ⟨u_20, g_19, qc, q⟩ := q
        refine x_callV hx hb hml hl.1 hown hX M (S1 := S) (As := [.int x1, .int x4]) (rest := []) okX12 ra0 rfl kw_1381 kw_41 mok_X12_follow (c_X12_follow ra0 qc (Nat.le_refl 305)) kw_1379 rfl rfl dX12_held_83 (Nat.le_of_ble_eq_true rfl) ⟨Nat.le_trans (by decide) hRf, Nat.le_trans (by decide) hRl⟩ (Nat.zero_le _) (Nat.zero_le _) (fun H locs M hEF => ?_)
        refine lv_aload_n hx hb dX12_held_86 rfl (lv_at hl 1 rfl) ?_
        replace q := nn_s q
        obtain ⟨a_21, e_a_21, q⟩ := q
        refine x_getR hx hb hown hX M e_a_21 okX12 ra0 (by decide) rfl kw_1021 dX12_held_87 (fun ra_21 => ?_)
        refine lv_bipush (v := 8) hx hb dX12_held_90 (by decide) ?_
        refine lv_iload_n hx hb dX12_held_92 rfl (lv_at hl 2 rfl) ?_
        refine lv_imul hx hb dX12_held_93 ?_
        refine lv_iconst (v := 1) hx hb dX12_held_94 (by decide) ?_
        refine lv_iadd hx hb dX12_held_95 ?_
        replace q := ck_s q
        obtain ⟨hin, q⟩ := q
        refine x_iald hx hb hX M ra_21 (inb_in hin) dX12_held_96 ?_
        cases q
        exact x_iret hx hb hr hlk M Ext.rf dX12_held_97
      · replace q := if_t c_11 q
        refine lv_iconst (v := -1) hx hb dX12_held_39 (by decide) ?_
        cases q
        exact x_iret hx hb hr hlk M Ext.rf dX12_held_40
    · replace q := if_t c_6 q
      refine lv_iconst (v := -1) hx hb dX12_held_17 (by decide) ?_
      cases q
      exact x_iret hx hb hr hlk M Ext.rf dX12_held_18
set_option maxRecDepth 100000 in
theorem c_X12_held {l : Launch} {D : va_G} {cA : Nat → ClassId} {lo tS N : Nat} {S : Hs} {g g1 : Hg} {rv : Int32} {a0 : Nat} {x1 : Int32} {x2 : Int32} {x3 : Int32} {x4 : Int32} (ra0 : Rf lo S a0 12) (q : f_X12_held N S g a0 x1 x2 x3 x4 = some (rv, g1)) {d : Nat} (hd : 306 ≤ d) : Ctr l yX12_held cX12_held 6 (some .int) D cA lo tS [.ref a0, .int x1, .int x2, .int x3, .int x4] S g d (some (.int rv)) S g1 True 0 0 := by
  refine x_met (by decide) (Nat.le_of_ble_eq_true rfl) ?_
  intro p e s m below meth c ls hx hb hml hr hlk hown hnm hX M hl
  exact w_X12_held_0 hx hb hml hr hlk hown hX hd (Nat.mul_le_mul_left 60 hd) (N := N) _ _ _ _ _ _ _ _ _ M ra0 (lv_sub hl [0, 1, 2, 3, 4] rfl) q
def b_X12_say_111 (N : Nat) (S : Hs) (g : Hg) (sa0 : Nat) (sx1 : Int32) (sx2 : Int32) : Option (Int32 × Hg) :=
ck (inb (sx1 + sx2) (hpL S sa0)) (
ck (inb (sx1 + sx2) (hpL S sa0)) (
nm (wrI g sa0 (sx1 + sx2).toNatClampNeg ((rdI g sa0 (sx1 + sx2).toNatClampNeg) + (1 : Int32))) (fun g_1 =>
some ((1 : Int32), g_1))))
def b_X12_say_0 (N : Nat) (S : Hs) (g : Hg) (a0 : Nat) (x1 : Int32) (x2 : Int32) (x3 : Int32) : Option (Int32 × Hg) :=
c2 (f_X12_isLog N S g a0 x1) (fun x_2 g_1 =>
if x_2 = 0 then (
some ((0 : Int32), g_1)) else (
c2 (f_X12_word N S g_1 a0 x1 x2) (fun x_5 g_4 =>
if x_5 = (-1 : Int32) then (
nn (rdR g_4 a0 0) (fun a_7 =>
ck (inb (((4 : Int32) * x1) + (2 : Int32)) (hpL S a_7)) (
nn (rdR g_4 a0 0) (fun a_8 =>
ck (inb (((4 : Int32) * x1) + (3 : Int32)) (hpL S a_8)) (
nm ((rdI g_4 a_7 (((4 : Int32) * x1) + (2 : Int32)).toNatClampNeg) + (rdI g_4 a_8 (((4 : Int32) * x1) + (3 : Int32)).toNatClampNeg)) (fun x_9 =>
if x_9 = (100 : Int32) then (
some ((0 : Int32), g_4)) else (
nn (rdR g_4 a0 6) (fun a_11 =>
ck (inb (((100 : Int32) * x1) + x_9) (hpL S a_11)) (
nm (wrI g_4 a_11 (((100 : Int32) * x1) + x_9).toNatClampNeg x2) (fun g_12 =>
nn (rdR g_12 a0 7) (fun a_13 =>
c2 (f_X12_many N S g_12 a0 x1) (fun x_15 g_14 =>
ck (inb (((100 : Int32) * x1) + x_9) (hpL S a_13)) (
nm (wrI g_14 a_13 (((100 : Int32) * x1) + x_9).toNatClampNeg x_15) (fun g_16 =>
nn (rdR g_16 a0 8) (fun a_17 =>
ck (inb (((100 : Int32) * x1) + x_9) (hpL S a_17)) (
ck (zb x3) (
nm (wrI g_16 a_17 (((100 : Int32) * x1) + x_9).toNatClampNeg x3) (fun g_18 =>
nn (rdR g_18 a0 0) (fun a_19 =>
if x3 = 0 then (
b_X12_say_111 N S g_18 a_19 ((4 : Int32) * x1) (3 : Int32)) else (
b_X12_say_111 N S g_18 a_19 ((4 : Int32) * x1) (2 : Int32))))))))))))))))))))) else (
some ((0 : Int32), g_4)))))
def f_X12_say (N : Nat) (S : Hs) (g : Hg) (a0 : Nat) (x1 : Int32) (x2 : Int32) (x3 : Int32) : Option (Int32 × Hg) := b_X12_say_0 N S g a0 x1 x2 x3
set_option maxHeartbeats 4000000 in
set_option maxRecDepth 100000 in
theorem w_X12_say_111 (hx : p.tables.exec = Jvm.exec) (hb : c.code = cX12_say) (hml : c.maxLocals = 5) (hr : meth.sig.returnType = (some .boolean)) (hlk : meth.locks = false) (hown : s.vm.findClass RX12 = some m.cls) (hX : Kx D cA lo tS s) (hRf : 2 ≤ R.frames) (hRl : 120 ≤ R.locals) {N : Nat} {rv : Int32} {g1 : Hg} {S : Hs} : ∀ (H : Heap) (locs : List Loc) (ls : Array Slot) (g : Hg) (sa0 : Nat) (sx1 : Int32) (sx2 : Int32), Mm D cA lo S g s H locs → Rf lo S sa0 20 → lv_has ls 5 [] → b_X12_say_111 N S g sa0 sx1 sx2 = some (rv, g1) → W p l e R s m args below meth c H locs 0 0 (MQ below (Qcx D cA lo S (some (.int rv)) S g1 True) args s 0 0 (fun q : Nat => lo ≤ q)) (F0 m 111 ls [.int sx2, .int sx1, .ref sa0]) := by
  intro H locs ls g sa0 sx1 sx2 M rsa0 hl q
  unfold b_X12_say_111 at q
  refine lv_iadd hx hb dX12_say_111 ?_
  refine lv_dup2_11 hx hb dX12_say_112 rfl rfl ?_
  replace q := ck_s q
  obtain ⟨hin, q⟩ := q
  refine x_iald hx hb hX M rsa0 (inb_in hin) dX12_say_113 ?_
  refine lv_iconst (v := 1) hx hb dX12_say_114 (by decide) ?_
  refine lv_iadd hx hb dX12_say_115 ?_
  replace q := ck_s q
  obtain ⟨hin, q⟩ := q
  refine x_iast hx hb hX M rsa0 (inb_in hin) dX12_say_116 (fun H locs M => ?_)
  replace q := gen_g M q
  obtain ⟨g_1, -, M, q⟩ := q
  refine lv_iconst (v := 1) hx hb dX12_say_117 (by decide) ?_
  cases q
  exact x_zret hx hb hr hlk rfl M Ext.rf dX12_say_118
set_option maxHeartbeats 4000000 in
set_option maxRecDepth 100000 in
theorem w_X12_say_0 (hx : p.tables.exec = Jvm.exec) (hb : c.code = cX12_say) (hml : c.maxLocals = 5) (hr : meth.sig.returnType = (some .boolean)) (hlk : meth.locks = false) (hown : s.vm.findClass RX12 = some m.cls) (hX : Kx D cA lo tS s) (hRf : 2 ≤ R.frames) (hRl : 120 ≤ R.locals) {N : Nat} {rv : Int32} {g1 : Hg} {S : Hs} : ∀ (H : Heap) (locs : List Loc) (ls : Array Slot) (g : Hg) (a0 : Nat) (x1 : Int32) (x2 : Int32) (x3 : Int32), Mm D cA lo S g s H locs → Rf lo S a0 12 → lv_has ls 5 [(0, .ref a0), (1, .int x1), (2, .int x2), (3, .int x3)] → b_X12_say_0 N S g a0 x1 x2 x3 = some (rv, g1) → W p l e R s m args below meth c H locs 0 0 (MQ below (Qcx D cA lo S (some (.int rv)) S g1 True) args s 0 0 (fun q : Nat => lo ≤ q)) (F0 m 0 ls []) := by
  intro H locs ls g a0 x1 x2 x3 M ra0 hl q
  unfold b_X12_say_0 at q
  refine lv_aload_n hx hb dX12_say_0 rfl (lv_at hl 0 rfl) ?_
  refine lv_iload_n hx hb dX12_say_1 rfl (lv_at hl 1 rfl) ?_
  replace q := c2_s q
  obtain ⟨x_2, g_1, qc, q⟩ := q
  refine x_callV hx hb hml hl.1 hown hX M (S1 := S) (As := [.int x1]) (rest := []) okX12 ra0 rfl kw_1221 kw_14 mok_X12_isLog (c_X12_isLog ra0 qc (Nat.le_refl 1)) kw_1219 rfl rfl dX12_say_2 (Nat.le_of_ble_eq_true rfl) ⟨Nat.le_trans (by decide) hRf, Nat.le_trans (by decide) hRl⟩ (Nat.zero_le _) (Nat.zero_le _) (fun H locs M hEF => ?_)
  refine lv_if_eq (tgt := 18) hx hb dX12_say_5 (by decide) (fun c_3 => ?_) (fun c_3 => ?_)
  · replace q := if_t c_3 q
    refine lv_iconst (v := 0) hx hb dX12_say_18 (by decide) ?_
    cases q
    exact x_zret hx hb hr hlk rfl M Ext.rf dX12_say_19
  · replace q := if_f c_3 q
    refine lv_aload_n hx hb dX12_say_8 rfl (lv_at hl 0 rfl) ?_
    refine lv_iload_n hx hb dX12_say_9 rfl (lv_at hl 1 rfl) ?_
    refine lv_iload_n hx hb dX12_say_10 rfl (lv_at hl 2 rfl) ?_
    replace q := c2_s q
    obtain ⟨x_5, g_4, qc, q⟩ := q
    refine x_callV hx hb hml hl.1 hown hX M (S1 := S) (As := [.int x1, .int x2]) (rest := []) okX12 ra0 rfl kw_1245 kw_18 mok_X12_word (c_X12_word ra0 qc (Nat.le_refl 1)) kw_1243 rfl rfl dX12_say_11 (Nat.le_of_ble_eq_true rfl) ⟨Nat.le_trans (by decide) hRf, Nat.le_trans (by decide) hRl⟩ (Nat.zero_le _) (Nat.zero_le _) (fun H locs M hEF => ?_)
    refine lv_iconst (v := -1) hx hb dX12_say_14 (by decide) ?_
    refine lv_icmp_eq (tgt := 20) hx hb dX12_say_15 (by decide) (fun c_6 => ?_) (fun c_6 => ?_)
    · replace q := if_t c_6 q
      refine lv_aload_n hx hb dX12_say_20 rfl (lv_at hl 0 rfl) ?_
      replace q := nn_s q
      obtain ⟨a_7, e_a_7, q⟩ := q
      refine x_getR hx hb hown hX M e_a_7 okX12 ra0 (by decide) rfl kw_1012 dX12_say_21 (fun ra_7 => ?_)
      refine lv_iconst (v := 4) hx hb dX12_say_24 (by decide) ?_
      refine lv_iload_n hx hb dX12_say_25 rfl (lv_at hl 1 rfl) ?_
      refine lv_imul hx hb dX12_say_26 ?_
      refine lv_iconst (v := 2) hx hb dX12_say_27 (by decide) ?_
      refine lv_iadd hx hb dX12_say_28 ?_
      replace q := ck_s q
      obtain ⟨hin, q⟩ := q
      refine x_iald hx hb hX M ra_7 (inb_in hin) dX12_say_29 ?_
      refine lv_aload_n hx hb dX12_say_30 rfl (lv_at hl 0 rfl) ?_
      replace q := nn_s q
      obtain ⟨a_8, e_a_8, q⟩ := q
      refine x_getR hx hb hown hX M e_a_8 okX12 ra0 (by decide) rfl kw_1012 dX12_say_31 (fun ra_8 => ?_)
      refine lv_iconst (v := 4) hx hb dX12_say_34 (by decide) ?_
      refine lv_iload_n hx hb dX12_say_35 rfl (lv_at hl 1 rfl) ?_
      refine lv_imul hx hb dX12_say_36 ?_
      refine lv_iconst (v := 3) hx hb dX12_say_37 (by decide) ?_
      refine lv_iadd hx hb dX12_say_38 ?_
      replace q := ck_s q
      obtain ⟨hin, q⟩ := q
      refine x_iald hx hb hX M ra_8 (inb_in hin) dX12_say_39 ?_
      refine lv_iadd hx hb dX12_say_40 ?_
      refine lv_topi (fun x_9 e_x_9 => ?_)
      replace q := nm_s q e_x_9
      refine lv_istore (lv' := [(4, .int x_9), (0, .ref a0), (1, .int x1), (2, .int x2), (3, .int x3)]) hx hb dX12_say_41 hl (by decide) rfl (fun ls hl => ?_)
      refine lv_iload hx hb dX12_say_43 (lv_at hl 0 rfl) ?_
      refine lv_bipush (v := 100) hx hb dX12_say_45 (by decide) ?_
      refine lv_icmp_ne (tgt := 52) hx hb dX12_say_47 (by decide) (fun c_10 => ?_) (fun c_10 => ?_)
      · replace q := if_f c_10 q
        refine lv_aload_n hx hb dX12_say_52 rfl (lv_at hl 1 rfl) ?_
        replace q := nn_s q
        obtain ⟨a_11, e_a_11, q⟩ := q
        refine x_getR hx hb hown hX M e_a_11 okX12 ra0 (by decide) rfl kw_1018 dX12_say_53 (fun ra_11 => ?_)
        refine lv_bipush (v := 100) hx hb dX12_say_56 (by decide) ?_
        refine lv_iload_n hx hb dX12_say_58 rfl (lv_at hl 2 rfl) ?_
        refine lv_imul hx hb dX12_say_59 ?_
        refine lv_iload hx hb dX12_say_60 (lv_at hl 0 rfl) ?_
        refine lv_iadd hx hb dX12_say_62 ?_
        refine lv_iload_n hx hb dX12_say_63 rfl (lv_at hl 3 rfl) ?_
        replace q := ck_s q
        obtain ⟨hin, q⟩ := q
        refine x_iast hx hb hX M ra_11 (inb_in hin) dX12_say_64 (fun H locs M => ?_)
        replace q := gen_g M q
        obtain ⟨g_12, -, M, q⟩ := q
        refine lv_aload_n hx hb dX12_say_65 rfl (lv_at hl 1 rfl) ?_
        replace q := nn_s q
        obtain ⟨a_13, e_a_13, q⟩ := q
        refine x_getR hx hb hown hX M e_a_13 okX12 ra0 (by decide) rfl kw_1019 dX12_say_66 (fun ra_13 => ?_)
        refine lv_bipush (v := 100) hx hb dX12_say_69 (by decide) ?_
        refine lv_iload_n hx hb dX12_say_71 rfl (lv_at hl 2 rfl) ?_
        refine lv_imul hx hb dX12_say_72 ?_
        refine lv_iload hx hb dX12_say_73 (lv_at hl 0 rfl) ?_
        refine lv_iadd hx hb dX12_say_75 ?_
        refine lv_aload_n hx hb dX12_say_76 rfl (lv_at hl 1 rfl) ?_
        refine lv_iload_n hx hb dX12_say_77 rfl (lv_at hl 2 rfl) ?_
        replace q := c2_s q
        obtain ⟨x_15, g_14, qc, q⟩ := q
        refine x_callV hx hb hml hl.1 hown hX M (S1 := S) (As := [.int x1]) (rest := [.int (((100 : Int32) * x1) + x_9), .ref a_13]) okX12 ra0 rfl kw_1225 kw_15 mok_X12_many (c_X12_many ra0 qc (Nat.le_refl 1)) kw_1223 rfl rfl dX12_say_78 (Nat.le_of_ble_eq_true rfl) ⟨Nat.le_trans (by decide) hRf, Nat.le_trans (by decide) hRl⟩ (Nat.zero_le _) (Nat.zero_le _) (fun H locs M hEF => ?_)
        replace q := ck_s q
        obtain ⟨hin, q⟩ := q
        refine x_iast hx hb hX M ra_13 (inb_in hin) dX12_say_81 (fun H locs M => ?_)
        replace q := gen_g M q
        obtain ⟨g_16, -, M, q⟩ := q
        refine lv_aload_n hx hb dX12_say_82 rfl (lv_at hl 1 rfl) ?_
        replace q := nn_s q
        obtain ⟨a_17, e_a_17, q⟩ := q
        refine x_getR hx hb hown hX M e_a_17 okX12 ra0 (by decide) rfl kw_1020 dX12_say_83 (fun ra_17 => ?_)
        refine lv_bipush (v := 100) hx hb dX12_say_86 (by decide) ?_
        refine lv_iload_n hx hb dX12_say_88 rfl (lv_at hl 2 rfl) ?_
        refine lv_imul hx hb dX12_say_89 ?_
        refine lv_iload hx hb dX12_say_90 (lv_at hl 0 rfl) ?_
        refine lv_iadd hx hb dX12_say_92 ?_
        refine lv_iload_n hx hb dX12_say_93 rfl (lv_at hl 4 rfl) ?_
        replace q := ck_s q
        obtain ⟨hin, q⟩ := q
        replace q := ck_s q
        obtain ⟨hz, q⟩ := q
        refine x_zast hx hb hX M ra_17 (zb_nar hz) (inb_in hin) dX12_say_94 (fun H locs M => ?_)
        replace q := gen_g M q
        obtain ⟨g_18, -, M, q⟩ := q
        refine lv_aload_n hx hb dX12_say_95 rfl (lv_at hl 1 rfl) ?_
        replace q := nn_s q
        obtain ⟨a_19, e_a_19, q⟩ := q
        refine x_getR hx hb hown hX M e_a_19 okX12 ra0 (by decide) rfl kw_1012 dX12_say_96 (fun ra_19 => ?_)
        refine lv_iconst (v := 4) hx hb dX12_say_99 (by decide) ?_
        refine lv_iload_n hx hb dX12_say_100 rfl (lv_at hl 2 rfl) ?_
        refine lv_imul hx hb dX12_say_101 ?_
        refine lv_iload_n hx hb dX12_say_102 rfl (lv_at hl 4 rfl) ?_
        refine lv_if_eq (tgt := 110) hx hb dX12_say_103 (by decide) (fun c_20 => ?_) (fun c_20 => ?_)
        · replace q := if_t c_20 q
          refine lv_iconst (v := 3) hx hb dX12_say_110 (by decide) ?_
          exact w_X12_say_111 hx hb hml hr hlk hown hX hRf hRl (N := N)  _ _ _ _ _ _ _ M ra_19 (lv_sub hl [] rfl) q
        · replace q := if_f c_20 q
          refine lv_iconst (v := 2) hx hb dX12_say_106 (by decide) ?_
          refine lv_goto (tgt := 111) hx hb dX12_say_107 (by decide) ?_
          exact w_X12_say_111 hx hb hml hr hlk hown hX hRf hRl (N := N)  _ _ _ _ _ _ _ M ra_19 (lv_sub hl [] rfl) q
      · replace q := if_t c_10 q
        refine lv_iconst (v := 0) hx hb dX12_say_50 (by decide) ?_
        cases q
        exact x_zret hx hb hr hlk rfl M Ext.rf dX12_say_51
    · replace q := if_f c_6 q
      refine lv_iconst (v := 0) hx hb dX12_say_18 (by decide) ?_
      cases q
      exact x_zret hx hb hr hlk rfl M Ext.rf dX12_say_19
set_option maxRecDepth 100000 in
theorem c_X12_say {l : Launch} {D : va_G} {cA : Nat → ClassId} {lo tS N : Nat} {S : Hs} {g g1 : Hg} {rv : Int32} {a0 : Nat} {x1 : Int32} {x2 : Int32} {x3 : Int32} (ra0 : Rf lo S a0 12) (q : f_X12_say N S g a0 x1 x2 x3 = some (rv, g1)) {d : Nat} (hd : 2 ≤ d) : Ctr l yX12_say cX12_say 5 (some .boolean) D cA lo tS [.ref a0, .int x1, .int x2, .int x3] S g d (some (.int rv)) S g1 True 0 0 := by
  refine x_met (by decide) (Nat.le_of_ble_eq_true rfl) ?_
  intro p e s m below meth c ls hx hb hml hr hlk hown hnm hX M hl
  exact w_X12_say_0 hx hb hml hr hlk hown hX hd (Nat.mul_le_mul_left 60 hd) (N := N) _ _ _ _ _ _ _ _ M ra0 (lv_sub hl [0, 1, 2, 3] rfl) q
def b_X12_hide_0 (N : Nat) (S : Hs) (g : Hg) (a0 : Nat) (x1 : Int32) (x2 : Int32) : Option (Int32 × Hg) :=
c2 (f_X12_say N S g a0 x1 x2 (1 : Int32)) (fun x_2 g_1 =>
ck (zb x_2) (
some (x_2, g_1)))
def f_X12_hide (N : Nat) (S : Hs) (g : Hg) (a0 : Nat) (x1 : Int32) (x2 : Int32) : Option (Int32 × Hg) := b_X12_hide_0 N S g a0 x1 x2
set_option maxHeartbeats 4000000 in
set_option maxRecDepth 100000 in
theorem w_X12_hide_0 (hx : p.tables.exec = Jvm.exec) (hb : c.code = cX12_hide) (hml : c.maxLocals = 3) (hr : meth.sig.returnType = (some .boolean)) (hlk : meth.locks = false) (hown : s.vm.findClass RX12 = some m.cls) (hX : Kx D cA lo tS s) (hRf : 3 ≤ R.frames) (hRl : 180 ≤ R.locals) {N : Nat} {rv : Int32} {g1 : Hg} {S : Hs} : ∀ (H : Heap) (locs : List Loc) (ls : Array Slot) (g : Hg) (a0 : Nat) (x1 : Int32) (x2 : Int32), Mm D cA lo S g s H locs → Rf lo S a0 12 → lv_has ls 3 [(0, .ref a0), (1, .int x1), (2, .int x2)] → b_X12_hide_0 N S g a0 x1 x2 = some (rv, g1) → W p l e R s m args below meth c H locs 0 0 (MQ below (Qcx D cA lo S (some (.int rv)) S g1 True) args s 0 0 (fun q : Nat => lo ≤ q)) (F0 m 0 ls []) := by
  intro H locs ls g a0 x1 x2 M ra0 hl q
  unfold b_X12_hide_0 at q
  refine lv_aload_n hx hb dX12_hide_0 rfl (lv_at hl 0 rfl) ?_
  refine lv_iload_n hx hb dX12_hide_1 rfl (lv_at hl 1 rfl) ?_
  refine lv_iload_n hx hb dX12_hide_2 rfl (lv_at hl 2 rfl) ?_
  refine lv_iconst (v := 1) hx hb dX12_hide_3 (by decide) ?_
  replace q := c2_s q
  obtain ⟨x_2, g_1, qc, q⟩ := q
  refine x_callV hx hb hml hl.1 hown hX M (S1 := S) (As := [.int x1, .int x2, .int (1 : Int32)]) (rest := []) okX12 ra0 rfl kw_1241 kw_17 mok_X12_say (c_X12_say ra0 qc (Nat.le_refl 2)) kw_1239 rfl rfl dX12_hide_4 (Nat.le_of_ble_eq_true rfl) ⟨Nat.le_trans (by decide) hRf, Nat.le_trans (by decide) hRl⟩ (Nat.zero_le _) (Nat.zero_le _) (fun H locs M hEF => ?_)
  replace q := ck_s q
  obtain ⟨hz, q⟩ := q
  cases q
  exact x_zret hx hb hr hlk (zb_nar hz) M Ext.rf dX12_hide_7
set_option maxRecDepth 100000 in
theorem c_X12_hide {l : Launch} {D : va_G} {cA : Nat → ClassId} {lo tS N : Nat} {S : Hs} {g g1 : Hg} {rv : Int32} {a0 : Nat} {x1 : Int32} {x2 : Int32} (ra0 : Rf lo S a0 12) (q : f_X12_hide N S g a0 x1 x2 = some (rv, g1)) {d : Nat} (hd : 3 ≤ d) : Ctr l yX12_hide cX12_hide 3 (some .boolean) D cA lo tS [.ref a0, .int x1, .int x2] S g d (some (.int rv)) S g1 True 0 0 := by
  refine x_met (by decide) (Nat.le_of_ble_eq_true rfl) ?_
  intro p e s m below meth c ls hx hb hml hr hlk hown hnm hX M hl
  exact w_X12_hide_0 hx hb hml hr hlk hown hX hd (Nat.mul_le_mul_left 60 hd) (N := N) _ _ _ _ _ _ _ M ra0 (lv_sub hl [0, 1, 2] rfl) q
def b_X12_image_0 (N : Nat) (S : Hs) (g : Hg) (a0 : Nat) : Option (Int32 × Hg) :=
nm (wrI g a0 21 (1 : Int32)) (fun g_1 =>
nm (wrI g_1 a0 23 (rdI g_1 a0 1)) (fun g_2 =>
nm (wrI g_2 a0 38 (rdI g_2 a0 16)) (fun g_3 =>
nn (rdR g_3 a0 0) (fun a_4 =>
nn (rdR g_3 a0 22) (fun a_5 =>
c2 (f_X12_ints N S g_3 a_4 a_5) (fun u_7 g_6 =>
nn (rdR g_6 a0 2) (fun a_8 =>
nn (rdR g_6 a0 24) (fun a_9 =>
c2 (f_X12_ints N S g_6 a_8 a_9) (fun u_11 g_10 =>
nn (rdR g_10 a0 3) (fun a_12 =>
nn (rdR g_10 a0 25) (fun a_13 =>
c2 (f_X12_longs N S g_10 a_12 a_13) (fun u_15 g_14 =>
nn (rdR g_14 a0 4) (fun a_16 =>
nn (rdR g_14 a0 26) (fun a_17 =>
c2 (f_X12_truths N S g_14 a_16 a_17) (fun u_19 g_18 =>
nn (rdR g_18 a0 5) (fun a_20 =>
nn (rdR g_18 a0 27) (fun a_21 =>
c2 (f_X12_truths N S g_18 a_20 a_21) (fun u_23 g_22 =>
nn (rdR g_22 a0 6) (fun a_24 =>
nn (rdR g_22 a0 28) (fun a_25 =>
c2 (f_X12_ints N S g_22 a_24 a_25) (fun u_27 g_26 =>
nn (rdR g_26 a0 7) (fun a_28 =>
nn (rdR g_26 a0 29) (fun a_29 =>
c2 (f_X12_ints N S g_26 a_28 a_29) (fun u_31 g_30 =>
nn (rdR g_30 a0 8) (fun a_32 =>
nn (rdR g_30 a0 30) (fun a_33 =>
c2 (f_X12_truths N S g_30 a_32 a_33) (fun u_35 g_34 =>
nn (rdR g_34 a0 9) (fun a_36 =>
nn (rdR g_34 a0 31) (fun a_37 =>
c2 (f_X12_ints N S g_34 a_36 a_37) (fun u_39 g_38 =>
nn (rdR g_38 a0 10) (fun a_40 =>
nn (rdR g_38 a0 32) (fun a_41 =>
c2 (f_X12_ints N S g_38 a_40 a_41) (fun u_43 g_42 =>
nn (rdR g_42 a0 11) (fun a_44 =>
nn (rdR g_42 a0 33) (fun a_45 =>
c2 (f_X12_longs N S g_42 a_44 a_45) (fun u_47 g_46 =>
nn (rdR g_46 a0 12) (fun a_48 =>
nn (rdR g_46 a0 34) (fun a_49 =>
c2 (f_X12_ints N S g_46 a_48 a_49) (fun u_51 g_50 =>
nn (rdR g_50 a0 13) (fun a_52 =>
nn (rdR g_50 a0 35) (fun a_53 =>
c2 (f_X12_ints N S g_50 a_52 a_53) (fun u_55 g_54 =>
nn (rdR g_54 a0 14) (fun a_56 =>
nn (rdR g_54 a0 36) (fun a_57 =>
c2 (f_X12_truths N S g_54 a_56 a_57) (fun u_59 g_58 =>
nn (rdR g_58 a0 15) (fun a_60 =>
nn (rdR g_58 a0 37) (fun a_61 =>
c2 (f_X12_ints N S g_58 a_60 a_61) (fun u_63 g_62 =>
nn (rdR g_62 a0 17) (fun a_64 =>
nn (rdR g_62 a0 39) (fun a_65 =>
c2 (f_X12_ints N S g_62 a_64 a_65) (fun u_67 g_66 =>
nn (rdR g_66 a0 18) (fun a_68 =>
nn (rdR g_66 a0 40) (fun a_69 =>
c2 (f_X12_truths N S g_66 a_68 a_69) (fun u_71 g_70 =>
nn (rdR g_70 a0 19) (fun a_72 =>
nn (rdR g_70 a0 41) (fun a_73 =>
c2 (f_X12_ints N S g_70 a_72 a_73) (fun u_75 g_74 =>
nn (rdR g_74 a0 20) (fun a_76 =>
nn (rdR g_74 a0 42) (fun a_77 =>
c2 (f_X12_ints N S g_74 a_76 a_77) (fun u_79 g_78 =>
some ((1 : Int32), g_78)))))))))))))))))))))))))))))))))))))))))))))))))))))))))))))
def f_X12_image (N : Nat) (S : Hs) (g : Hg) (a0 : Nat) : Option (Int32 × Hg) := b_X12_image_0 N S g a0
set_option maxHeartbeats 4000000 in
set_option maxRecDepth 100000 in
theorem w_X12_image_0 (hx : p.tables.exec = Jvm.exec) (hb : c.code = cX12_image) (hml : c.maxLocals = 1) (hr : meth.sig.returnType = (some .boolean)) (hlk : meth.locks = false) (hown : s.vm.findClass RX12 = some m.cls) (hX : Kx D cA lo tS s) (hRf : 2 ≤ R.frames) (hRl : 120 ≤ R.locals) {N : Nat} {rv : Int32} {g1 : Hg} {S : Hs} : ∀ (H : Heap) (locs : List Loc) (ls : Array Slot) (g : Hg) (a0 : Nat), Mm D cA lo S g s H locs → Rf lo S a0 12 → lv_has ls 1 [(0, .ref a0)] → b_X12_image_0 N S g a0 = some (rv, g1) → W p l e R s m args below meth c H locs 0 0 (MQ below (Qcx D cA lo S (some (.int rv)) S g1 True) args s 0 0 (fun q : Nat => lo ≤ q)) (F0 m 0 ls []) := by
  intro H locs ls g a0 M ra0 hl q
  unfold b_X12_image_0 at q
  refine lv_aload_n hx hb dX12_image_0 rfl (lv_at hl 0 rfl) ?_
  refine lv_iconst (v := 1) hx hb dX12_image_1 (by decide) ?_
  refine x_putI hx hb hown hX M (k := 21) okX12 ra0 (by decide) rfl (Or.inl rfl) rfl rfl kw_1033 dX12_image_2 (fun H locs M => ?_)
  replace q := gen_g M q
  obtain ⟨g_1, -, M, q⟩ := q
  refine lv_aload_n hx hb dX12_image_5 rfl (lv_at hl 0 rfl) ?_
  refine lv_aload_n hx hb dX12_image_6 rfl (lv_at hl 0 rfl) ?_
  refine x_getI hx hb hown hX M (k := 1) okX12 ra0 (by decide) rfl kw_1013 dX12_image_7 ?_
  refine x_putI hx hb hown hX M (k := 23) okX12 ra0 (by decide) rfl (Or.inl rfl) rfl rfl kw_1035 dX12_image_10 (fun H locs M => ?_)
  replace q := gen_g M q
  obtain ⟨g_2, -, M, q⟩ := q
  refine lv_aload_n hx hb dX12_image_13 rfl (lv_at hl 0 rfl) ?_
  refine lv_aload_n hx hb dX12_image_14 rfl (lv_at hl 0 rfl) ?_
  refine x_getI hx hb hown hX M (k := 16) okX12 ra0 (by decide) rfl kw_1028 dX12_image_15 ?_
  refine x_putI hx hb hown hX M (k := 38) okX12 ra0 (by decide) rfl (Or.inl rfl) rfl rfl kw_1050 dX12_image_18 (fun H locs M => ?_)
  replace q := gen_g M q
  obtain ⟨g_3, -, M, q⟩ := q
  refine lv_aload_n hx hb dX12_image_21 rfl (lv_at hl 0 rfl) ?_
  replace q := nn_s q
  obtain ⟨a_4, e_a_4, q⟩ := q
  refine x_getR hx hb hown hX M e_a_4 okX12 ra0 (by decide) rfl kw_1012 dX12_image_22 (fun ra_4 => ?_)
  refine lv_aload_n hx hb dX12_image_25 rfl (lv_at hl 0 rfl) ?_
  replace q := nn_s q
  obtain ⟨a_5, e_a_5, q⟩ := q
  refine x_getR hx hb hown hX M e_a_5 okX12 ra0 (by decide) rfl kw_1034 dX12_image_26 (fun ra_5 => ?_)
  replace q := c2_s q
  obtain ⟨u_7, g_6, qc, q⟩ := q
  refine x_callS hx hb hml hl.1 hown hX M (S1 := S) (As := [.ref a_4, .ref a_5]) (rest := []) kw_1502 mok_X12_ints (c_X12_ints ra_4 ra_5 qc (Nat.le_refl 1)) kw_1501 rfl rfl dX12_image_29 (Nat.le_of_ble_eq_true rfl) ⟨Nat.le_trans (by decide) hRf, Nat.le_trans (by decide) hRl⟩ (Nat.zero_le _) (Nat.zero_le _) (fun H locs M hEF => ?_)
  refine lv_aload_n hx hb dX12_image_32 rfl (lv_at hl 0 rfl) ?_
  replace q := nn_s q
  obtain ⟨a_8, e_a_8, q⟩ := q
  refine x_getR hx hb hown hX M e_a_8 okX12 ra0 (by decide) rfl kw_1014 dX12_image_33 (fun ra_8 => ?_)
  refine lv_aload_n hx hb dX12_image_36 rfl (lv_at hl 0 rfl) ?_
  replace q := nn_s q
  obtain ⟨a_9, e_a_9, q⟩ := q
  refine x_getR hx hb hown hX M e_a_9 okX12 ra0 (by decide) rfl kw_1036 dX12_image_37 (fun ra_9 => ?_)
  replace q := c2_s q
  obtain ⟨u_11, g_10, qc, q⟩ := q
  refine x_callS hx hb hml hl.1 hown hX M (S1 := S) (As := [.ref a_8, .ref a_9]) (rest := []) kw_1502 mok_X12_ints (c_X12_ints ra_8 ra_9 qc (Nat.le_refl 1)) kw_1501 rfl rfl dX12_image_40 (Nat.le_of_ble_eq_true rfl) ⟨Nat.le_trans (by decide) hRf, Nat.le_trans (by decide) hRl⟩ (Nat.zero_le _) (Nat.zero_le _) (fun H locs M hEF => ?_)
  refine lv_aload_n hx hb dX12_image_43 rfl (lv_at hl 0 rfl) ?_
  replace q := nn_s q
  obtain ⟨a_12, e_a_12, q⟩ := q
  refine x_getR hx hb hown hX M e_a_12 okX12 ra0 (by decide) rfl kw_1015 dX12_image_44 (fun ra_12 => ?_)
  refine lv_aload_n hx hb dX12_image_47 rfl (lv_at hl 0 rfl) ?_
  replace q := nn_s q
  obtain ⟨a_13, e_a_13, q⟩ := q
  refine x_getR hx hb hown hX M e_a_13 okX12 ra0 (by decide) rfl kw_1037 dX12_image_48 (fun ra_13 => ?_)
  replace q := c2_s q
  obtain ⟨u_15, g_14, qc, q⟩ := q
  refine x_callS hx hb hml hl.1 hown hX M (S1 := S) (As := [.ref a_12, .ref a_13]) (rest := []) kw_1505 mok_X12_longs (c_X12_longs ra_12 ra_13 qc (Nat.le_refl 1)) kw_1504 rfl rfl dX12_image_51 (Nat.le_of_ble_eq_true rfl) ⟨Nat.le_trans (by decide) hRf, Nat.le_trans (by decide) hRl⟩ (Nat.zero_le _) (Nat.zero_le _) (fun H locs M hEF => ?_)
  refine lv_aload_n hx hb dX12_image_54 rfl (lv_at hl 0 rfl) ?_
  replace q := nn_s q
  obtain ⟨a_16, e_a_16, q⟩ := q
  refine x_getR hx hb hown hX M e_a_16 okX12 ra0 (by decide) rfl kw_1016 dX12_image_55 (fun ra_16 => ?_)
  refine lv_aload_n hx hb dX12_image_58 rfl (lv_at hl 0 rfl) ?_
  replace q := nn_s q
  obtain ⟨a_17, e_a_17, q⟩ := q
  refine x_getR hx hb hown hX M e_a_17 okX12 ra0 (by decide) rfl kw_1038 dX12_image_59 (fun ra_17 => ?_)
  replace q := c2_s q
  obtain ⟨u_19, g_18, qc, q⟩ := q
  refine x_callS hx hb hml hl.1 hown hX M (S1 := S) (As := [.ref a_16, .ref a_17]) (rest := []) kw_1508 mok_X12_truths (c_X12_truths ra_16 ra_17 qc (Nat.le_refl 1)) kw_1507 rfl rfl dX12_image_62 (Nat.le_of_ble_eq_true rfl) ⟨Nat.le_trans (by decide) hRf, Nat.le_trans (by decide) hRl⟩ (Nat.zero_le _) (Nat.zero_le _) (fun H locs M hEF => ?_)
  refine lv_aload_n hx hb dX12_image_65 rfl (lv_at hl 0 rfl) ?_
  replace q := nn_s q
  obtain ⟨a_20, e_a_20, q⟩ := q
  refine x_getR hx hb hown hX M e_a_20 okX12 ra0 (by decide) rfl kw_1017 dX12_image_66 (fun ra_20 => ?_)
  refine lv_aload_n hx hb dX12_image_69 rfl (lv_at hl 0 rfl) ?_
  replace q := nn_s q
  obtain ⟨a_21, e_a_21, q⟩ := q
  refine x_getR hx hb hown hX M e_a_21 okX12 ra0 (by decide) rfl kw_1039 dX12_image_70 (fun ra_21 => ?_)
  replace q := c2_s q
  obtain ⟨u_23, g_22, qc, q⟩ := q
  refine x_callS hx hb hml hl.1 hown hX M (S1 := S) (As := [.ref a_20, .ref a_21]) (rest := []) kw_1508 mok_X12_truths (c_X12_truths ra_20 ra_21 qc (Nat.le_refl 1)) kw_1507 rfl rfl dX12_image_73 (Nat.le_of_ble_eq_true rfl) ⟨Nat.le_trans (by decide) hRf, Nat.le_trans (by decide) hRl⟩ (Nat.zero_le _) (Nat.zero_le _) (fun H locs M hEF => ?_)
  refine lv_aload_n hx hb dX12_image_76 rfl (lv_at hl 0 rfl) ?_
  replace q := nn_s q
  obtain ⟨a_24, e_a_24, q⟩ := q
  refine x_getR hx hb hown hX M e_a_24 okX12 ra0 (by decide) rfl kw_1018 dX12_image_77 (fun ra_24 => ?_)
  refine lv_aload_n hx hb dX12_image_80 rfl (lv_at hl 0 rfl) ?_
  replace q := nn_s q
  obtain ⟨a_25, e_a_25, q⟩ := q
  refine x_getR hx hb hown hX M e_a_25 okX12 ra0 (by decide) rfl kw_1040 dX12_image_81 (fun ra_25 => ?_)
  replace q := c2_s q
  obtain ⟨u_27, g_26, qc, q⟩ := q
  refine x_callS hx hb hml hl.1 hown hX M (S1 := S) (As := [.ref a_24, .ref a_25]) (rest := []) kw_1502 mok_X12_ints (c_X12_ints ra_24 ra_25 qc (Nat.le_refl 1)) kw_1501 rfl rfl dX12_image_84 (Nat.le_of_ble_eq_true rfl) ⟨Nat.le_trans (by decide) hRf, Nat.le_trans (by decide) hRl⟩ (Nat.zero_le _) (Nat.zero_le _) (fun H locs M hEF => ?_)
  refine lv_aload_n hx hb dX12_image_87 rfl (lv_at hl 0 rfl) ?_
  replace q := nn_s q
  obtain ⟨a_28, e_a_28, q⟩ := q
  refine x_getR hx hb hown hX M e_a_28 okX12 ra0 (by decide) rfl kw_1019 dX12_image_88 (fun ra_28 => ?_)
  refine lv_aload_n hx hb dX12_image_91 rfl (lv_at hl 0 rfl) ?_
  replace q := nn_s q
  obtain ⟨a_29, e_a_29, q⟩ := q
  refine x_getR hx hb hown hX M e_a_29 okX12 ra0 (by decide) rfl kw_1041 dX12_image_92 (fun ra_29 => ?_)
  replace q := c2_s q
  obtain ⟨u_31, g_30, qc, q⟩ := q
  refine x_callS hx hb hml hl.1 hown hX M (S1 := S) (As := [.ref a_28, .ref a_29]) (rest := []) kw_1502 mok_X12_ints (c_X12_ints ra_28 ra_29 qc (Nat.le_refl 1)) kw_1501 rfl rfl dX12_image_95 (Nat.le_of_ble_eq_true rfl) ⟨Nat.le_trans (by decide) hRf, Nat.le_trans (by decide) hRl⟩ (Nat.zero_le _) (Nat.zero_le _) (fun H locs M hEF => ?_)
  refine lv_aload_n hx hb dX12_image_98 rfl (lv_at hl 0 rfl) ?_
  replace q := nn_s q
  obtain ⟨a_32, e_a_32, q⟩ := q
  refine x_getR hx hb hown hX M e_a_32 okX12 ra0 (by decide) rfl kw_1020 dX12_image_99 (fun ra_32 => ?_)
  refine lv_aload_n hx hb dX12_image_102 rfl (lv_at hl 0 rfl) ?_
  replace q := nn_s q
  obtain ⟨a_33, e_a_33, q⟩ := q
  refine x_getR hx hb hown hX M e_a_33 okX12 ra0 (by decide) rfl kw_1042 dX12_image_103 (fun ra_33 => ?_)
  replace q := c2_s q
  obtain ⟨u_35, g_34, qc, q⟩ := q
  refine x_callS hx hb hml hl.1 hown hX M (S1 := S) (As := [.ref a_32, .ref a_33]) (rest := []) kw_1508 mok_X12_truths (c_X12_truths ra_32 ra_33 qc (Nat.le_refl 1)) kw_1507 rfl rfl dX12_image_106 (Nat.le_of_ble_eq_true rfl) ⟨Nat.le_trans (by decide) hRf, Nat.le_trans (by decide) hRl⟩ (Nat.zero_le _) (Nat.zero_le _) (fun H locs M hEF => ?_)
  refine lv_aload_n hx hb dX12_image_109 rfl (lv_at hl 0 rfl) ?_
  replace q := nn_s q
  obtain ⟨a_36, e_a_36, q⟩ := q
  refine x_getR hx hb hown hX M e_a_36 okX12 ra0 (by decide) rfl kw_1021 dX12_image_110 (fun ra_36 => ?_)
  refine lv_aload_n hx hb dX12_image_113 rfl (lv_at hl 0 rfl) ?_
  replace q := nn_s q
  obtain ⟨a_37, e_a_37, q⟩ := q
  refine x_getR hx hb hown hX M e_a_37 okX12 ra0 (by decide) rfl kw_1043 dX12_image_114 (fun ra_37 => ?_)
  replace q := c2_s q
  obtain ⟨u_39, g_38, qc, q⟩ := q
  refine x_callS hx hb hml hl.1 hown hX M (S1 := S) (As := [.ref a_36, .ref a_37]) (rest := []) kw_1502 mok_X12_ints (c_X12_ints ra_36 ra_37 qc (Nat.le_refl 1)) kw_1501 rfl rfl dX12_image_117 (Nat.le_of_ble_eq_true rfl) ⟨Nat.le_trans (by decide) hRf, Nat.le_trans (by decide) hRl⟩ (Nat.zero_le _) (Nat.zero_le _) (fun H locs M hEF => ?_)
  refine lv_aload_n hx hb dX12_image_120 rfl (lv_at hl 0 rfl) ?_
  replace q := nn_s q
  obtain ⟨a_40, e_a_40, q⟩ := q
  refine x_getR hx hb hown hX M e_a_40 okX12 ra0 (by decide) rfl kw_1022 dX12_image_121 (fun ra_40 => ?_)
  refine lv_aload_n hx hb dX12_image_124 rfl (lv_at hl 0 rfl) ?_
  replace q := nn_s q
  obtain ⟨a_41, e_a_41, q⟩ := q
  refine x_getR hx hb hown hX M e_a_41 okX12 ra0 (by decide) rfl kw_1044 dX12_image_125 (fun ra_41 => ?_)
  replace q := c2_s q
  obtain ⟨u_43, g_42, qc, q⟩ := q
  refine x_callS hx hb hml hl.1 hown hX M (S1 := S) (As := [.ref a_40, .ref a_41]) (rest := []) kw_1502 mok_X12_ints (c_X12_ints ra_40 ra_41 qc (Nat.le_refl 1)) kw_1501 rfl rfl dX12_image_128 (Nat.le_of_ble_eq_true rfl) ⟨Nat.le_trans (by decide) hRf, Nat.le_trans (by decide) hRl⟩ (Nat.zero_le _) (Nat.zero_le _) (fun H locs M hEF => ?_)
  refine lv_aload_n hx hb dX12_image_131 rfl (lv_at hl 0 rfl) ?_
  replace q := nn_s q
  obtain ⟨a_44, e_a_44, q⟩ := q
  refine x_getR hx hb hown hX M e_a_44 okX12 ra0 (by decide) rfl kw_1023 dX12_image_132 (fun ra_44 => ?_)
  refine lv_aload_n hx hb dX12_image_135 rfl (lv_at hl 0 rfl) ?_
  replace q := nn_s q
  obtain ⟨a_45, e_a_45, q⟩ := q
  refine x_getR hx hb hown hX M e_a_45 okX12 ra0 (by decide) rfl kw_1045 dX12_image_136 (fun ra_45 => ?_)
  replace q := c2_s q
  obtain ⟨u_47, g_46, qc, q⟩ := q
  refine x_callS hx hb hml hl.1 hown hX M (S1 := S) (As := [.ref a_44, .ref a_45]) (rest := []) kw_1505 mok_X12_longs (c_X12_longs ra_44 ra_45 qc (Nat.le_refl 1)) kw_1504 rfl rfl dX12_image_139 (Nat.le_of_ble_eq_true rfl) ⟨Nat.le_trans (by decide) hRf, Nat.le_trans (by decide) hRl⟩ (Nat.zero_le _) (Nat.zero_le _) (fun H locs M hEF => ?_)
  refine lv_aload_n hx hb dX12_image_142 rfl (lv_at hl 0 rfl) ?_
  replace q := nn_s q
  obtain ⟨a_48, e_a_48, q⟩ := q
  refine x_getR hx hb hown hX M e_a_48 okX12 ra0 (by decide) rfl kw_1024 dX12_image_143 (fun ra_48 => ?_)
  refine lv_aload_n hx hb dX12_image_146 rfl (lv_at hl 0 rfl) ?_
  replace q := nn_s q
  obtain ⟨a_49, e_a_49, q⟩ := q
  refine x_getR hx hb hown hX M e_a_49 okX12 ra0 (by decide) rfl kw_1046 dX12_image_147 (fun ra_49 => ?_)
  replace q := c2_s q
  obtain ⟨u_51, g_50, qc, q⟩ := q
  refine x_callS hx hb hml hl.1 hown hX M (S1 := S) (As := [.ref a_48, .ref a_49]) (rest := []) kw_1502 mok_X12_ints (c_X12_ints ra_48 ra_49 qc (Nat.le_refl 1)) kw_1501 rfl rfl dX12_image_150 (Nat.le_of_ble_eq_true rfl) ⟨Nat.le_trans (by decide) hRf, Nat.le_trans (by decide) hRl⟩ (Nat.zero_le _) (Nat.zero_le _) (fun H locs M hEF => ?_)
  refine lv_aload_n hx hb dX12_image_153 rfl (lv_at hl 0 rfl) ?_
  replace q := nn_s q
  obtain ⟨a_52, e_a_52, q⟩ := q
  refine x_getR hx hb hown hX M e_a_52 okX12 ra0 (by decide) rfl kw_1025 dX12_image_154 (fun ra_52 => ?_)
  refine lv_aload_n hx hb dX12_image_157 rfl (lv_at hl 0 rfl) ?_
  replace q := nn_s q
  obtain ⟨a_53, e_a_53, q⟩ := q
  refine x_getR hx hb hown hX M e_a_53 okX12 ra0 (by decide) rfl kw_1047 dX12_image_158 (fun ra_53 => ?_)
  replace q := c2_s q
  obtain ⟨u_55, g_54, qc, q⟩ := q
  refine x_callS hx hb hml hl.1 hown hX M (S1 := S) (As := [.ref a_52, .ref a_53]) (rest := []) kw_1502 mok_X12_ints (c_X12_ints ra_52 ra_53 qc (Nat.le_refl 1)) kw_1501 rfl rfl dX12_image_161 (Nat.le_of_ble_eq_true rfl) ⟨Nat.le_trans (by decide) hRf, Nat.le_trans (by decide) hRl⟩ (Nat.zero_le _) (Nat.zero_le _) (fun H locs M hEF => ?_)
  refine lv_aload_n hx hb dX12_image_164 rfl (lv_at hl 0 rfl) ?_
  replace q := nn_s q
  obtain ⟨a_56, e_a_56, q⟩ := q
  refine x_getR hx hb hown hX M e_a_56 okX12 ra0 (by decide) rfl kw_1026 dX12_image_165 (fun ra_56 => ?_)
  refine lv_aload_n hx hb dX12_image_168 rfl (lv_at hl 0 rfl) ?_
  replace q := nn_s q
  obtain ⟨a_57, e_a_57, q⟩ := q
  refine x_getR hx hb hown hX M e_a_57 okX12 ra0 (by decide) rfl kw_1048 dX12_image_169 (fun ra_57 => ?_)
  replace q := c2_s q
  obtain ⟨u_59, g_58, qc, q⟩ := q
  refine x_callS hx hb hml hl.1 hown hX M (S1 := S) (As := [.ref a_56, .ref a_57]) (rest := []) kw_1508 mok_X12_truths (c_X12_truths ra_56 ra_57 qc (Nat.le_refl 1)) kw_1507 rfl rfl dX12_image_172 (Nat.le_of_ble_eq_true rfl) ⟨Nat.le_trans (by decide) hRf, Nat.le_trans (by decide) hRl⟩ (Nat.zero_le _) (Nat.zero_le _) (fun H locs M hEF => ?_)
  refine lv_aload_n hx hb dX12_image_175 rfl (lv_at hl 0 rfl) ?_
  replace q := nn_s q
  obtain ⟨a_60, e_a_60, q⟩ := q
  refine x_getR hx hb hown hX M e_a_60 okX12 ra0 (by decide) rfl kw_1027 dX12_image_176 (fun ra_60 => ?_)
  refine lv_aload_n hx hb dX12_image_179 rfl (lv_at hl 0 rfl) ?_
  replace q := nn_s q
  obtain ⟨a_61, e_a_61, q⟩ := q
  refine x_getR hx hb hown hX M e_a_61 okX12 ra0 (by decide) rfl kw_1049 dX12_image_180 (fun ra_61 => ?_)
  replace q := c2_s q
  obtain ⟨u_63, g_62, qc, q⟩ := q
  refine x_callS hx hb hml hl.1 hown hX M (S1 := S) (As := [.ref a_60, .ref a_61]) (rest := []) kw_1502 mok_X12_ints (c_X12_ints ra_60 ra_61 qc (Nat.le_refl 1)) kw_1501 rfl rfl dX12_image_183 (Nat.le_of_ble_eq_true rfl) ⟨Nat.le_trans (by decide) hRf, Nat.le_trans (by decide) hRl⟩ (Nat.zero_le _) (Nat.zero_le _) (fun H locs M hEF => ?_)
  refine lv_aload_n hx hb dX12_image_186 rfl (lv_at hl 0 rfl) ?_
  replace q := nn_s q
  obtain ⟨a_64, e_a_64, q⟩ := q
  refine x_getR hx hb hown hX M e_a_64 okX12 ra0 (by decide) rfl kw_1029 dX12_image_187 (fun ra_64 => ?_)
  refine lv_aload_n hx hb dX12_image_190 rfl (lv_at hl 0 rfl) ?_
  replace q := nn_s q
  obtain ⟨a_65, e_a_65, q⟩ := q
  refine x_getR hx hb hown hX M e_a_65 okX12 ra0 (by decide) rfl kw_1051 dX12_image_191 (fun ra_65 => ?_)
  replace q := c2_s q
  obtain ⟨u_67, g_66, qc, q⟩ := q
  refine x_callS hx hb hml hl.1 hown hX M (S1 := S) (As := [.ref a_64, .ref a_65]) (rest := []) kw_1502 mok_X12_ints (c_X12_ints ra_64 ra_65 qc (Nat.le_refl 1)) kw_1501 rfl rfl dX12_image_194 (Nat.le_of_ble_eq_true rfl) ⟨Nat.le_trans (by decide) hRf, Nat.le_trans (by decide) hRl⟩ (Nat.zero_le _) (Nat.zero_le _) (fun H locs M hEF => ?_)
  refine lv_aload_n hx hb dX12_image_197 rfl (lv_at hl 0 rfl) ?_
  replace q := nn_s q
  obtain ⟨a_68, e_a_68, q⟩ := q
  refine x_getR hx hb hown hX M e_a_68 okX12 ra0 (by decide) rfl kw_1030 dX12_image_198 (fun ra_68 => ?_)
  refine lv_aload_n hx hb dX12_image_201 rfl (lv_at hl 0 rfl) ?_
  replace q := nn_s q
  obtain ⟨a_69, e_a_69, q⟩ := q
  refine x_getR hx hb hown hX M e_a_69 okX12 ra0 (by decide) rfl kw_1052 dX12_image_202 (fun ra_69 => ?_)
  replace q := c2_s q
  obtain ⟨u_71, g_70, qc, q⟩ := q
  refine x_callS hx hb hml hl.1 hown hX M (S1 := S) (As := [.ref a_68, .ref a_69]) (rest := []) kw_1508 mok_X12_truths (c_X12_truths ra_68 ra_69 qc (Nat.le_refl 1)) kw_1507 rfl rfl dX12_image_205 (Nat.le_of_ble_eq_true rfl) ⟨Nat.le_trans (by decide) hRf, Nat.le_trans (by decide) hRl⟩ (Nat.zero_le _) (Nat.zero_le _) (fun H locs M hEF => ?_)
  refine lv_aload_n hx hb dX12_image_208 rfl (lv_at hl 0 rfl) ?_
  replace q := nn_s q
  obtain ⟨a_72, e_a_72, q⟩ := q
  refine x_getR hx hb hown hX M e_a_72 okX12 ra0 (by decide) rfl kw_1031 dX12_image_209 (fun ra_72 => ?_)
  refine lv_aload_n hx hb dX12_image_212 rfl (lv_at hl 0 rfl) ?_
  replace q := nn_s q
  obtain ⟨a_73, e_a_73, q⟩ := q
  refine x_getR hx hb hown hX M e_a_73 okX12 ra0 (by decide) rfl kw_1053 dX12_image_213 (fun ra_73 => ?_)
  replace q := c2_s q
  obtain ⟨u_75, g_74, qc, q⟩ := q
  refine x_callS hx hb hml hl.1 hown hX M (S1 := S) (As := [.ref a_72, .ref a_73]) (rest := []) kw_1502 mok_X12_ints (c_X12_ints ra_72 ra_73 qc (Nat.le_refl 1)) kw_1501 rfl rfl dX12_image_216 (Nat.le_of_ble_eq_true rfl) ⟨Nat.le_trans (by decide) hRf, Nat.le_trans (by decide) hRl⟩ (Nat.zero_le _) (Nat.zero_le _) (fun H locs M hEF => ?_)
  refine lv_aload_n hx hb dX12_image_219 rfl (lv_at hl 0 rfl) ?_
  replace q := nn_s q
  obtain ⟨a_76, e_a_76, q⟩ := q
  refine x_getR hx hb hown hX M e_a_76 okX12 ra0 (by decide) rfl kw_1032 dX12_image_220 (fun ra_76 => ?_)
  refine lv_aload_n hx hb dX12_image_223 rfl (lv_at hl 0 rfl) ?_
  replace q := nn_s q
  obtain ⟨a_77, e_a_77, q⟩ := q
  refine x_getR hx hb hown hX M e_a_77 okX12 ra0 (by decide) rfl kw_1054 dX12_image_224 (fun ra_77 => ?_)
  replace q := c2_s q
  obtain ⟨u_79, g_78, qc, q⟩ := q
  refine x_callS hx hb hml hl.1 hown hX M (S1 := S) (As := [.ref a_76, .ref a_77]) (rest := []) kw_1502 mok_X12_ints (c_X12_ints ra_76 ra_77 qc (Nat.le_refl 1)) kw_1501 rfl rfl dX12_image_227 (Nat.le_of_ble_eq_true rfl) ⟨Nat.le_trans (by decide) hRf, Nat.le_trans (by decide) hRl⟩ (Nat.zero_le _) (Nat.zero_le _) (fun H locs M hEF => ?_)
  refine lv_iconst (v := 1) hx hb dX12_image_230 (by decide) ?_
  cases q
  exact x_zret hx hb hr hlk rfl M Ext.rf dX12_image_231
set_option maxRecDepth 100000 in
theorem c_X12_image {l : Launch} {D : va_G} {cA : Nat → ClassId} {lo tS N : Nat} {S : Hs} {g g1 : Hg} {rv : Int32} {a0 : Nat} (ra0 : Rf lo S a0 12) (q : f_X12_image N S g a0 = some (rv, g1)) {d : Nat} (hd : 2 ≤ d) : Ctr l yX12_image cX12_image 1 (some .boolean) D cA lo tS [.ref a0] S g d (some (.int rv)) S g1 True 0 0 := by
  refine x_met (by decide) (Nat.le_of_ble_eq_true rfl) ?_
  intro p e s m below meth c ls hx hb hml hr hlk hown hnm hX M hl
  exact w_X12_image_0 hx hb hml hr hlk hown hX hd (Nat.mul_le_mul_left 60 hd) (N := N) _ _ _ _ _ M ra0 (lv_sub hl [0] rfl) q
def b_X12_init_0 (N : Nat) (S : Hs) (g : Hg) (a0 : Nat) : Option (Unit × Hs × Hg × Nat × Nat) :=
ck (lenok (24 : Int32)) (
al S g 20 (24 : Int32).toNatClampNeg (fun a_6 S_1 g_2 =>
nm (wrR g_2 a0 0 (some a_6)) (fun g_7 =>
ck (lenok (2400 : Int32)) (
al S_1 g_7 20 (2400 : Int32).toNatClampNeg (fun a_13 S_8 g_9 =>
nm (wrR g_9 a0 2 (some a_13)) (fun g_14 =>
ck (lenok (2400 : Int32)) (
al S_8 g_14 21 (2400 : Int32).toNatClampNeg (fun a_20 S_15 g_16 =>
nm (wrR g_16 a0 3 (some a_20)) (fun g_21 =>
ck (lenok (2400 : Int32)) (
al S_15 g_21 22 (2400 : Int32).toNatClampNeg (fun a_27 S_22 g_23 =>
nm (wrR g_23 a0 4 (some a_27)) (fun g_28 =>
ck (lenok (2400 : Int32)) (
al S_22 g_28 22 (2400 : Int32).toNatClampNeg (fun a_34 S_29 g_30 =>
nm (wrR g_30 a0 5 (some a_34)) (fun g_35 =>
ck (lenok (600 : Int32)) (
al S_29 g_35 20 (600 : Int32).toNatClampNeg (fun a_41 S_36 g_37 =>
nm (wrR g_37 a0 6 (some a_41)) (fun g_42 =>
ck (lenok (600 : Int32)) (
al S_36 g_42 20 (600 : Int32).toNatClampNeg (fun a_48 S_43 g_44 =>
nm (wrR g_44 a0 7 (some a_48)) (fun g_49 =>
ck (lenok (600 : Int32)) (
al S_43 g_49 22 (600 : Int32).toNatClampNeg (fun a_55 S_50 g_51 =>
nm (wrR g_51 a0 8 (some a_55)) (fun g_56 =>
ck (lenok (128 : Int32)) (
al S_50 g_56 20 (128 : Int32).toNatClampNeg (fun a_62 S_57 g_58 =>
nm (wrR g_58 a0 9 (some a_62)) (fun g_63 =>
ck (lenok (640 : Int32)) (
al S_57 g_63 20 (640 : Int32).toNatClampNeg (fun a_69 S_64 g_65 =>
nm (wrR g_65 a0 10 (some a_69)) (fun g_70 =>
ck (lenok (640 : Int32)) (
al S_64 g_70 21 (640 : Int32).toNatClampNeg (fun a_76 S_71 g_72 =>
nm (wrR g_72 a0 11 (some a_76)) (fun g_77 =>
ck (lenok (32768 : Int32)) (
al S_71 g_77 20 (32768 : Int32).toNatClampNeg (fun a_83 S_78 g_79 =>
nm (wrR g_79 a0 12 (some a_83)) (fun g_84 =>
ck (lenok (336 : Int32)) (
al S_78 g_84 20 (336 : Int32).toNatClampNeg (fun a_90 S_85 g_86 =>
nm (wrR g_86 a0 13 (some a_90)) (fun g_91 =>
ck (lenok (12 : Int32)) (
al S_85 g_91 22 (12 : Int32).toNatClampNeg (fun a_97 S_92 g_93 =>
nm (wrR g_93 a0 14 (some a_97)) (fun g_98 =>
ck (lenok (3360 : Int32)) (
al S_92 g_98 20 (3360 : Int32).toNatClampNeg (fun a_104 S_99 g_100 =>
nm (wrR g_100 a0 15 (some a_104)) (fun g_105 =>
ck (lenok (40 : Int32)) (
al S_99 g_105 20 (40 : Int32).toNatClampNeg (fun a_111 S_106 g_107 =>
nm (wrR g_107 a0 17 (some a_111)) (fun g_112 =>
ck (lenok (8 : Int32)) (
al S_106 g_112 22 (8 : Int32).toNatClampNeg (fun a_118 S_113 g_114 =>
nm (wrR g_114 a0 18 (some a_118)) (fun g_119 =>
ck (lenok (3200 : Int32)) (
al S_113 g_119 20 (3200 : Int32).toNatClampNeg (fun a_125 S_120 g_121 =>
nm (wrR g_121 a0 19 (some a_125)) (fun g_126 =>
ck (lenok (3200 : Int32)) (
al S_120 g_126 20 (3200 : Int32).toNatClampNeg (fun a_132 S_127 g_128 =>
nm (wrR g_128 a0 20 (some a_132)) (fun g_133 =>
ck (lenok (24 : Int32)) (
al S_127 g_133 20 (24 : Int32).toNatClampNeg (fun a_139 S_134 g_135 =>
nm (wrR g_135 a0 22 (some a_139)) (fun g_140 =>
ck (lenok (2400 : Int32)) (
al S_134 g_140 20 (2400 : Int32).toNatClampNeg (fun a_146 S_141 g_142 =>
nm (wrR g_142 a0 24 (some a_146)) (fun g_147 =>
ck (lenok (2400 : Int32)) (
al S_141 g_147 21 (2400 : Int32).toNatClampNeg (fun a_153 S_148 g_149 =>
nm (wrR g_149 a0 25 (some a_153)) (fun g_154 =>
ck (lenok (2400 : Int32)) (
al S_148 g_154 22 (2400 : Int32).toNatClampNeg (fun a_160 S_155 g_156 =>
nm (wrR g_156 a0 26 (some a_160)) (fun g_161 =>
ck (lenok (2400 : Int32)) (
al S_155 g_161 22 (2400 : Int32).toNatClampNeg (fun a_167 S_162 g_163 =>
nm (wrR g_163 a0 27 (some a_167)) (fun g_168 =>
ck (lenok (600 : Int32)) (
al S_162 g_168 20 (600 : Int32).toNatClampNeg (fun a_174 S_169 g_170 =>
nm (wrR g_170 a0 28 (some a_174)) (fun g_175 =>
ck (lenok (600 : Int32)) (
al S_169 g_175 20 (600 : Int32).toNatClampNeg (fun a_181 S_176 g_177 =>
nm (wrR g_177 a0 29 (some a_181)) (fun g_182 =>
ck (lenok (600 : Int32)) (
al S_176 g_182 22 (600 : Int32).toNatClampNeg (fun a_188 S_183 g_184 =>
nm (wrR g_184 a0 30 (some a_188)) (fun g_189 =>
ck (lenok (128 : Int32)) (
al S_183 g_189 20 (128 : Int32).toNatClampNeg (fun a_195 S_190 g_191 =>
nm (wrR g_191 a0 31 (some a_195)) (fun g_196 =>
ck (lenok (640 : Int32)) (
al S_190 g_196 20 (640 : Int32).toNatClampNeg (fun a_202 S_197 g_198 =>
nm (wrR g_198 a0 32 (some a_202)) (fun g_203 =>
ck (lenok (640 : Int32)) (
al S_197 g_203 21 (640 : Int32).toNatClampNeg (fun a_209 S_204 g_205 =>
nm (wrR g_205 a0 33 (some a_209)) (fun g_210 =>
ck (lenok (32768 : Int32)) (
al S_204 g_210 20 (32768 : Int32).toNatClampNeg (fun a_216 S_211 g_212 =>
nm (wrR g_212 a0 34 (some a_216)) (fun g_217 =>
ck (lenok (336 : Int32)) (
al S_211 g_217 20 (336 : Int32).toNatClampNeg (fun a_223 S_218 g_219 =>
nm (wrR g_219 a0 35 (some a_223)) (fun g_224 =>
ck (lenok (12 : Int32)) (
al S_218 g_224 22 (12 : Int32).toNatClampNeg (fun a_230 S_225 g_226 =>
nm (wrR g_226 a0 36 (some a_230)) (fun g_231 =>
ck (lenok (3360 : Int32)) (
al S_225 g_231 20 (3360 : Int32).toNatClampNeg (fun a_237 S_232 g_233 =>
nm (wrR g_233 a0 37 (some a_237)) (fun g_238 =>
ck (lenok (40 : Int32)) (
al S_232 g_238 20 (40 : Int32).toNatClampNeg (fun a_244 S_239 g_240 =>
nm (wrR g_240 a0 39 (some a_244)) (fun g_245 =>
ck (lenok (8 : Int32)) (
al S_239 g_245 22 (8 : Int32).toNatClampNeg (fun a_251 S_246 g_247 =>
nm (wrR g_247 a0 40 (some a_251)) (fun g_252 =>
ck (lenok (3200 : Int32)) (
al S_246 g_252 20 (3200 : Int32).toNatClampNeg (fun a_258 S_253 g_254 =>
nm (wrR g_254 a0 41 (some a_258)) (fun g_259 =>
ck (lenok (3200 : Int32)) (
al S_253 g_259 20 (3200 : Int32).toNatClampNeg (fun a_265 S_260 g_261 =>
nm (wrR g_261 a0 42 (some a_265)) (fun g_266 =>
ck (lenok (24 : Int32)) (
al S_260 g_266 20 (24 : Int32).toNatClampNeg (fun a_272 S_267 g_268 =>
nm (wrR g_268 a0 43 (some a_272)) (fun g_273 =>
ck (lenok (8 : Int32)) (
al S_267 g_273 20 (8 : Int32).toNatClampNeg (fun a_279 S_274 g_275 =>
nm (wrR g_275 a0 44 (some a_279)) (fun g_280 =>
ck (lenok (256 : Int32)) (
al S_274 g_280 20 (256 : Int32).toNatClampNeg (fun a_286 S_281 g_282 =>
nm (wrR g_282 a0 45 (some a_286)) (fun g_287 =>
ck (lenok (64 : Int32)) (
al S_281 g_287 20 (64 : Int32).toNatClampNeg (fun a_293 S_288 g_289 =>
nm (wrR g_289 a0 46 (some a_293)) (fun g_294 =>
ck (lenok (64 : Int32)) (
al S_288 g_294 20 (64 : Int32).toNatClampNeg (fun a_300 S_295 g_296 =>
nm (wrR g_296 a0 47 (some a_300)) (fun g_301 =>
ck (lenok (512 : Int32)) (
al S_295 g_301 20 (512 : Int32).toNatClampNeg (fun a_307 S_302 g_303 =>
nm (wrR g_303 a0 48 (some a_307)) (fun g_308 =>
ck (lenok (8 : Int32)) (
al S_302 g_308 20 (8 : Int32).toNatClampNeg (fun a_314 S_309 g_310 =>
nm (wrR g_310 a0 50 (some a_314)) (fun g_315 =>
ck (lenok (8 : Int32)) (
al S_309 g_315 20 (8 : Int32).toNatClampNeg (fun a_321 S_316 g_317 =>
nm (wrR g_317 a0 51 (some a_321)) (fun g_322 =>
ck (lenok (400 : Int32)) (
al S_316 g_322 20 (400 : Int32).toNatClampNeg (fun a_328 S_323 g_324 =>
nm (wrR g_324 a0 52 (some a_328)) (fun g_329 =>
ck (lenok (400 : Int32)) (
al S_323 g_329 20 (400 : Int32).toNatClampNeg (fun a_335 S_330 g_331 =>
nm (wrR g_331 a0 53 (some a_335)) (fun g_336 =>
ck (lenok (3200 : Int32)) (
al S_330 g_336 20 (3200 : Int32).toNatClampNeg (fun a_342 S_337 g_338 =>
nm (wrR g_338 a0 54 (some a_342)) (fun g_343 =>
ck (lenok (400 : Int32)) (
al S_337 g_343 20 (400 : Int32).toNatClampNeg (fun a_349 S_344 g_345 =>
nm (wrR g_345 a0 55 (some a_349)) (fun g_350 =>
ck (lenok (400 : Int32)) (
al S_344 g_350 20 (400 : Int32).toNatClampNeg (fun a_356 S_351 g_352 =>
nm (wrR g_352 a0 56 (some a_356)) (fun g_357 =>
ck (lenok (4160 : Int32)) (
al S_351 g_357 20 (4160 : Int32).toNatClampNeg (fun a_363 S_358 g_359 =>
nm (wrR g_359 a0 58 (some a_363)) (fun g_364 =>
ck (lenok (28 : Int32)) (
al S_358 g_364 20 (28 : Int32).toNatClampNeg (fun a_370 S_365 g_366 =>
nm (wrR g_366 a0 59 (some a_370)) (fun g_371 =>
ck (lenok (8 : Int32)) (
al S_365 g_371 20 (8 : Int32).toNatClampNeg (fun a_377 S_372 g_373 =>
nm (wrR g_373 a0 60 (some a_377)) (fun g_378 =>
ck (lenok (8 : Int32)) (
al S_372 g_378 20 (8 : Int32).toNatClampNeg (fun a_384 S_379 g_380 =>
nm (wrR g_380 a0 61 (some a_384)) (fun g_385 =>
ck (lenok (8 : Int32)) (
al S_379 g_385 20 (8 : Int32).toNatClampNeg (fun a_391 S_386 g_387 =>
nm (wrR g_387 a0 64 (some a_391)) (fun g_392 =>
ck (lenok (8 : Int32)) (
al S_386 g_392 20 (8 : Int32).toNatClampNeg (fun a_398 S_393 g_394 =>
nm (wrR g_394 a0 65 (some a_398)) (fun g_399 =>
some ((), S_393, g_399, 0, 0))))))))))))))))))))))))))))))))))))))))))))))))))))))))))))))))))))))))))))))))))))))))))))))))))))))))))))))))))))))))))))))))))))))))))))))))))))))))))))))))))))))))))))
def f_X12_init (N : Nat) (S : Hs) (g : Hg) (a0 : Nat) : Option (Unit × Hs × Hg × Nat × Nat) := b_X12_init_0 N S g a0
set_option maxHeartbeats 4000000 in
set_option maxRecDepth 100000 in
theorem w_X12_init_0 (hx : p.tables.exec = Jvm.exec) (hb : c.code = cX12_init) (hml : c.maxLocals = 1) (hr : meth.sig.returnType = none) (hlk : meth.locks = false) (hown : s.vm.findClass RX12 = some m.cls) (hX : Kx D cA lo tS s) (hRf : 1 ≤ R.frames) (hRl : 60 ≤ R.locals) (hnm : meth.name = "<init>") {N : Nat} {rv : Unit} {g1 : Hg} {S0 S1 : Hs} {cT wT : Nat} (hRc : cT ≤ R.cells) (hRs : wT ≤ R.slots) : ∀ (H : Heap) (locs : List Loc) (ls : Array Slot) (cells slots k w : Nat) (S : Hs) (g : Hg) (a0 : Nat), Mm D cA lo S g s H locs → Ext lo S0 S → Rf lo S a0 12 → lv_has ls 1 [(0, .ref a0)] → b_X12_init_0 N S g a0 = some (rv, S1, g1, k, w) → cells + k = cT → slots + w = wT → W p l e R s m args below meth c H locs cells slots (MQ below (Qcx D cA lo S0 none S1 g1 True) args s cT wT (fun q : Nat => lo ≤ q)) (F0 m 0 ls []) := by
  intro H locs ls cells slots k w S g a0 M hE ra0 hl q hc hs
  unfold b_X12_init_0 at q
  refine lv_aload_n hx hb dX12_init_0 rfl (lv_at hl 0 rfl) ?_
  refine x_objinit hx hb hml hl.1 hown hX (rest := []) kw_1010 kw_oi kw_oc dX12_init_1 (Nat.le_of_ble_eq_true rfl) ⟨Nat.le_trans (by omega) hRf, Nat.le_trans (by omega) hRl⟩ ?_
  refine lv_aload_n hx hb dX12_init_4 rfl (lv_at hl 0 rfl) ?_
  refine lv_bipush (v := 24) hx hb dX12_init_5 (by decide) ?_
  replace q := ck_s q
  obtain ⟨hz, q⟩ := q
  replace q := al_s q
  obtain ⟨S_1, g_2, k_3, w_4, eS, eg, ek, ew, q⟩ := q
  refine x_newa20 hx hb hX M hz (hb_step hc ek hRc) (hb_step hs ew hRs) dX12_init_7 (fun H M rn_5 hE1 => ?_)
  rw [← eS, ← eg] at M
  rw [← eS] at rn_5 hE1
  clear eS eg
  replace ra0 := ra0.ext hE1
  replace hE := hE.tr hE1
  replace hc := hc_step hc ek
  replace hs := hc_step hs ew
  clear ek ew
  refine x_putR hx hb hown hX M (k := 0) (K1 := 20) okX12 ra0 (by decide) rfl rn_5 (Or.inr ⟨rfl, hnm, rfl⟩) rfl rfl kw_1012 dX12_init_9 (fun H locs M => ?_)
  replace q := gen_g M q
  obtain ⟨g_7, -, M, q⟩ := q
  refine lv_aload_n hx hb dX12_init_12 rfl (lv_at hl 0 rfl) ?_
  refine lv_sipush (v := 2400) hx hb dX12_init_13 (by decide) ?_
  replace q := ck_s q
  obtain ⟨hz, q⟩ := q
  replace q := al_s q
  obtain ⟨S_8, g_9, k_10, w_11, eS, eg, ek, ew, q⟩ := q
  refine x_newa20 hx hb hX M hz (hb_step hc ek hRc) (hb_step hs ew hRs) dX12_init_16 (fun H M rn_12 hE1 => ?_)
  rw [← eS, ← eg] at M
  rw [← eS] at rn_12 hE1
  clear eS eg
  replace ra0 := ra0.ext hE1
  replace hE := hE.tr hE1
  replace hc := hc_step hc ek
  replace hs := hc_step hs ew
  clear ek ew
  refine x_putR hx hb hown hX M (k := 2) (K1 := 20) okX12 ra0 (by decide) rfl rn_12 (Or.inr ⟨rfl, hnm, rfl⟩) rfl rfl kw_1014 dX12_init_18 (fun H locs M => ?_)
  replace q := gen_g M q
  obtain ⟨g_14, -, M, q⟩ := q
  refine lv_aload_n hx hb dX12_init_21 rfl (lv_at hl 0 rfl) ?_
  refine lv_sipush (v := 2400) hx hb dX12_init_22 (by decide) ?_
  replace q := ck_s q
  obtain ⟨hz, q⟩ := q
  replace q := al_s q
  obtain ⟨S_15, g_16, k_17, w_18, eS, eg, ek, ew, q⟩ := q
  refine x_newa21 hx hb hX M hz (hb_step hc ek hRc) (hb_step hs ew hRs) dX12_init_25 (fun H M rn_19 hE1 => ?_)
  rw [← eS, ← eg] at M
  rw [← eS] at rn_19 hE1
  clear eS eg
  replace ra0 := ra0.ext hE1
  replace hE := hE.tr hE1
  replace hc := hc_step hc ek
  replace hs := hc_step hs ew
  clear ek ew
  refine x_putR hx hb hown hX M (k := 3) (K1 := 21) okX12 ra0 (by decide) rfl rn_19 (Or.inr ⟨rfl, hnm, rfl⟩) rfl rfl kw_1015 dX12_init_27 (fun H locs M => ?_)
  replace q := gen_g M q
  obtain ⟨g_21, -, M, q⟩ := q
  refine lv_aload_n hx hb dX12_init_30 rfl (lv_at hl 0 rfl) ?_
  refine lv_sipush (v := 2400) hx hb dX12_init_31 (by decide) ?_
  replace q := ck_s q
  obtain ⟨hz, q⟩ := q
  replace q := al_s q
  obtain ⟨S_22, g_23, k_24, w_25, eS, eg, ek, ew, q⟩ := q
  refine x_newa22 hx hb hX M hz (hb_step hc ek hRc) (hb_step hs ew hRs) dX12_init_34 (fun H M rn_26 hE1 => ?_)
  rw [← eS, ← eg] at M
  rw [← eS] at rn_26 hE1
  clear eS eg
  replace ra0 := ra0.ext hE1
  replace hE := hE.tr hE1
  replace hc := hc_step hc ek
  replace hs := hc_step hs ew
  clear ek ew
  refine x_putR hx hb hown hX M (k := 4) (K1 := 22) okX12 ra0 (by decide) rfl rn_26 (Or.inr ⟨rfl, hnm, rfl⟩) rfl rfl kw_1016 dX12_init_36 (fun H locs M => ?_)
  replace q := gen_g M q
  obtain ⟨g_28, -, M, q⟩ := q
  refine lv_aload_n hx hb dX12_init_39 rfl (lv_at hl 0 rfl) ?_
  refine lv_sipush (v := 2400) hx hb dX12_init_40 (by decide) ?_
  replace q := ck_s q
  obtain ⟨hz, q⟩ := q
  replace q := al_s q
  obtain ⟨S_29, g_30, k_31, w_32, eS, eg, ek, ew, q⟩ := q
  refine x_newa22 hx hb hX M hz (hb_step hc ek hRc) (hb_step hs ew hRs) dX12_init_43 (fun H M rn_33 hE1 => ?_)
  rw [← eS, ← eg] at M
  rw [← eS] at rn_33 hE1
  clear eS eg
  replace ra0 := ra0.ext hE1
  replace hE := hE.tr hE1
  replace hc := hc_step hc ek
  replace hs := hc_step hs ew
  clear ek ew
  refine x_putR hx hb hown hX M (k := 5) (K1 := 22) okX12 ra0 (by decide) rfl rn_33 (Or.inr ⟨rfl, hnm, rfl⟩) rfl rfl kw_1017 dX12_init_45 (fun H locs M => ?_)
  replace q := gen_g M q
  obtain ⟨g_35, -, M, q⟩ := q
  refine lv_aload_n hx hb dX12_init_48 rfl (lv_at hl 0 rfl) ?_
  refine lv_sipush (v := 600) hx hb dX12_init_49 (by decide) ?_
  replace q := ck_s q
  obtain ⟨hz, q⟩ := q
  replace q := al_s q
  obtain ⟨S_36, g_37, k_38, w_39, eS, eg, ek, ew, q⟩ := q
  refine x_newa20 hx hb hX M hz (hb_step hc ek hRc) (hb_step hs ew hRs) dX12_init_52 (fun H M rn_40 hE1 => ?_)
  rw [← eS, ← eg] at M
  rw [← eS] at rn_40 hE1
  clear eS eg
  replace ra0 := ra0.ext hE1
  replace hE := hE.tr hE1
  replace hc := hc_step hc ek
  replace hs := hc_step hs ew
  clear ek ew
  refine x_putR hx hb hown hX M (k := 6) (K1 := 20) okX12 ra0 (by decide) rfl rn_40 (Or.inr ⟨rfl, hnm, rfl⟩) rfl rfl kw_1018 dX12_init_54 (fun H locs M => ?_)
  replace q := gen_g M q
  obtain ⟨g_42, -, M, q⟩ := q
  refine lv_aload_n hx hb dX12_init_57 rfl (lv_at hl 0 rfl) ?_
  refine lv_sipush (v := 600) hx hb dX12_init_58 (by decide) ?_
  replace q := ck_s q
  obtain ⟨hz, q⟩ := q
  replace q := al_s q
  obtain ⟨S_43, g_44, k_45, w_46, eS, eg, ek, ew, q⟩ := q
  refine x_newa20 hx hb hX M hz (hb_step hc ek hRc) (hb_step hs ew hRs) dX12_init_61 (fun H M rn_47 hE1 => ?_)
  rw [← eS, ← eg] at M
  rw [← eS] at rn_47 hE1
  clear eS eg
  replace ra0 := ra0.ext hE1
  replace hE := hE.tr hE1
  replace hc := hc_step hc ek
  replace hs := hc_step hs ew
  clear ek ew
  refine x_putR hx hb hown hX M (k := 7) (K1 := 20) okX12 ra0 (by decide) rfl rn_47 (Or.inr ⟨rfl, hnm, rfl⟩) rfl rfl kw_1019 dX12_init_63 (fun H locs M => ?_)
  replace q := gen_g M q
  obtain ⟨g_49, -, M, q⟩ := q
  refine lv_aload_n hx hb dX12_init_66 rfl (lv_at hl 0 rfl) ?_
  refine lv_sipush (v := 600) hx hb dX12_init_67 (by decide) ?_
  replace q := ck_s q
  obtain ⟨hz, q⟩ := q
  replace q := al_s q
  obtain ⟨S_50, g_51, k_52, w_53, eS, eg, ek, ew, q⟩ := q
  refine x_newa22 hx hb hX M hz (hb_step hc ek hRc) (hb_step hs ew hRs) dX12_init_70 (fun H M rn_54 hE1 => ?_)
  rw [← eS, ← eg] at M
  rw [← eS] at rn_54 hE1
  clear eS eg
  replace ra0 := ra0.ext hE1
  replace hE := hE.tr hE1
  replace hc := hc_step hc ek
  replace hs := hc_step hs ew
  clear ek ew
  refine x_putR hx hb hown hX M (k := 8) (K1 := 22) okX12 ra0 (by decide) rfl rn_54 (Or.inr ⟨rfl, hnm, rfl⟩) rfl rfl kw_1020 dX12_init_72 (fun H locs M => ?_)
  replace q := gen_g M q
  obtain ⟨g_56, -, M, q⟩ := q
  refine lv_aload_n hx hb dX12_init_75 rfl (lv_at hl 0 rfl) ?_
  refine lv_sipush (v := 128) hx hb dX12_init_76 (by decide) ?_
  replace q := ck_s q
  obtain ⟨hz, q⟩ := q
  replace q := al_s q
  obtain ⟨S_57, g_58, k_59, w_60, eS, eg, ek, ew, q⟩ := q
  refine x_newa20 hx hb hX M hz (hb_step hc ek hRc) (hb_step hs ew hRs) dX12_init_79 (fun H M rn_61 hE1 => ?_)
  rw [← eS, ← eg] at M
  rw [← eS] at rn_61 hE1
  clear eS eg
  replace ra0 := ra0.ext hE1
  replace hE := hE.tr hE1
  replace hc := hc_step hc ek
  replace hs := hc_step hs ew
  clear ek ew
  refine x_putR hx hb hown hX M (k := 9) (K1 := 20) okX12 ra0 (by decide) rfl rn_61 (Or.inr ⟨rfl, hnm, rfl⟩) rfl rfl kw_1021 dX12_init_81 (fun H locs M => ?_)
  replace q := gen_g M q
  obtain ⟨g_63, -, M, q⟩ := q
  refine lv_aload_n hx hb dX12_init_84 rfl (lv_at hl 0 rfl) ?_
  refine lv_sipush (v := 640) hx hb dX12_init_85 (by decide) ?_
  replace q := ck_s q
  obtain ⟨hz, q⟩ := q
  replace q := al_s q
  obtain ⟨S_64, g_65, k_66, w_67, eS, eg, ek, ew, q⟩ := q
  refine x_newa20 hx hb hX M hz (hb_step hc ek hRc) (hb_step hs ew hRs) dX12_init_88 (fun H M rn_68 hE1 => ?_)
  rw [← eS, ← eg] at M
  rw [← eS] at rn_68 hE1
  clear eS eg
  replace ra0 := ra0.ext hE1
  replace hE := hE.tr hE1
  replace hc := hc_step hc ek
  replace hs := hc_step hs ew
  clear ek ew
  refine x_putR hx hb hown hX M (k := 10) (K1 := 20) okX12 ra0 (by decide) rfl rn_68 (Or.inr ⟨rfl, hnm, rfl⟩) rfl rfl kw_1022 dX12_init_90 (fun H locs M => ?_)
  replace q := gen_g M q
  obtain ⟨g_70, -, M, q⟩ := q
  refine lv_aload_n hx hb dX12_init_93 rfl (lv_at hl 0 rfl) ?_
  refine lv_sipush (v := 640) hx hb dX12_init_94 (by decide) ?_
  replace q := ck_s q
  obtain ⟨hz, q⟩ := q
  replace q := al_s q
  obtain ⟨S_71, g_72, k_73, w_74, eS, eg, ek, ew, q⟩ := q
  refine x_newa21 hx hb hX M hz (hb_step hc ek hRc) (hb_step hs ew hRs) dX12_init_97 (fun H M rn_75 hE1 => ?_)
  rw [← eS, ← eg] at M
  rw [← eS] at rn_75 hE1
  clear eS eg
  replace ra0 := ra0.ext hE1
  replace hE := hE.tr hE1
  replace hc := hc_step hc ek
  replace hs := hc_step hs ew
  clear ek ew
  refine x_putR hx hb hown hX M (k := 11) (K1 := 21) okX12 ra0 (by decide) rfl rn_75 (Or.inr ⟨rfl, hnm, rfl⟩) rfl rfl kw_1023 dX12_init_99 (fun H locs M => ?_)
  replace q := gen_g M q
  obtain ⟨g_77, -, M, q⟩ := q
  refine lv_aload_n hx hb dX12_init_102 rfl (lv_at hl 0 rfl) ?_
  refine lv_ldc (v := 32768) hx hb hown (hX.hts _ _ (mw kw_1011 rfl)) dX12_init_103 ?_
  replace q := ck_s q
  obtain ⟨hz, q⟩ := q
  replace q := al_s q
  obtain ⟨S_78, g_79, k_80, w_81, eS, eg, ek, ew, q⟩ := q
  refine x_newa20 hx hb hX M hz (hb_step hc ek hRc) (hb_step hs ew hRs) dX12_init_105 (fun H M rn_82 hE1 => ?_)
  rw [← eS, ← eg] at M
  rw [← eS] at rn_82 hE1
  clear eS eg
  replace ra0 := ra0.ext hE1
  replace hE := hE.tr hE1
  replace hc := hc_step hc ek
  replace hs := hc_step hs ew
  clear ek ew
  refine x_putR hx hb hown hX M (k := 12) (K1 := 20) okX12 ra0 (by decide) rfl rn_82 (Or.inr ⟨rfl, hnm, rfl⟩) rfl rfl kw_1024 dX12_init_107 (fun H locs M => ?_)
  replace q := gen_g M q
  obtain ⟨g_84, -, M, q⟩ := q
  refine lv_aload_n hx hb dX12_init_110 rfl (lv_at hl 0 rfl) ?_
  refine lv_sipush (v := 336) hx hb dX12_init_111 (by decide) ?_
  replace q := ck_s q
  obtain ⟨hz, q⟩ := q
  replace q := al_s q
  obtain ⟨S_85, g_86, k_87, w_88, eS, eg, ek, ew, q⟩ := q
  refine x_newa20 hx hb hX M hz (hb_step hc ek hRc) (hb_step hs ew hRs) dX12_init_114 (fun H M rn_89 hE1 => ?_)
  rw [← eS, ← eg] at M
  rw [← eS] at rn_89 hE1
  clear eS eg
  replace ra0 := ra0.ext hE1
  replace hE := hE.tr hE1
  replace hc := hc_step hc ek
  replace hs := hc_step hs ew
  clear ek ew
  refine x_putR hx hb hown hX M (k := 13) (K1 := 20) okX12 ra0 (by decide) rfl rn_89 (Or.inr ⟨rfl, hnm, rfl⟩) rfl rfl kw_1025 dX12_init_116 (fun H locs M => ?_)
  replace q := gen_g M q
  obtain ⟨g_91, -, M, q⟩ := q
  refine lv_aload_n hx hb dX12_init_119 rfl (lv_at hl 0 rfl) ?_
  refine lv_bipush (v := 12) hx hb dX12_init_120 (by decide) ?_
  replace q := ck_s q
  obtain ⟨hz, q⟩ := q
  replace q := al_s q
  obtain ⟨S_92, g_93, k_94, w_95, eS, eg, ek, ew, q⟩ := q
  refine x_newa22 hx hb hX M hz (hb_step hc ek hRc) (hb_step hs ew hRs) dX12_init_122 (fun H M rn_96 hE1 => ?_)
  rw [← eS, ← eg] at M
  rw [← eS] at rn_96 hE1
  clear eS eg
  replace ra0 := ra0.ext hE1
  replace hE := hE.tr hE1
  replace hc := hc_step hc ek
  replace hs := hc_step hs ew
  clear ek ew
  refine x_putR hx hb hown hX M (k := 14) (K1 := 22) okX12 ra0 (by decide) rfl rn_96 (Or.inr ⟨rfl, hnm, rfl⟩) rfl rfl kw_1026 dX12_init_124 (fun H locs M => ?_)
  replace q := gen_g M q
  obtain ⟨g_98, -, M, q⟩ := q
  refine lv_aload_n hx hb dX12_init_127 rfl (lv_at hl 0 rfl) ?_
  refine lv_sipush (v := 3360) hx hb dX12_init_128 (by decide) ?_
  replace q := ck_s q
  obtain ⟨hz, q⟩ := q
  replace q := al_s q
  obtain ⟨S_99, g_100, k_101, w_102, eS, eg, ek, ew, q⟩ := q
  refine x_newa20 hx hb hX M hz (hb_step hc ek hRc) (hb_step hs ew hRs) dX12_init_131 (fun H M rn_103 hE1 => ?_)
  rw [← eS, ← eg] at M
  rw [← eS] at rn_103 hE1
  clear eS eg
  replace ra0 := ra0.ext hE1
  replace hE := hE.tr hE1
  replace hc := hc_step hc ek
  replace hs := hc_step hs ew
  clear ek ew
  refine x_putR hx hb hown hX M (k := 15) (K1 := 20) okX12 ra0 (by decide) rfl rn_103 (Or.inr ⟨rfl, hnm, rfl⟩) rfl rfl kw_1027 dX12_init_133 (fun H locs M => ?_)
  replace q := gen_g M q
  obtain ⟨g_105, -, M, q⟩ := q
  refine lv_aload_n hx hb dX12_init_136 rfl (lv_at hl 0 rfl) ?_
  refine lv_bipush (v := 40) hx hb dX12_init_137 (by decide) ?_
  replace q := ck_s q
  obtain ⟨hz, q⟩ := q
  replace q := al_s q
  obtain ⟨S_106, g_107, k_108, w_109, eS, eg, ek, ew, q⟩ := q
  refine x_newa20 hx hb hX M hz (hb_step hc ek hRc) (hb_step hs ew hRs) dX12_init_139 (fun H M rn_110 hE1 => ?_)
  rw [← eS, ← eg] at M
  rw [← eS] at rn_110 hE1
  clear eS eg
  replace ra0 := ra0.ext hE1
  replace hE := hE.tr hE1
  replace hc := hc_step hc ek
  replace hs := hc_step hs ew
  clear ek ew
  refine x_putR hx hb hown hX M (k := 17) (K1 := 20) okX12 ra0 (by decide) rfl rn_110 (Or.inr ⟨rfl, hnm, rfl⟩) rfl rfl kw_1029 dX12_init_141 (fun H locs M => ?_)
  replace q := gen_g M q
  obtain ⟨g_112, -, M, q⟩ := q
  refine lv_aload_n hx hb dX12_init_144 rfl (lv_at hl 0 rfl) ?_
  refine lv_bipush (v := 8) hx hb dX12_init_145 (by decide) ?_
  replace q := ck_s q
  obtain ⟨hz, q⟩ := q
  replace q := al_s q
  obtain ⟨S_113, g_114, k_115, w_116, eS, eg, ek, ew, q⟩ := q
  refine x_newa22 hx hb hX M hz (hb_step hc ek hRc) (hb_step hs ew hRs) dX12_init_147 (fun H M rn_117 hE1 => ?_)
  rw [← eS, ← eg] at M
  rw [← eS] at rn_117 hE1
  clear eS eg
  replace ra0 := ra0.ext hE1
  replace hE := hE.tr hE1
  replace hc := hc_step hc ek
  replace hs := hc_step hs ew
  clear ek ew
  refine x_putR hx hb hown hX M (k := 18) (K1 := 22) okX12 ra0 (by decide) rfl rn_117 (Or.inr ⟨rfl, hnm, rfl⟩) rfl rfl kw_1030 dX12_init_149 (fun H locs M => ?_)
  replace q := gen_g M q
  obtain ⟨g_119, -, M, q⟩ := q
  refine lv_aload_n hx hb dX12_init_152 rfl (lv_at hl 0 rfl) ?_
  refine lv_sipush (v := 3200) hx hb dX12_init_153 (by decide) ?_
  replace q := ck_s q
  obtain ⟨hz, q⟩ := q
  replace q := al_s q
  obtain ⟨S_120, g_121, k_122, w_123, eS, eg, ek, ew, q⟩ := q
  refine x_newa20 hx hb hX M hz (hb_step hc ek hRc) (hb_step hs ew hRs) dX12_init_156 (fun H M rn_124 hE1 => ?_)
  rw [← eS, ← eg] at M
  rw [← eS] at rn_124 hE1
  clear eS eg
  replace ra0 := ra0.ext hE1
  replace hE := hE.tr hE1
  replace hc := hc_step hc ek
  replace hs := hc_step hs ew
  clear ek ew
  refine x_putR hx hb hown hX M (k := 19) (K1 := 20) okX12 ra0 (by decide) rfl rn_124 (Or.inr ⟨rfl, hnm, rfl⟩) rfl rfl kw_1031 dX12_init_158 (fun H locs M => ?_)
  replace q := gen_g M q
  obtain ⟨g_126, -, M, q⟩ := q
  refine lv_aload_n hx hb dX12_init_161 rfl (lv_at hl 0 rfl) ?_
  refine lv_sipush (v := 3200) hx hb dX12_init_162 (by decide) ?_
  replace q := ck_s q
  obtain ⟨hz, q⟩ := q
  replace q := al_s q
  obtain ⟨S_127, g_128, k_129, w_130, eS, eg, ek, ew, q⟩ := q
  refine x_newa20 hx hb hX M hz (hb_step hc ek hRc) (hb_step hs ew hRs) dX12_init_165 (fun H M rn_131 hE1 => ?_)
  rw [← eS, ← eg] at M
  rw [← eS] at rn_131 hE1
  clear eS eg
  replace ra0 := ra0.ext hE1
  replace hE := hE.tr hE1
  replace hc := hc_step hc ek
  replace hs := hc_step hs ew
  clear ek ew
  refine x_putR hx hb hown hX M (k := 20) (K1 := 20) okX12 ra0 (by decide) rfl rn_131 (Or.inr ⟨rfl, hnm, rfl⟩) rfl rfl kw_1032 dX12_init_167 (fun H locs M => ?_)
  replace q := gen_g M q
  obtain ⟨g_133, -, M, q⟩ := q
  refine lv_aload_n hx hb dX12_init_170 rfl (lv_at hl 0 rfl) ?_
  refine lv_bipush (v := 24) hx hb dX12_init_171 (by decide) ?_
  replace q := ck_s q
  obtain ⟨hz, q⟩ := q
  replace q := al_s q
  obtain ⟨S_134, g_135, k_136, w_137, eS, eg, ek, ew, q⟩ := q
  refine x_newa20 hx hb hX M hz (hb_step hc ek hRc) (hb_step hs ew hRs) dX12_init_173 (fun H M rn_138 hE1 => ?_)
  rw [← eS, ← eg] at M
  rw [← eS] at rn_138 hE1
  clear eS eg
  replace ra0 := ra0.ext hE1
  replace hE := hE.tr hE1
  replace hc := hc_step hc ek
  replace hs := hc_step hs ew
  clear ek ew
  refine x_putR hx hb hown hX M (k := 22) (K1 := 20) okX12 ra0 (by decide) rfl rn_138 (Or.inr ⟨rfl, hnm, rfl⟩) rfl rfl kw_1034 dX12_init_175 (fun H locs M => ?_)
  replace q := gen_g M q
  obtain ⟨g_140, -, M, q⟩ := q
  refine lv_aload_n hx hb dX12_init_178 rfl (lv_at hl 0 rfl) ?_
  refine lv_sipush (v := 2400) hx hb dX12_init_179 (by decide) ?_
  replace q := ck_s q
  obtain ⟨hz, q⟩ := q
  replace q := al_s q
  obtain ⟨S_141, g_142, k_143, w_144, eS, eg, ek, ew, q⟩ := q
  refine x_newa20 hx hb hX M hz (hb_step hc ek hRc) (hb_step hs ew hRs) dX12_init_182 (fun H M rn_145 hE1 => ?_)
  rw [← eS, ← eg] at M
  rw [← eS] at rn_145 hE1
  clear eS eg
  replace ra0 := ra0.ext hE1
  replace hE := hE.tr hE1
  replace hc := hc_step hc ek
  replace hs := hc_step hs ew
  clear ek ew
  refine x_putR hx hb hown hX M (k := 24) (K1 := 20) okX12 ra0 (by decide) rfl rn_145 (Or.inr ⟨rfl, hnm, rfl⟩) rfl rfl kw_1036 dX12_init_184 (fun H locs M => ?_)
  replace q := gen_g M q
  obtain ⟨g_147, -, M, q⟩ := q
  refine lv_aload_n hx hb dX12_init_187 rfl (lv_at hl 0 rfl) ?_
  refine lv_sipush (v := 2400) hx hb dX12_init_188 (by decide) ?_
  replace q := ck_s q
  obtain ⟨hz, q⟩ := q
  replace q := al_s q
  obtain ⟨S_148, g_149, k_150, w_151, eS, eg, ek, ew, q⟩ := q
  refine x_newa21 hx hb hX M hz (hb_step hc ek hRc) (hb_step hs ew hRs) dX12_init_191 (fun H M rn_152 hE1 => ?_)
  rw [← eS, ← eg] at M
  rw [← eS] at rn_152 hE1
  clear eS eg
  replace ra0 := ra0.ext hE1
  replace hE := hE.tr hE1
  replace hc := hc_step hc ek
  replace hs := hc_step hs ew
  clear ek ew
  refine x_putR hx hb hown hX M (k := 25) (K1 := 21) okX12 ra0 (by decide) rfl rn_152 (Or.inr ⟨rfl, hnm, rfl⟩) rfl rfl kw_1037 dX12_init_193 (fun H locs M => ?_)
  replace q := gen_g M q
  obtain ⟨g_154, -, M, q⟩ := q
  refine lv_aload_n hx hb dX12_init_196 rfl (lv_at hl 0 rfl) ?_
  refine lv_sipush (v := 2400) hx hb dX12_init_197 (by decide) ?_
  replace q := ck_s q
  obtain ⟨hz, q⟩ := q
  replace q := al_s q
  obtain ⟨S_155, g_156, k_157, w_158, eS, eg, ek, ew, q⟩ := q
  refine x_newa22 hx hb hX M hz (hb_step hc ek hRc) (hb_step hs ew hRs) dX12_init_200 (fun H M rn_159 hE1 => ?_)
  rw [← eS, ← eg] at M
  rw [← eS] at rn_159 hE1
  clear eS eg
  replace ra0 := ra0.ext hE1
  replace hE := hE.tr hE1
  replace hc := hc_step hc ek
  replace hs := hc_step hs ew
  clear ek ew
  refine x_putR hx hb hown hX M (k := 26) (K1 := 22) okX12 ra0 (by decide) rfl rn_159 (Or.inr ⟨rfl, hnm, rfl⟩) rfl rfl kw_1038 dX12_init_202 (fun H locs M => ?_)
  replace q := gen_g M q
  obtain ⟨g_161, -, M, q⟩ := q
  refine lv_aload_n hx hb dX12_init_205 rfl (lv_at hl 0 rfl) ?_
  refine lv_sipush (v := 2400) hx hb dX12_init_206 (by decide) ?_
  replace q := ck_s q
  obtain ⟨hz, q⟩ := q
  replace q := al_s q
  obtain ⟨S_162, g_163, k_164, w_165, eS, eg, ek, ew, q⟩ := q
  refine x_newa22 hx hb hX M hz (hb_step hc ek hRc) (hb_step hs ew hRs) dX12_init_209 (fun H M rn_166 hE1 => ?_)
  rw [← eS, ← eg] at M
  rw [← eS] at rn_166 hE1
  clear eS eg
  replace ra0 := ra0.ext hE1
  replace hE := hE.tr hE1
  replace hc := hc_step hc ek
  replace hs := hc_step hs ew
  clear ek ew
  refine x_putR hx hb hown hX M (k := 27) (K1 := 22) okX12 ra0 (by decide) rfl rn_166 (Or.inr ⟨rfl, hnm, rfl⟩) rfl rfl kw_1039 dX12_init_211 (fun H locs M => ?_)
  replace q := gen_g M q
  obtain ⟨g_168, -, M, q⟩ := q
  refine lv_aload_n hx hb dX12_init_214 rfl (lv_at hl 0 rfl) ?_
  refine lv_sipush (v := 600) hx hb dX12_init_215 (by decide) ?_
  replace q := ck_s q
  obtain ⟨hz, q⟩ := q
  replace q := al_s q
  obtain ⟨S_169, g_170, k_171, w_172, eS, eg, ek, ew, q⟩ := q
  refine x_newa20 hx hb hX M hz (hb_step hc ek hRc) (hb_step hs ew hRs) dX12_init_218 (fun H M rn_173 hE1 => ?_)
  rw [← eS, ← eg] at M
  rw [← eS] at rn_173 hE1
  clear eS eg
  replace ra0 := ra0.ext hE1
  replace hE := hE.tr hE1
  replace hc := hc_step hc ek
  replace hs := hc_step hs ew
  clear ek ew
  refine x_putR hx hb hown hX M (k := 28) (K1 := 20) okX12 ra0 (by decide) rfl rn_173 (Or.inr ⟨rfl, hnm, rfl⟩) rfl rfl kw_1040 dX12_init_220 (fun H locs M => ?_)
  replace q := gen_g M q
  obtain ⟨g_175, -, M, q⟩ := q
  refine lv_aload_n hx hb dX12_init_223 rfl (lv_at hl 0 rfl) ?_
  refine lv_sipush (v := 600) hx hb dX12_init_224 (by decide) ?_
  replace q := ck_s q
  obtain ⟨hz, q⟩ := q
  replace q := al_s q
  obtain ⟨S_176, g_177, k_178, w_179, eS, eg, ek, ew, q⟩ := q
  refine x_newa20 hx hb hX M hz (hb_step hc ek hRc) (hb_step hs ew hRs) dX12_init_227 (fun H M rn_180 hE1 => ?_)
  rw [← eS, ← eg] at M
  rw [← eS] at rn_180 hE1
  clear eS eg
  replace ra0 := ra0.ext hE1
  replace hE := hE.tr hE1
  replace hc := hc_step hc ek
  replace hs := hc_step hs ew
  clear ek ew
  refine x_putR hx hb hown hX M (k := 29) (K1 := 20) okX12 ra0 (by decide) rfl rn_180 (Or.inr ⟨rfl, hnm, rfl⟩) rfl rfl kw_1041 dX12_init_229 (fun H locs M => ?_)
  replace q := gen_g M q
  obtain ⟨g_182, -, M, q⟩ := q
  refine lv_aload_n hx hb dX12_init_232 rfl (lv_at hl 0 rfl) ?_
  refine lv_sipush (v := 600) hx hb dX12_init_233 (by decide) ?_
  replace q := ck_s q
  obtain ⟨hz, q⟩ := q
  replace q := al_s q
  obtain ⟨S_183, g_184, k_185, w_186, eS, eg, ek, ew, q⟩ := q
  refine x_newa22 hx hb hX M hz (hb_step hc ek hRc) (hb_step hs ew hRs) dX12_init_236 (fun H M rn_187 hE1 => ?_)
  rw [← eS, ← eg] at M
  rw [← eS] at rn_187 hE1
  clear eS eg
  replace ra0 := ra0.ext hE1
  replace hE := hE.tr hE1
  replace hc := hc_step hc ek
  replace hs := hc_step hs ew
  clear ek ew
  refine x_putR hx hb hown hX M (k := 30) (K1 := 22) okX12 ra0 (by decide) rfl rn_187 (Or.inr ⟨rfl, hnm, rfl⟩) rfl rfl kw_1042 dX12_init_238 (fun H locs M => ?_)
  replace q := gen_g M q
  obtain ⟨g_189, -, M, q⟩ := q
  refine lv_aload_n hx hb dX12_init_241 rfl (lv_at hl 0 rfl) ?_
  refine lv_sipush (v := 128) hx hb dX12_init_242 (by decide) ?_
  replace q := ck_s q
  obtain ⟨hz, q⟩ := q
  replace q := al_s q
  obtain ⟨S_190, g_191, k_192, w_193, eS, eg, ek, ew, q⟩ := q
  refine x_newa20 hx hb hX M hz (hb_step hc ek hRc) (hb_step hs ew hRs) dX12_init_245 (fun H M rn_194 hE1 => ?_)
  rw [← eS, ← eg] at M
  rw [← eS] at rn_194 hE1
  clear eS eg
  replace ra0 := ra0.ext hE1
  replace hE := hE.tr hE1
  replace hc := hc_step hc ek
  replace hs := hc_step hs ew
  clear ek ew
  refine x_putR hx hb hown hX M (k := 31) (K1 := 20) okX12 ra0 (by decide) rfl rn_194 (Or.inr ⟨rfl, hnm, rfl⟩) rfl rfl kw_1043 dX12_init_247 (fun H locs M => ?_)
  replace q := gen_g M q
  obtain ⟨g_196, -, M, q⟩ := q
  refine lv_aload_n hx hb dX12_init_250 rfl (lv_at hl 0 rfl) ?_
  refine lv_sipush (v := 640) hx hb dX12_init_251 (by decide) ?_
  replace q := ck_s q
  obtain ⟨hz, q⟩ := q
  replace q := al_s q
  obtain ⟨S_197, g_198, k_199, w_200, eS, eg, ek, ew, q⟩ := q
  refine x_newa20 hx hb hX M hz (hb_step hc ek hRc) (hb_step hs ew hRs) dX12_init_254 (fun H M rn_201 hE1 => ?_)
  rw [← eS, ← eg] at M
  rw [← eS] at rn_201 hE1
  clear eS eg
  replace ra0 := ra0.ext hE1
  replace hE := hE.tr hE1
  replace hc := hc_step hc ek
  replace hs := hc_step hs ew
  clear ek ew
  refine x_putR hx hb hown hX M (k := 32) (K1 := 20) okX12 ra0 (by decide) rfl rn_201 (Or.inr ⟨rfl, hnm, rfl⟩) rfl rfl kw_1044 dX12_init_256 (fun H locs M => ?_)
  replace q := gen_g M q
  obtain ⟨g_203, -, M, q⟩ := q
  refine lv_aload_n hx hb dX12_init_259 rfl (lv_at hl 0 rfl) ?_
  refine lv_sipush (v := 640) hx hb dX12_init_260 (by decide) ?_
  replace q := ck_s q
  obtain ⟨hz, q⟩ := q
  replace q := al_s q
  obtain ⟨S_204, g_205, k_206, w_207, eS, eg, ek, ew, q⟩ := q
  refine x_newa21 hx hb hX M hz (hb_step hc ek hRc) (hb_step hs ew hRs) dX12_init_263 (fun H M rn_208 hE1 => ?_)
  rw [← eS, ← eg] at M
  rw [← eS] at rn_208 hE1
  clear eS eg
  replace ra0 := ra0.ext hE1
  replace hE := hE.tr hE1
  replace hc := hc_step hc ek
  replace hs := hc_step hs ew
  clear ek ew
  refine x_putR hx hb hown hX M (k := 33) (K1 := 21) okX12 ra0 (by decide) rfl rn_208 (Or.inr ⟨rfl, hnm, rfl⟩) rfl rfl kw_1045 dX12_init_265 (fun H locs M => ?_)
  replace q := gen_g M q
  obtain ⟨g_210, -, M, q⟩ := q
  refine lv_aload_n hx hb dX12_init_268 rfl (lv_at hl 0 rfl) ?_
  refine lv_ldc (v := 32768) hx hb hown (hX.hts _ _ (mw kw_1011 rfl)) dX12_init_269 ?_
  replace q := ck_s q
  obtain ⟨hz, q⟩ := q
  replace q := al_s q
  obtain ⟨S_211, g_212, k_213, w_214, eS, eg, ek, ew, q⟩ := q
  refine x_newa20 hx hb hX M hz (hb_step hc ek hRc) (hb_step hs ew hRs) dX12_init_271 (fun H M rn_215 hE1 => ?_)
  rw [← eS, ← eg] at M
  rw [← eS] at rn_215 hE1
  clear eS eg
  replace ra0 := ra0.ext hE1
  replace hE := hE.tr hE1
  replace hc := hc_step hc ek
  replace hs := hc_step hs ew
  clear ek ew
  refine x_putR hx hb hown hX M (k := 34) (K1 := 20) okX12 ra0 (by decide) rfl rn_215 (Or.inr ⟨rfl, hnm, rfl⟩) rfl rfl kw_1046 dX12_init_273 (fun H locs M => ?_)
  replace q := gen_g M q
  obtain ⟨g_217, -, M, q⟩ := q
  refine lv_aload_n hx hb dX12_init_276 rfl (lv_at hl 0 rfl) ?_
  refine lv_sipush (v := 336) hx hb dX12_init_277 (by decide) ?_
  replace q := ck_s q
  obtain ⟨hz, q⟩ := q
  replace q := al_s q
  obtain ⟨S_218, g_219, k_220, w_221, eS, eg, ek, ew, q⟩ := q
  refine x_newa20 hx hb hX M hz (hb_step hc ek hRc) (hb_step hs ew hRs) dX12_init_280 (fun H M rn_222 hE1 => ?_)
  rw [← eS, ← eg] at M
  rw [← eS] at rn_222 hE1
  clear eS eg
  replace ra0 := ra0.ext hE1
  replace hE := hE.tr hE1
  replace hc := hc_step hc ek
  replace hs := hc_step hs ew
  clear ek ew
  refine x_putR hx hb hown hX M (k := 35) (K1 := 20) okX12 ra0 (by decide) rfl rn_222 (Or.inr ⟨rfl, hnm, rfl⟩) rfl rfl kw_1047 dX12_init_282 (fun H locs M => ?_)
  replace q := gen_g M q
  obtain ⟨g_224, -, M, q⟩ := q
  refine lv_aload_n hx hb dX12_init_285 rfl (lv_at hl 0 rfl) ?_
  refine lv_bipush (v := 12) hx hb dX12_init_286 (by decide) ?_
  replace q := ck_s q
  obtain ⟨hz, q⟩ := q
  replace q := al_s q
  obtain ⟨S_225, g_226, k_227, w_228, eS, eg, ek, ew, q⟩ := q
  refine x_newa22 hx hb hX M hz (hb_step hc ek hRc) (hb_step hs ew hRs) dX12_init_288 (fun H M rn_229 hE1 => ?_)
  rw [← eS, ← eg] at M
  rw [← eS] at rn_229 hE1
  clear eS eg
  replace ra0 := ra0.ext hE1
  replace hE := hE.tr hE1
  replace hc := hc_step hc ek
  replace hs := hc_step hs ew
  clear ek ew
  refine x_putR hx hb hown hX M (k := 36) (K1 := 22) okX12 ra0 (by decide) rfl rn_229 (Or.inr ⟨rfl, hnm, rfl⟩) rfl rfl kw_1048 dX12_init_290 (fun H locs M => ?_)
  replace q := gen_g M q
  obtain ⟨g_231, -, M, q⟩ := q
  refine lv_aload_n hx hb dX12_init_293 rfl (lv_at hl 0 rfl) ?_
  refine lv_sipush (v := 3360) hx hb dX12_init_294 (by decide) ?_
  replace q := ck_s q
  obtain ⟨hz, q⟩ := q
  replace q := al_s q
  obtain ⟨S_232, g_233, k_234, w_235, eS, eg, ek, ew, q⟩ := q
  refine x_newa20 hx hb hX M hz (hb_step hc ek hRc) (hb_step hs ew hRs) dX12_init_297 (fun H M rn_236 hE1 => ?_)
  rw [← eS, ← eg] at M
  rw [← eS] at rn_236 hE1
  clear eS eg
  replace ra0 := ra0.ext hE1
  replace hE := hE.tr hE1
  replace hc := hc_step hc ek
  replace hs := hc_step hs ew
  clear ek ew
  refine x_putR hx hb hown hX M (k := 37) (K1 := 20) okX12 ra0 (by decide) rfl rn_236 (Or.inr ⟨rfl, hnm, rfl⟩) rfl rfl kw_1049 dX12_init_299 (fun H locs M => ?_)
  replace q := gen_g M q
  obtain ⟨g_238, -, M, q⟩ := q
  refine lv_aload_n hx hb dX12_init_302 rfl (lv_at hl 0 rfl) ?_
  refine lv_bipush (v := 40) hx hb dX12_init_303 (by decide) ?_
  replace q := ck_s q
  obtain ⟨hz, q⟩ := q
  replace q := al_s q
  obtain ⟨S_239, g_240, k_241, w_242, eS, eg, ek, ew, q⟩ := q
  refine x_newa20 hx hb hX M hz (hb_step hc ek hRc) (hb_step hs ew hRs) dX12_init_305 (fun H M rn_243 hE1 => ?_)
  rw [← eS, ← eg] at M
  rw [← eS] at rn_243 hE1
  clear eS eg
  replace ra0 := ra0.ext hE1
  replace hE := hE.tr hE1
  replace hc := hc_step hc ek
  replace hs := hc_step hs ew
  clear ek ew
  refine x_putR hx hb hown hX M (k := 39) (K1 := 20) okX12 ra0 (by decide) rfl rn_243 (Or.inr ⟨rfl, hnm, rfl⟩) rfl rfl kw_1051 dX12_init_307 (fun H locs M => ?_)
  replace q := gen_g M q
  obtain ⟨g_245, -, M, q⟩ := q
  refine lv_aload_n hx hb dX12_init_310 rfl (lv_at hl 0 rfl) ?_
  refine lv_bipush (v := 8) hx hb dX12_init_311 (by decide) ?_
  replace q := ck_s q
  obtain ⟨hz, q⟩ := q
  replace q := al_s q
  obtain ⟨S_246, g_247, k_248, w_249, eS, eg, ek, ew, q⟩ := q
  refine x_newa22 hx hb hX M hz (hb_step hc ek hRc) (hb_step hs ew hRs) dX12_init_313 (fun H M rn_250 hE1 => ?_)
  rw [← eS, ← eg] at M
  rw [← eS] at rn_250 hE1
  clear eS eg
  replace ra0 := ra0.ext hE1
  replace hE := hE.tr hE1
  replace hc := hc_step hc ek
  replace hs := hc_step hs ew
  clear ek ew
  refine x_putR hx hb hown hX M (k := 40) (K1 := 22) okX12 ra0 (by decide) rfl rn_250 (Or.inr ⟨rfl, hnm, rfl⟩) rfl rfl kw_1052 dX12_init_315 (fun H locs M => ?_)
  replace q := gen_g M q
  obtain ⟨g_252, -, M, q⟩ := q
  refine lv_aload_n hx hb dX12_init_318 rfl (lv_at hl 0 rfl) ?_
  refine lv_sipush (v := 3200) hx hb dX12_init_319 (by decide) ?_
  replace q := ck_s q
  obtain ⟨hz, q⟩ := q
  replace q := al_s q
  obtain ⟨S_253, g_254, k_255, w_256, eS, eg, ek, ew, q⟩ := q
  refine x_newa20 hx hb hX M hz (hb_step hc ek hRc) (hb_step hs ew hRs) dX12_init_322 (fun H M rn_257 hE1 => ?_)
  rw [← eS, ← eg] at M
  rw [← eS] at rn_257 hE1
  clear eS eg
  replace ra0 := ra0.ext hE1
  replace hE := hE.tr hE1
  replace hc := hc_step hc ek
  replace hs := hc_step hs ew
  clear ek ew
  refine x_putR hx hb hown hX M (k := 41) (K1 := 20) okX12 ra0 (by decide) rfl rn_257 (Or.inr ⟨rfl, hnm, rfl⟩) rfl rfl kw_1053 dX12_init_324 (fun H locs M => ?_)
  replace q := gen_g M q
  obtain ⟨g_259, -, M, q⟩ := q
  refine lv_aload_n hx hb dX12_init_327 rfl (lv_at hl 0 rfl) ?_
  refine lv_sipush (v := 3200) hx hb dX12_init_328 (by decide) ?_
  replace q := ck_s q
  obtain ⟨hz, q⟩ := q
  replace q := al_s q
  obtain ⟨S_260, g_261, k_262, w_263, eS, eg, ek, ew, q⟩ := q
  refine x_newa20 hx hb hX M hz (hb_step hc ek hRc) (hb_step hs ew hRs) dX12_init_331 (fun H M rn_264 hE1 => ?_)
  rw [← eS, ← eg] at M
  rw [← eS] at rn_264 hE1
  clear eS eg
  replace ra0 := ra0.ext hE1
  replace hE := hE.tr hE1
  replace hc := hc_step hc ek
  replace hs := hc_step hs ew
  clear ek ew
  refine x_putR hx hb hown hX M (k := 42) (K1 := 20) okX12 ra0 (by decide) rfl rn_264 (Or.inr ⟨rfl, hnm, rfl⟩) rfl rfl kw_1054 dX12_init_333 (fun H locs M => ?_)
  replace q := gen_g M q
  obtain ⟨g_266, -, M, q⟩ := q
  refine lv_aload_n hx hb dX12_init_336 rfl (lv_at hl 0 rfl) ?_
  refine lv_bipush (v := 24) hx hb dX12_init_337 (by decide) ?_
  replace q := ck_s q
  obtain ⟨hz, q⟩ := q
  replace q := al_s q
  obtain ⟨S_267, g_268, k_269, w_270, eS, eg, ek, ew, q⟩ := q
  refine x_newa20 hx hb hX M hz (hb_step hc ek hRc) (hb_step hs ew hRs) dX12_init_339 (fun H M rn_271 hE1 => ?_)
  rw [← eS, ← eg] at M
  rw [← eS] at rn_271 hE1
  clear eS eg
  replace ra0 := ra0.ext hE1
  replace hE := hE.tr hE1
  replace hc := hc_step hc ek
  replace hs := hc_step hs ew
  clear ek ew
  refine x_putR hx hb hown hX M (k := 43) (K1 := 20) okX12 ra0 (by decide) rfl rn_271 (Or.inr ⟨rfl, hnm, rfl⟩) rfl rfl kw_1055 dX12_init_341 (fun H locs M => ?_)
  replace q := gen_g M q
  obtain ⟨g_273, -, M, q⟩ := q
  refine lv_aload_n hx hb dX12_init_344 rfl (lv_at hl 0 rfl) ?_
  refine lv_bipush (v := 8) hx hb dX12_init_345 (by decide) ?_
  replace q := ck_s q
  obtain ⟨hz, q⟩ := q
  replace q := al_s q
  obtain ⟨S_274, g_275, k_276, w_277, eS, eg, ek, ew, q⟩ := q
  refine x_newa20 hx hb hX M hz (hb_step hc ek hRc) (hb_step hs ew hRs) dX12_init_347 (fun H M rn_278 hE1 => ?_)
  rw [← eS, ← eg] at M
  rw [← eS] at rn_278 hE1
  clear eS eg
  replace ra0 := ra0.ext hE1
  replace hE := hE.tr hE1
  replace hc := hc_step hc ek
  replace hs := hc_step hs ew
  clear ek ew
  refine x_putR hx hb hown hX M (k := 44) (K1 := 20) okX12 ra0 (by decide) rfl rn_278 (Or.inr ⟨rfl, hnm, rfl⟩) rfl rfl kw_1056 dX12_init_349 (fun H locs M => ?_)
  replace q := gen_g M q
  obtain ⟨g_280, -, M, q⟩ := q
  refine lv_aload_n hx hb dX12_init_352 rfl (lv_at hl 0 rfl) ?_
  refine lv_sipush (v := 256) hx hb dX12_init_353 (by decide) ?_
  replace q := ck_s q
  obtain ⟨hz, q⟩ := q
  replace q := al_s q
  obtain ⟨S_281, g_282, k_283, w_284, eS, eg, ek, ew, q⟩ := q
  refine x_newa20 hx hb hX M hz (hb_step hc ek hRc) (hb_step hs ew hRs) dX12_init_356 (fun H M rn_285 hE1 => ?_)
  rw [← eS, ← eg] at M
  rw [← eS] at rn_285 hE1
  clear eS eg
  replace ra0 := ra0.ext hE1
  replace hE := hE.tr hE1
  replace hc := hc_step hc ek
  replace hs := hc_step hs ew
  clear ek ew
  refine x_putR hx hb hown hX M (k := 45) (K1 := 20) okX12 ra0 (by decide) rfl rn_285 (Or.inr ⟨rfl, hnm, rfl⟩) rfl rfl kw_1057 dX12_init_358 (fun H locs M => ?_)
  replace q := gen_g M q
  obtain ⟨g_287, -, M, q⟩ := q
  refine lv_aload_n hx hb dX12_init_361 rfl (lv_at hl 0 rfl) ?_
  refine lv_bipush (v := 64) hx hb dX12_init_362 (by decide) ?_
  replace q := ck_s q
  obtain ⟨hz, q⟩ := q
  replace q := al_s q
  obtain ⟨S_288, g_289, k_290, w_291, eS, eg, ek, ew, q⟩ := q
  refine x_newa20 hx hb hX M hz (hb_step hc ek hRc) (hb_step hs ew hRs) dX12_init_364 (fun H M rn_292 hE1 => ?_)
  rw [← eS, ← eg] at M
  rw [← eS] at rn_292 hE1
  clear eS eg
  replace ra0 := ra0.ext hE1
  replace hE := hE.tr hE1
  replace hc := hc_step hc ek
  replace hs := hc_step hs ew
  clear ek ew
  refine x_putR hx hb hown hX M (k := 46) (K1 := 20) okX12 ra0 (by decide) rfl rn_292 (Or.inr ⟨rfl, hnm, rfl⟩) rfl rfl kw_1058 dX12_init_366 (fun H locs M => ?_)
  replace q := gen_g M q
  obtain ⟨g_294, -, M, q⟩ := q
  refine lv_aload_n hx hb dX12_init_369 rfl (lv_at hl 0 rfl) ?_
  refine lv_bipush (v := 64) hx hb dX12_init_370 (by decide) ?_
  replace q := ck_s q
  obtain ⟨hz, q⟩ := q
  replace q := al_s q
  obtain ⟨S_295, g_296, k_297, w_298, eS, eg, ek, ew, q⟩ := q
  refine x_newa20 hx hb hX M hz (hb_step hc ek hRc) (hb_step hs ew hRs) dX12_init_372 (fun H M rn_299 hE1 => ?_)
  rw [← eS, ← eg] at M
  rw [← eS] at rn_299 hE1
  clear eS eg
  replace ra0 := ra0.ext hE1
  replace hE := hE.tr hE1
  replace hc := hc_step hc ek
  replace hs := hc_step hs ew
  clear ek ew
  refine x_putR hx hb hown hX M (k := 47) (K1 := 20) okX12 ra0 (by decide) rfl rn_299 (Or.inr ⟨rfl, hnm, rfl⟩) rfl rfl kw_1059 dX12_init_374 (fun H locs M => ?_)
  replace q := gen_g M q
  obtain ⟨g_301, -, M, q⟩ := q
  refine lv_aload_n hx hb dX12_init_377 rfl (lv_at hl 0 rfl) ?_
  refine lv_sipush (v := 512) hx hb dX12_init_378 (by decide) ?_
  replace q := ck_s q
  obtain ⟨hz, q⟩ := q
  replace q := al_s q
  obtain ⟨S_302, g_303, k_304, w_305, eS, eg, ek, ew, q⟩ := q
  refine x_newa20 hx hb hX M hz (hb_step hc ek hRc) (hb_step hs ew hRs) dX12_init_381 (fun H M rn_306 hE1 => ?_)
  rw [← eS, ← eg] at M
  rw [← eS] at rn_306 hE1
  clear eS eg
  replace ra0 := ra0.ext hE1
  replace hE := hE.tr hE1
  replace hc := hc_step hc ek
  replace hs := hc_step hs ew
  clear ek ew
  refine x_putR hx hb hown hX M (k := 48) (K1 := 20) okX12 ra0 (by decide) rfl rn_306 (Or.inr ⟨rfl, hnm, rfl⟩) rfl rfl kw_1060 dX12_init_383 (fun H locs M => ?_)
  replace q := gen_g M q
  obtain ⟨g_308, -, M, q⟩ := q
  refine lv_aload_n hx hb dX12_init_386 rfl (lv_at hl 0 rfl) ?_
  refine lv_bipush (v := 8) hx hb dX12_init_387 (by decide) ?_
  replace q := ck_s q
  obtain ⟨hz, q⟩ := q
  replace q := al_s q
  obtain ⟨S_309, g_310, k_311, w_312, eS, eg, ek, ew, q⟩ := q
  refine x_newa20 hx hb hX M hz (hb_step hc ek hRc) (hb_step hs ew hRs) dX12_init_389 (fun H M rn_313 hE1 => ?_)
  rw [← eS, ← eg] at M
  rw [← eS] at rn_313 hE1
  clear eS eg
  replace ra0 := ra0.ext hE1
  replace hE := hE.tr hE1
  replace hc := hc_step hc ek
  replace hs := hc_step hs ew
  clear ek ew
  refine x_putR hx hb hown hX M (k := 50) (K1 := 20) okX12 ra0 (by decide) rfl rn_313 (Or.inr ⟨rfl, hnm, rfl⟩) rfl rfl kw_1062 dX12_init_391 (fun H locs M => ?_)
  replace q := gen_g M q
  obtain ⟨g_315, -, M, q⟩ := q
  refine lv_aload_n hx hb dX12_init_394 rfl (lv_at hl 0 rfl) ?_
  refine lv_bipush (v := 8) hx hb dX12_init_395 (by decide) ?_
  replace q := ck_s q
  obtain ⟨hz, q⟩ := q
  replace q := al_s q
  obtain ⟨S_316, g_317, k_318, w_319, eS, eg, ek, ew, q⟩ := q
  refine x_newa20 hx hb hX M hz (hb_step hc ek hRc) (hb_step hs ew hRs) dX12_init_397 (fun H M rn_320 hE1 => ?_)
  rw [← eS, ← eg] at M
  rw [← eS] at rn_320 hE1
  clear eS eg
  replace ra0 := ra0.ext hE1
  replace hE := hE.tr hE1
  replace hc := hc_step hc ek
  replace hs := hc_step hs ew
  clear ek ew
  refine x_putR hx hb hown hX M (k := 51) (K1 := 20) okX12 ra0 (by decide) rfl rn_320 (Or.inr ⟨rfl, hnm, rfl⟩) rfl rfl kw_1063 dX12_init_399 (fun H locs M => ?_)
  replace q := gen_g M q
  obtain ⟨g_322, -, M, q⟩ := q
  refine lv_aload_n hx hb dX12_init_402 rfl (lv_at hl 0 rfl) ?_
  refine lv_sipush (v := 400) hx hb dX12_init_403 (by decide) ?_
  replace q := ck_s q
  obtain ⟨hz, q⟩ := q
  replace q := al_s q
  obtain ⟨S_323, g_324, k_325, w_326, eS, eg, ek, ew, q⟩ := q
  refine x_newa20 hx hb hX M hz (hb_step hc ek hRc) (hb_step hs ew hRs) dX12_init_406 (fun H M rn_327 hE1 => ?_)
  rw [← eS, ← eg] at M
  rw [← eS] at rn_327 hE1
  clear eS eg
  replace ra0 := ra0.ext hE1
  replace hE := hE.tr hE1
  replace hc := hc_step hc ek
  replace hs := hc_step hs ew
  clear ek ew
  refine x_putR hx hb hown hX M (k := 52) (K1 := 20) okX12 ra0 (by decide) rfl rn_327 (Or.inr ⟨rfl, hnm, rfl⟩) rfl rfl kw_1064 dX12_init_408 (fun H locs M => ?_)
  replace q := gen_g M q
  obtain ⟨g_329, -, M, q⟩ := q
  refine lv_aload_n hx hb dX12_init_411 rfl (lv_at hl 0 rfl) ?_
  refine lv_sipush (v := 400) hx hb dX12_init_412 (by decide) ?_
  replace q := ck_s q
  obtain ⟨hz, q⟩ := q
  replace q := al_s q
  obtain ⟨S_330, g_331, k_332, w_333, eS, eg, ek, ew, q⟩ := q
  refine x_newa20 hx hb hX M hz (hb_step hc ek hRc) (hb_step hs ew hRs) dX12_init_415 (fun H M rn_334 hE1 => ?_)
  rw [← eS, ← eg] at M
  rw [← eS] at rn_334 hE1
  clear eS eg
  replace ra0 := ra0.ext hE1
  replace hE := hE.tr hE1
  replace hc := hc_step hc ek
  replace hs := hc_step hs ew
  clear ek ew
  refine x_putR hx hb hown hX M (k := 53) (K1 := 20) okX12 ra0 (by decide) rfl rn_334 (Or.inr ⟨rfl, hnm, rfl⟩) rfl rfl kw_1065 dX12_init_417 (fun H locs M => ?_)
  replace q := gen_g M q
  obtain ⟨g_336, -, M, q⟩ := q
  refine lv_aload_n hx hb dX12_init_420 rfl (lv_at hl 0 rfl) ?_
  refine lv_sipush (v := 3200) hx hb dX12_init_421 (by decide) ?_
  replace q := ck_s q
  obtain ⟨hz, q⟩ := q
  replace q := al_s q
  obtain ⟨S_337, g_338, k_339, w_340, eS, eg, ek, ew, q⟩ := q
  refine x_newa20 hx hb hX M hz (hb_step hc ek hRc) (hb_step hs ew hRs) dX12_init_424 (fun H M rn_341 hE1 => ?_)
  rw [← eS, ← eg] at M
  rw [← eS] at rn_341 hE1
  clear eS eg
  replace ra0 := ra0.ext hE1
  replace hE := hE.tr hE1
  replace hc := hc_step hc ek
  replace hs := hc_step hs ew
  clear ek ew
  refine x_putR hx hb hown hX M (k := 54) (K1 := 20) okX12 ra0 (by decide) rfl rn_341 (Or.inr ⟨rfl, hnm, rfl⟩) rfl rfl kw_1066 dX12_init_426 (fun H locs M => ?_)
  replace q := gen_g M q
  obtain ⟨g_343, -, M, q⟩ := q
  refine lv_aload_n hx hb dX12_init_429 rfl (lv_at hl 0 rfl) ?_
  refine lv_sipush (v := 400) hx hb dX12_init_430 (by decide) ?_
  replace q := ck_s q
  obtain ⟨hz, q⟩ := q
  replace q := al_s q
  obtain ⟨S_344, g_345, k_346, w_347, eS, eg, ek, ew, q⟩ := q
  refine x_newa20 hx hb hX M hz (hb_step hc ek hRc) (hb_step hs ew hRs) dX12_init_433 (fun H M rn_348 hE1 => ?_)
  rw [← eS, ← eg] at M
  rw [← eS] at rn_348 hE1
  clear eS eg
  replace ra0 := ra0.ext hE1
  replace hE := hE.tr hE1
  replace hc := hc_step hc ek
  replace hs := hc_step hs ew
  clear ek ew
  refine x_putR hx hb hown hX M (k := 55) (K1 := 20) okX12 ra0 (by decide) rfl rn_348 (Or.inr ⟨rfl, hnm, rfl⟩) rfl rfl kw_1067 dX12_init_435 (fun H locs M => ?_)
  replace q := gen_g M q
  obtain ⟨g_350, -, M, q⟩ := q
  refine lv_aload_n hx hb dX12_init_438 rfl (lv_at hl 0 rfl) ?_
  refine lv_sipush (v := 400) hx hb dX12_init_439 (by decide) ?_
  replace q := ck_s q
  obtain ⟨hz, q⟩ := q
  replace q := al_s q
  obtain ⟨S_351, g_352, k_353, w_354, eS, eg, ek, ew, q⟩ := q
  refine x_newa20 hx hb hX M hz (hb_step hc ek hRc) (hb_step hs ew hRs) dX12_init_442 (fun H M rn_355 hE1 => ?_)
  rw [← eS, ← eg] at M
  rw [← eS] at rn_355 hE1
  clear eS eg
  replace ra0 := ra0.ext hE1
  replace hE := hE.tr hE1
  replace hc := hc_step hc ek
  replace hs := hc_step hs ew
  clear ek ew
  refine x_putR hx hb hown hX M (k := 56) (K1 := 20) okX12 ra0 (by decide) rfl rn_355 (Or.inr ⟨rfl, hnm, rfl⟩) rfl rfl kw_1068 dX12_init_444 (fun H locs M => ?_)
  replace q := gen_g M q
  obtain ⟨g_357, -, M, q⟩ := q
  refine lv_aload_n hx hb dX12_init_447 rfl (lv_at hl 0 rfl) ?_
  refine lv_sipush (v := 4160) hx hb dX12_init_448 (by decide) ?_
  replace q := ck_s q
  obtain ⟨hz, q⟩ := q
  replace q := al_s q
  obtain ⟨S_358, g_359, k_360, w_361, eS, eg, ek, ew, q⟩ := q
  refine x_newa20 hx hb hX M hz (hb_step hc ek hRc) (hb_step hs ew hRs) dX12_init_451 (fun H M rn_362 hE1 => ?_)
  rw [← eS, ← eg] at M
  rw [← eS] at rn_362 hE1
  clear eS eg
  replace ra0 := ra0.ext hE1
  replace hE := hE.tr hE1
  replace hc := hc_step hc ek
  replace hs := hc_step hs ew
  clear ek ew
  refine x_putR hx hb hown hX M (k := 58) (K1 := 20) okX12 ra0 (by decide) rfl rn_362 (Or.inr ⟨rfl, hnm, rfl⟩) rfl rfl kw_1070 dX12_init_453 (fun H locs M => ?_)
  replace q := gen_g M q
  obtain ⟨g_364, -, M, q⟩ := q
  refine lv_aload_n hx hb dX12_init_456 rfl (lv_at hl 0 rfl) ?_
  refine lv_bipush (v := 28) hx hb dX12_init_457 (by decide) ?_
  replace q := ck_s q
  obtain ⟨hz, q⟩ := q
  replace q := al_s q
  obtain ⟨S_365, g_366, k_367, w_368, eS, eg, ek, ew, q⟩ := q
  refine x_newa20 hx hb hX M hz (hb_step hc ek hRc) (hb_step hs ew hRs) dX12_init_459 (fun H M rn_369 hE1 => ?_)
  rw [← eS, ← eg] at M
  rw [← eS] at rn_369 hE1
  clear eS eg
  replace ra0 := ra0.ext hE1
  replace hE := hE.tr hE1
  replace hc := hc_step hc ek
  replace hs := hc_step hs ew
  clear ek ew
  refine x_putR hx hb hown hX M (k := 59) (K1 := 20) okX12 ra0 (by decide) rfl rn_369 (Or.inr ⟨rfl, hnm, rfl⟩) rfl rfl kw_1071 dX12_init_461 (fun H locs M => ?_)
  replace q := gen_g M q
  obtain ⟨g_371, -, M, q⟩ := q
  refine lv_aload_n hx hb dX12_init_464 rfl (lv_at hl 0 rfl) ?_
  refine lv_bipush (v := 8) hx hb dX12_init_465 (by decide) ?_
  replace q := ck_s q
  obtain ⟨hz, q⟩ := q
  replace q := al_s q
  obtain ⟨S_372, g_373, k_374, w_375, eS, eg, ek, ew, q⟩ := q
  refine x_newa20 hx hb hX M hz (hb_step hc ek hRc) (hb_step hs ew hRs) dX12_init_467 (fun H M rn_376 hE1 => ?_)
  rw [← eS, ← eg] at M
  rw [← eS] at rn_376 hE1
  clear eS eg
  replace ra0 := ra0.ext hE1
  replace hE := hE.tr hE1
  replace hc := hc_step hc ek
  replace hs := hc_step hs ew
  clear ek ew
  refine x_putR hx hb hown hX M (k := 60) (K1 := 20) okX12 ra0 (by decide) rfl rn_376 (Or.inr ⟨rfl, hnm, rfl⟩) rfl rfl kw_1072 dX12_init_469 (fun H locs M => ?_)
  replace q := gen_g M q
  obtain ⟨g_378, -, M, q⟩ := q
  refine lv_aload_n hx hb dX12_init_472 rfl (lv_at hl 0 rfl) ?_
  refine lv_bipush (v := 8) hx hb dX12_init_473 (by decide) ?_
  replace q := ck_s q
  obtain ⟨hz, q⟩ := q
  replace q := al_s q
  obtain ⟨S_379, g_380, k_381, w_382, eS, eg, ek, ew, q⟩ := q
  refine x_newa20 hx hb hX M hz (hb_step hc ek hRc) (hb_step hs ew hRs) dX12_init_475 (fun H M rn_383 hE1 => ?_)
  rw [← eS, ← eg] at M
  rw [← eS] at rn_383 hE1
  clear eS eg
  replace ra0 := ra0.ext hE1
  replace hE := hE.tr hE1
  replace hc := hc_step hc ek
  replace hs := hc_step hs ew
  clear ek ew
  refine x_putR hx hb hown hX M (k := 61) (K1 := 20) okX12 ra0 (by decide) rfl rn_383 (Or.inr ⟨rfl, hnm, rfl⟩) rfl rfl kw_1073 dX12_init_477 (fun H locs M => ?_)
  replace q := gen_g M q
  obtain ⟨g_385, -, M, q⟩ := q
  refine lv_aload_n hx hb dX12_init_480 rfl (lv_at hl 0 rfl) ?_
  refine lv_bipush (v := 8) hx hb dX12_init_481 (by decide) ?_
  replace q := ck_s q
  obtain ⟨hz, q⟩ := q
  replace q := al_s q
  obtain ⟨S_386, g_387, k_388, w_389, eS, eg, ek, ew, q⟩ := q
  refine x_newa20 hx hb hX M hz (hb_step hc ek hRc) (hb_step hs ew hRs) dX12_init_483 (fun H M rn_390 hE1 => ?_)
  rw [← eS, ← eg] at M
  rw [← eS] at rn_390 hE1
  clear eS eg
  replace ra0 := ra0.ext hE1
  replace hE := hE.tr hE1
  replace hc := hc_step hc ek
  replace hs := hc_step hs ew
  clear ek ew
  refine x_putR hx hb hown hX M (k := 64) (K1 := 20) okX12 ra0 (by decide) rfl rn_390 (Or.inr ⟨rfl, hnm, rfl⟩) rfl rfl kw_1076 dX12_init_485 (fun H locs M => ?_)
  replace q := gen_g M q
  obtain ⟨g_392, -, M, q⟩ := q
  refine lv_aload_n hx hb dX12_init_488 rfl (lv_at hl 0 rfl) ?_
  refine lv_bipush (v := 8) hx hb dX12_init_489 (by decide) ?_
  replace q := ck_s q
  obtain ⟨hz, q⟩ := q
  replace q := al_s q
  obtain ⟨S_393, g_394, k_395, w_396, eS, eg, ek, ew, q⟩ := q
  refine x_newa20 hx hb hX M hz (hb_step hc ek hRc) (hb_step hs ew hRs) dX12_init_491 (fun H M rn_397 hE1 => ?_)
  rw [← eS, ← eg] at M
  rw [← eS] at rn_397 hE1
  clear eS eg
  replace ra0 := ra0.ext hE1
  replace hE := hE.tr hE1
  replace hc := hc_step hc ek
  replace hs := hc_step hs ew
  clear ek ew
  refine x_putR hx hb hown hX M (k := 65) (K1 := 20) okX12 ra0 (by decide) rfl rn_397 (Or.inr ⟨rfl, hnm, rfl⟩) rfl rfl kw_1077 dX12_init_493 (fun H locs M => ?_)
  replace q := gen_g M q
  obtain ⟨g_399, -, M, q⟩ := q
  cases q
  have hc : cells + 1 + 1 + 1 + 1 + 1 + 1 + 1 + 1 + 1 + 1 + 1 + 1 + 1 + 1 + 1 + 1 + 1 + 1 + 1 + 1 + 1 + 1 + 1 + 1 + 1 + 1 + 1 + 1 + 1 + 1 + 1 + 1 + 1 + 1 + 1 + 1 + 1 + 1 + 1 + 1 + 1 + 1 + 1 + 1 + 1 + 1 + 1 + 1 + 1 + 1 + 1 + 1 + 1 + 1 + 1 + 1 + 1 = cT := hc
  have hs : slots + (24 : Int32).toNatClampNeg + (2400 : Int32).toNatClampNeg + (2400 : Int32).toNatClampNeg + (2400 : Int32).toNatClampNeg + (2400 : Int32).toNatClampNeg + (600 : Int32).toNatClampNeg + (600 : Int32).toNatClampNeg + (600 : Int32).toNatClampNeg + (128 : Int32).toNatClampNeg + (640 : Int32).toNatClampNeg + (640 : Int32).toNatClampNeg + (32768 : Int32).toNatClampNeg + (336 : Int32).toNatClampNeg + (12 : Int32).toNatClampNeg + (3360 : Int32).toNatClampNeg + (40 : Int32).toNatClampNeg + (8 : Int32).toNatClampNeg + (3200 : Int32).toNatClampNeg + (3200 : Int32).toNatClampNeg + (24 : Int32).toNatClampNeg + (2400 : Int32).toNatClampNeg + (2400 : Int32).toNatClampNeg + (2400 : Int32).toNatClampNeg + (2400 : Int32).toNatClampNeg + (600 : Int32).toNatClampNeg + (600 : Int32).toNatClampNeg + (600 : Int32).toNatClampNeg + (128 : Int32).toNatClampNeg + (640 : Int32).toNatClampNeg + (640 : Int32).toNatClampNeg + (32768 : Int32).toNatClampNeg + (336 : Int32).toNatClampNeg + (12 : Int32).toNatClampNeg + (3360 : Int32).toNatClampNeg + (40 : Int32).toNatClampNeg + (8 : Int32).toNatClampNeg + (3200 : Int32).toNatClampNeg + (3200 : Int32).toNatClampNeg + (24 : Int32).toNatClampNeg + (8 : Int32).toNatClampNeg + (256 : Int32).toNatClampNeg + (64 : Int32).toNatClampNeg + (64 : Int32).toNatClampNeg + (512 : Int32).toNatClampNeg + (8 : Int32).toNatClampNeg + (8 : Int32).toNatClampNeg + (400 : Int32).toNatClampNeg + (400 : Int32).toNatClampNeg + (3200 : Int32).toNatClampNeg + (400 : Int32).toNatClampNeg + (400 : Int32).toNatClampNeg + (4160 : Int32).toNatClampNeg + (28 : Int32).toNatClampNeg + (8 : Int32).toNatClampNeg + (8 : Int32).toNatClampNeg + (8 : Int32).toNatClampNeg + (8 : Int32).toNatClampNeg = wT := hs
  subst hc
  subst hs
  exact x_vret hx hb hr hlk M hE dX12_init_496
set_option maxRecDepth 100000 in
theorem c_X12_init {l : Launch} {D : va_G} {cA : Nat → ClassId} {lo tS N : Nat} {S S1 : Hs} {g g1 : Hg} {k w : Nat} {rv : Unit} {a0 : Nat} (ra0 : Rf lo S a0 12) (q : f_X12_init N S g a0 = some (rv, S1, g1, k, w)) {d : Nat} (hd : 1 ≤ d) : Ctr l yX12_init cX12_init 1 none D cA lo tS [.ref a0] S g d none S1 g1 True k w := by
  refine x_met (by decide) (Nat.le_of_ble_eq_true rfl) ?_
  intro p e s m below meth c ls hx hb hml hr hlk hown hnm hX M hl
  exact w_X12_init_0 hx hb hml hr hlk hown hX hd (Nat.mul_le_mul_left 60 hd) (N := N) hnm (Nat.le_refl k) (Nat.le_refl w) _ _ _ _ _ _ _ _ _ _ M Ext.rf ra0 (lv_sub hl [0] rfl) q (Nat.zero_add k) (Nat.zero_add w)
end W17
