section W1
variable {p : Program} {l : Launch} {e : Env} {R : Room} {s : State} {m : MethodId} {args : Array Value} {below : List Frame} {meth : Method} {c : Code} {D : va_G} {cA : Nat → ClassId} {lo tS : Nat}
def b_X6_turn_66 (N : Nat) (S : Hs) (k66 : Hg → Nat → Int32 → Int32 → Int32 → Int32 → Int32 → Int32 → Int32 → Int32 → Int32 → Option (Unit × Hg)) (g : Hg) (a0 : Nat) (x1 : Int32) (x2 : Int32) (x3 : Int32) (x4 : Int32) (x5 : Int32) (x6 : Int32) (x7 : Int32) (x8 : Int32) (x9 : Int32) : Option (Unit × Hg) :=
if (6 : Int32) ≤ x9 then (
nn (rdR g a0 1) (fun a_2 =>
ck (inb (0 : Int32) (hpL S a_2)) (
nm (wrI g a_2 (0 : Int32).toNatClampNeg x1) (fun g_3 =>
nn (rdR g_3 a0 1) (fun a_4 =>
ck (inb (1 : Int32) (hpL S a_4)) (
nm (wrI g_3 a_4 (1 : Int32).toNatClampNeg x2) (fun g_5 =>
nn (rdR g_5 a0 1) (fun a_6 =>
ck (inb (2 : Int32) (hpL S a_6)) (
nm (wrI g_5 a_6 (2 : Int32).toNatClampNeg x3) (fun g_7 =>
nn (rdR g_7 a0 1) (fun a_8 =>
ck (inb (3 : Int32) (hpL S a_8)) (
nm (wrI g_7 a_8 (3 : Int32).toNatClampNeg x4) (fun g_9 =>
nn (rdR g_9 a0 1) (fun a_10 =>
ck (inb (4 : Int32) (hpL S a_10)) (
nm (wrI g_9 a_10 (4 : Int32).toNatClampNeg x5) (fun g_11 =>
nn (rdR g_11 a0 1) (fun a_12 =>
ck (inb (5 : Int32) (hpL S a_12)) (
nm (wrI g_11 a_12 (5 : Int32).toNatClampNeg x6) (fun g_13 =>
nn (rdR g_13 a0 1) (fun a_14 =>
ck (inb (6 : Int32) (hpL S a_14)) (
nm (wrI g_13 a_14 (6 : Int32).toNatClampNeg x7) (fun g_15 =>
nn (rdR g_15 a0 1) (fun a_16 =>
ck (inb (7 : Int32) (hpL S a_16)) (
nm (wrI g_15 a_16 (7 : Int32).toNatClampNeg x8) (fun g_17 =>
some ((), g_17)))))))))))))))))))))))))) else (
nm (x1 + x2) (fun x_18 =>
nm (((x_18 <<< ((7 : Int32) &&& 31)) ||| (x_18.toUInt32 >>> ((25 : Int32).toUInt32 &&& Int32.toUInt32 31)).toInt32) ^^^ x4) (fun x_19 =>
nm (x2 + x3) (fun x_20 =>
nm (((x_20 <<< ((7 : Int32) &&& 31)) ||| (x_20.toUInt32 >>> ((25 : Int32).toUInt32 &&& Int32.toUInt32 31)).toInt32) ^^^ x5) (fun x_21 =>
nm (x3 + x4) (fun x_22 =>
nm (((x_22 <<< ((7 : Int32) &&& 31)) ||| (x_22.toUInt32 >>> ((25 : Int32).toUInt32 &&& Int32.toUInt32 31)).toInt32) ^^^ x6) (fun x_23 =>
nm (x4 + x5) (fun x_24 =>
nm (((x_24 <<< ((7 : Int32) &&& 31)) ||| (x_24.toUInt32 >>> ((25 : Int32).toUInt32 &&& Int32.toUInt32 31)).toInt32) ^^^ x7) (fun x_25 =>
nm (x5 + x6) (fun x_26 =>
nm (((x_26 <<< ((7 : Int32) &&& 31)) ||| (x_26.toUInt32 >>> ((25 : Int32).toUInt32 &&& Int32.toUInt32 31)).toInt32) ^^^ x8) (fun x_27 =>
nm (x6 + x7) (fun x_28 =>
nm (((x_28 <<< ((7 : Int32) &&& 31)) ||| (x_28.toUInt32 >>> ((25 : Int32).toUInt32 &&& Int32.toUInt32 31)).toInt32) ^^^ x_19) (fun x_29 =>
nm (x7 + x8) (fun x_30 =>
nm (((x_30 <<< ((7 : Int32) &&& 31)) ||| (x_30.toUInt32 >>> ((25 : Int32).toUInt32 &&& Int32.toUInt32 31)).toInt32) ^^^ x_21) (fun x_31 =>
nm (x8 + x_19) (fun x_32 =>
nm (((x_32 <<< ((7 : Int32) &&& 31)) ||| (x_32.toUInt32 >>> ((25 : Int32).toUInt32 &&& Int32.toUInt32 31)).toInt32) ^^^ x_23) (fun x_33 =>
nm (x9 + 1) (fun x_34 =>
k66 g a0 x_19 x_21 x_23 x_25 x_27 x_29 x_31 x_33 x_34))))))))))))))))))
def n_X6_turn_66 (N : Nat) (S : Hs) : Nat → Hg → Nat → Int32 → Int32 → Int32 → Int32 → Int32 → Int32 → Int32 → Int32 → Int32 → Option (Unit × Hg)
  | 0 => fun _ _ _ _ _ _ _ _ _ _ _ => none
  | n + 1 => fun g a0 x1 x2 x3 x4 x5 x6 x7 x8 x9 => b_X6_turn_66 N S (n_X6_turn_66 N S n) g a0 x1 x2 x3 x4 x5 x6 x7 x8 x9
def b_X6_turn_0 (N : Nat) (S : Hs) (g : Hg) (a0 : Nat) : Option (Unit × Hg) :=
nn (rdR g a0 1) (fun a_1 =>
ck (inb (0 : Int32) (hpL S a_1)) (
nm (rdI g a_1 (0 : Int32).toNatClampNeg) (fun x_2 =>
nn (rdR g a0 1) (fun a_3 =>
ck (inb (1 : Int32) (hpL S a_3)) (
nm (rdI g a_3 (1 : Int32).toNatClampNeg) (fun x_4 =>
nn (rdR g a0 1) (fun a_5 =>
ck (inb (2 : Int32) (hpL S a_5)) (
nm (rdI g a_5 (2 : Int32).toNatClampNeg) (fun x_6 =>
nn (rdR g a0 1) (fun a_7 =>
ck (inb (3 : Int32) (hpL S a_7)) (
nm (rdI g a_7 (3 : Int32).toNatClampNeg) (fun x_8 =>
nn (rdR g a0 1) (fun a_9 =>
ck (inb (4 : Int32) (hpL S a_9)) (
nm (rdI g a_9 (4 : Int32).toNatClampNeg) (fun x_10 =>
nn (rdR g a0 1) (fun a_11 =>
ck (inb (5 : Int32) (hpL S a_11)) (
nm (rdI g a_11 (5 : Int32).toNatClampNeg) (fun x_12 =>
nn (rdR g a0 1) (fun a_13 =>
ck (inb (6 : Int32) (hpL S a_13)) (
nm (rdI g a_13 (6 : Int32).toNatClampNeg) (fun x_14 =>
nn (rdR g a0 1) (fun a_15 =>
ck (inb (7 : Int32) (hpL S a_15)) (
nm (rdI g a_15 (7 : Int32).toNatClampNeg) (fun x_16 =>
n_X6_turn_66 N S N g a0 x_2 x_4 x_6 x_8 x_10 x_12 x_14 x_16 (0 : Int32)))))))))))))))))))))))))
def f_X6_turn (N : Nat) (S : Hs) (g : Hg) (a0 : Nat) : Option (Unit × Hg) := b_X6_turn_0 N S g a0
set_option maxHeartbeats 4000000 in
set_option maxRecDepth 100000 in
theorem w_X6_turn_66 (hx : p.tables.exec = Jvm.exec) (hb : c.code = cX6_turn) (hml : c.maxLocals = 10) (hr : meth.sig.returnType = none) (hlk : meth.locks = false) (hown : s.vm.findClass RX6 = some m.cls) (hX : Kx D cA lo tS s) (hRf : 1 ≤ R.frames) (hRl : 60 ≤ R.locals) {N : Nat} {rv : Unit} {g1 : Hg} {S : Hs} {k66 : Hg → Nat → Int32 → Int32 → Int32 → Int32 → Int32 → Int32 → Int32 → Int32 → Int32 → Option (Unit × Hg)} (hk66 : ∀ (H : Heap) (locs : List Loc) (ls : Array Slot) (g : Hg) (a0 : Nat) (x1 : Int32) (x2 : Int32) (x3 : Int32) (x4 : Int32) (x5 : Int32) (x6 : Int32) (x7 : Int32) (x8 : Int32) (x9 : Int32), Mm D cA lo S g s H locs → Rf lo S a0 6 → lv_has ls 10 [(0, .ref a0), (1, .int x1), (2, .int x2), (3, .int x3), (4, .int x4), (5, .int x5), (6, .int x6), (7, .int x7), (8, .int x8), (9, .int x9)] → k66 g a0 x1 x2 x3 x4 x5 x6 x7 x8 x9 = some (rv, g1) → W p l e R s m args below meth c H locs 0 0 (MQ below (Qcx D cA lo S none S g1 True) args s 0 0 (fun q : Nat => lo ≤ q)) (F0 m 66 ls [])) : ∀ (H : Heap) (locs : List Loc) (ls : Array Slot) (g : Hg) (a0 : Nat) (x1 : Int32) (x2 : Int32) (x3 : Int32) (x4 : Int32) (x5 : Int32) (x6 : Int32) (x7 : Int32) (x8 : Int32) (x9 : Int32), Mm D cA lo S g s H locs → Rf lo S a0 6 → lv_has ls 10 [(0, .ref a0), (1, .int x1), (2, .int x2), (3, .int x3), (4, .int x4), (5, .int x5), (6, .int x6), (7, .int x7), (8, .int x8), (9, .int x9)] → b_X6_turn_66 N S k66 g a0 x1 x2 x3 x4 x5 x6 x7 x8 x9 = some (rv, g1) → W p l e R s m args below meth c H locs 0 0 (MQ below (Qcx D cA lo S none S g1 True) args s 0 0 (fun q : Nat => lo ≤ q)) (F0 m 66 ls []) := by
  intro H locs ls g a0 x1 x2 x3 x4 x5 x6 x7 x8 x9 M ra0 hl q
  unfold b_X6_turn_66 at q
  refine lv_iload hx hb dX6_turn_66 (lv_at hl 9 rfl) ?_
  refine lv_bipush (v := 6) hx hb dX6_turn_68 (by decide) ?_
  refine lv_icmp_ge (tgt := 242) hx hb dX6_turn_70 (by decide) (fun c_1 => ?_) (fun c_1 => ?_)
  · replace q := if_t c_1 q
    refine lv_aload_n hx hb dX6_turn_242 rfl (lv_at hl 0 rfl) ?_
    replace q := nn_s q
    obtain ⟨a_2, e_a_2, q⟩ := q
    refine x_getR hx hb hown hX M e_a_2 okX6 ra0 (by decide) rfl kw_84 dX6_turn_243 (fun ra_2 => ?_)
    refine lv_iconst (v := 0) hx hb dX6_turn_246 (by decide) ?_
    refine lv_iload_n hx hb dX6_turn_247 rfl (lv_at hl 1 rfl) ?_
    replace q := ck_s q
    obtain ⟨hin, q⟩ := q
    refine x_iast hx hb hX M ra_2 (inb_in hin) dX6_turn_248 (fun H locs M => ?_)
    replace q := gen_g M q
    obtain ⟨g_3, -, M, q⟩ := q
    refine lv_aload_n hx hb dX6_turn_249 rfl (lv_at hl 0 rfl) ?_
    replace q := nn_s q
    obtain ⟨a_4, e_a_4, q⟩ := q
    refine x_getR hx hb hown hX M e_a_4 okX6 ra0 (by decide) rfl kw_84 dX6_turn_250 (fun ra_4 => ?_)
    refine lv_iconst (v := 1) hx hb dX6_turn_253 (by decide) ?_
    refine lv_iload_n hx hb dX6_turn_254 rfl (lv_at hl 2 rfl) ?_
    replace q := ck_s q
    obtain ⟨hin, q⟩ := q
    refine x_iast hx hb hX M ra_4 (inb_in hin) dX6_turn_255 (fun H locs M => ?_)
    replace q := gen_g M q
    obtain ⟨g_5, -, M, q⟩ := q
    refine lv_aload_n hx hb dX6_turn_256 rfl (lv_at hl 0 rfl) ?_
    replace q := nn_s q
    obtain ⟨a_6, e_a_6, q⟩ := q
    refine x_getR hx hb hown hX M e_a_6 okX6 ra0 (by decide) rfl kw_84 dX6_turn_257 (fun ra_6 => ?_)
    refine lv_iconst (v := 2) hx hb dX6_turn_260 (by decide) ?_
    refine lv_iload_n hx hb dX6_turn_261 rfl (lv_at hl 3 rfl) ?_
    replace q := ck_s q
    obtain ⟨hin, q⟩ := q
    refine x_iast hx hb hX M ra_6 (inb_in hin) dX6_turn_262 (fun H locs M => ?_)
    replace q := gen_g M q
    obtain ⟨g_7, -, M, q⟩ := q
    refine lv_aload_n hx hb dX6_turn_263 rfl (lv_at hl 0 rfl) ?_
    replace q := nn_s q
    obtain ⟨a_8, e_a_8, q⟩ := q
    refine x_getR hx hb hown hX M e_a_8 okX6 ra0 (by decide) rfl kw_84 dX6_turn_264 (fun ra_8 => ?_)
    refine lv_iconst (v := 3) hx hb dX6_turn_267 (by decide) ?_
    refine lv_iload hx hb dX6_turn_268 (lv_at hl 4 rfl) ?_
    replace q := ck_s q
    obtain ⟨hin, q⟩ := q
    refine x_iast hx hb hX M ra_8 (inb_in hin) dX6_turn_270 (fun H locs M => ?_)
    replace q := gen_g M q
    obtain ⟨g_9, -, M, q⟩ := q
    refine lv_aload_n hx hb dX6_turn_271 rfl (lv_at hl 0 rfl) ?_
    replace q := nn_s q
    obtain ⟨a_10, e_a_10, q⟩ := q
    refine x_getR hx hb hown hX M e_a_10 okX6 ra0 (by decide) rfl kw_84 dX6_turn_272 (fun ra_10 => ?_)
    refine lv_iconst (v := 4) hx hb dX6_turn_275 (by decide) ?_
    refine lv_iload hx hb dX6_turn_276 (lv_at hl 5 rfl) ?_
    replace q := ck_s q
    obtain ⟨hin, q⟩ := q
    refine x_iast hx hb hX M ra_10 (inb_in hin) dX6_turn_278 (fun H locs M => ?_)
    replace q := gen_g M q
    obtain ⟨g_11, -, M, q⟩ := q
    refine lv_aload_n hx hb dX6_turn_279 rfl (lv_at hl 0 rfl) ?_
    replace q := nn_s q
    obtain ⟨a_12, e_a_12, q⟩ := q
    refine x_getR hx hb hown hX M e_a_12 okX6 ra0 (by decide) rfl kw_84 dX6_turn_280 (fun ra_12 => ?_)
    refine lv_iconst (v := 5) hx hb dX6_turn_283 (by decide) ?_
    refine lv_iload hx hb dX6_turn_284 (lv_at hl 6 rfl) ?_
    replace q := ck_s q
    obtain ⟨hin, q⟩ := q
    refine x_iast hx hb hX M ra_12 (inb_in hin) dX6_turn_286 (fun H locs M => ?_)
    replace q := gen_g M q
    obtain ⟨g_13, -, M, q⟩ := q
    refine lv_aload_n hx hb dX6_turn_287 rfl (lv_at hl 0 rfl) ?_
    replace q := nn_s q
    obtain ⟨a_14, e_a_14, q⟩ := q
    refine x_getR hx hb hown hX M e_a_14 okX6 ra0 (by decide) rfl kw_84 dX6_turn_288 (fun ra_14 => ?_)
    refine lv_bipush (v := 6) hx hb dX6_turn_291 (by decide) ?_
    refine lv_iload hx hb dX6_turn_293 (lv_at hl 7 rfl) ?_
    replace q := ck_s q
    obtain ⟨hin, q⟩ := q
    refine x_iast hx hb hX M ra_14 (inb_in hin) dX6_turn_295 (fun H locs M => ?_)
    replace q := gen_g M q
    obtain ⟨g_15, -, M, q⟩ := q
    refine lv_aload_n hx hb dX6_turn_296 rfl (lv_at hl 0 rfl) ?_
    replace q := nn_s q
    obtain ⟨a_16, e_a_16, q⟩ := q
    refine x_getR hx hb hown hX M e_a_16 okX6 ra0 (by decide) rfl kw_84 dX6_turn_297 (fun ra_16 => ?_)
    refine lv_bipush (v := 7) hx hb dX6_turn_300 (by decide) ?_
    refine lv_iload hx hb dX6_turn_302 (lv_at hl 8 rfl) ?_
    replace q := ck_s q
    obtain ⟨hin, q⟩ := q
    refine x_iast hx hb hX M ra_16 (inb_in hin) dX6_turn_304 (fun H locs M => ?_)
    replace q := gen_g M q
    obtain ⟨g_17, -, M, q⟩ := q
    cases q
    exact x_vret hx hb hr hlk M Ext.rf dX6_turn_305
  · replace q := if_f c_1 q
    refine lv_iload_n hx hb dX6_turn_73 rfl (lv_at hl 1 rfl) ?_
    refine lv_iload_n hx hb dX6_turn_74 rfl (lv_at hl 2 rfl) ?_
    refine lv_iadd hx hb dX6_turn_75 ?_
    refine lv_topi (fun x_18 e_x_18 => ?_)
    replace q := nm_s q e_x_18
    refine lv_istore_n (lv' := [(1, .int x_18), (0, .ref a0), (2, .int x2), (3, .int x3), (4, .int x4), (5, .int x5), (6, .int x6), (7, .int x7), (8, .int x8), (9, .int x9)]) hx hb dX6_turn_76 rfl hl (by decide) rfl (fun ls hl => ?_)
    refine lv_iload_n hx hb dX6_turn_77 rfl (lv_at hl 0 rfl) ?_
    refine lv_bipush (v := 7) hx hb dX6_turn_78 (by decide) ?_
    refine lv_ishl hx hb dX6_turn_80 ?_
    refine lv_iload_n hx hb dX6_turn_81 rfl (lv_at hl 0 rfl) ?_
    refine lv_bipush (v := 25) hx hb dX6_turn_82 (by decide) ?_
    refine lv_iushr hx hb dX6_turn_84 rfl ?_
    refine lv_ior hx hb dX6_turn_85 ?_
    refine lv_iload hx hb dX6_turn_86 (lv_at hl 4 rfl) ?_
    refine lv_ixor hx hb dX6_turn_88 ?_
    refine lv_topi (fun x_19 e_x_19 => ?_)
    replace q := nm_s q e_x_19
    refine lv_istore_n (lv' := [(1, .int x_19), (0, .ref a0), (2, .int x2), (3, .int x3), (4, .int x4), (5, .int x5), (6, .int x6), (7, .int x7), (8, .int x8), (9, .int x9)]) hx hb dX6_turn_89 rfl hl (by decide) rfl (fun ls hl => ?_)
    refine lv_iload_n hx hb dX6_turn_90 rfl (lv_at hl 2 rfl) ?_
    refine lv_iload_n hx hb dX6_turn_91 rfl (lv_at hl 3 rfl) ?_
    refine lv_iadd hx hb dX6_turn_92 ?_
    refine lv_topi (fun x_20 e_x_20 => ?_)
    replace q := nm_s q e_x_20
    refine lv_istore_n (lv' := [(2, .int x_20), (1, .int x_19), (0, .ref a0), (3, .int x3), (4, .int x4), (5, .int x5), (6, .int x6), (7, .int x7), (8, .int x8), (9, .int x9)]) hx hb dX6_turn_93 rfl hl (by decide) rfl (fun ls hl => ?_)
    refine lv_iload_n hx hb dX6_turn_94 rfl (lv_at hl 0 rfl) ?_
    refine lv_bipush (v := 7) hx hb dX6_turn_95 (by decide) ?_
    refine lv_ishl hx hb dX6_turn_97 ?_
    refine lv_iload_n hx hb dX6_turn_98 rfl (lv_at hl 0 rfl) ?_
    refine lv_bipush (v := 25) hx hb dX6_turn_99 (by decide) ?_
    refine lv_iushr hx hb dX6_turn_101 rfl ?_
    refine lv_ior hx hb dX6_turn_102 ?_
    refine lv_iload hx hb dX6_turn_103 (lv_at hl 5 rfl) ?_
    refine lv_ixor hx hb dX6_turn_105 ?_
    refine lv_topi (fun x_21 e_x_21 => ?_)
    replace q := nm_s q e_x_21
    refine lv_istore_n (lv' := [(2, .int x_21), (1, .int x_19), (0, .ref a0), (3, .int x3), (4, .int x4), (5, .int x5), (6, .int x6), (7, .int x7), (8, .int x8), (9, .int x9)]) hx hb dX6_turn_106 rfl hl (by decide) rfl (fun ls hl => ?_)
    refine lv_iload_n hx hb dX6_turn_107 rfl (lv_at hl 3 rfl) ?_
    refine lv_iload hx hb dX6_turn_108 (lv_at hl 4 rfl) ?_
    refine lv_iadd hx hb dX6_turn_110 ?_
    refine lv_topi (fun x_22 e_x_22 => ?_)
    replace q := nm_s q e_x_22
    refine lv_istore_n (lv' := [(3, .int x_22), (2, .int x_21), (1, .int x_19), (0, .ref a0), (4, .int x4), (5, .int x5), (6, .int x6), (7, .int x7), (8, .int x8), (9, .int x9)]) hx hb dX6_turn_111 rfl hl (by decide) rfl (fun ls hl => ?_)
    refine lv_iload_n hx hb dX6_turn_112 rfl (lv_at hl 0 rfl) ?_
    refine lv_bipush (v := 7) hx hb dX6_turn_113 (by decide) ?_
    refine lv_ishl hx hb dX6_turn_115 ?_
    refine lv_iload_n hx hb dX6_turn_116 rfl (lv_at hl 0 rfl) ?_
    refine lv_bipush (v := 25) hx hb dX6_turn_117 (by decide) ?_
    refine lv_iushr hx hb dX6_turn_119 rfl ?_
    refine lv_ior hx hb dX6_turn_120 ?_
    refine lv_iload hx hb dX6_turn_121 (lv_at hl 6 rfl) ?_
    refine lv_ixor hx hb dX6_turn_123 ?_
    refine lv_topi (fun x_23 e_x_23 => ?_)
    replace q := nm_s q e_x_23
    refine lv_istore_n (lv' := [(3, .int x_23), (2, .int x_21), (1, .int x_19), (0, .ref a0), (4, .int x4), (5, .int x5), (6, .int x6), (7, .int x7), (8, .int x8), (9, .int x9)]) hx hb dX6_turn_124 rfl hl (by decide) rfl (fun ls hl => ?_)
    refine lv_iload hx hb dX6_turn_125 (lv_at hl 4 rfl) ?_
    refine lv_iload hx hb dX6_turn_127 (lv_at hl 5 rfl) ?_
    refine lv_iadd hx hb dX6_turn_129 ?_
    refine lv_topi (fun x_24 e_x_24 => ?_)
    replace q := nm_s q e_x_24
    refine lv_istore (lv' := [(4, .int x_24), (3, .int x_23), (2, .int x_21), (1, .int x_19), (0, .ref a0), (5, .int x5), (6, .int x6), (7, .int x7), (8, .int x8), (9, .int x9)]) hx hb dX6_turn_130 hl (by decide) rfl (fun ls hl => ?_)
    refine lv_iload hx hb dX6_turn_132 (lv_at hl 0 rfl) ?_
    refine lv_bipush (v := 7) hx hb dX6_turn_134 (by decide) ?_
    refine lv_ishl hx hb dX6_turn_136 ?_
    refine lv_iload hx hb dX6_turn_137 (lv_at hl 0 rfl) ?_
    refine lv_bipush (v := 25) hx hb dX6_turn_139 (by decide) ?_
    refine lv_iushr hx hb dX6_turn_141 rfl ?_
    refine lv_ior hx hb dX6_turn_142 ?_
    refine lv_iload hx hb dX6_turn_143 (lv_at hl 7 rfl) ?_
    refine lv_ixor hx hb dX6_turn_145 ?_
    refine lv_topi (fun x_25 e_x_25 => ?_)
    replace q := nm_s q e_x_25
    refine lv_istore (lv' := [(4, .int x_25), (3, .int x_23), (2, .int x_21), (1, .int x_19), (0, .ref a0), (5, .int x5), (6, .int x6), (7, .int x7), (8, .int x8), (9, .int x9)]) hx hb dX6_turn_146 hl (by decide) rfl (fun ls hl => ?_)
    refine lv_iload hx hb dX6_turn_148 (lv_at hl 5 rfl) ?_
    refine lv_iload hx hb dX6_turn_150 (lv_at hl 6 rfl) ?_
    refine lv_iadd hx hb dX6_turn_152 ?_
    refine lv_topi (fun x_26 e_x_26 => ?_)
    replace q := nm_s q e_x_26
    refine lv_istore (lv' := [(5, .int x_26), (4, .int x_25), (3, .int x_23), (2, .int x_21), (1, .int x_19), (0, .ref a0), (6, .int x6), (7, .int x7), (8, .int x8), (9, .int x9)]) hx hb dX6_turn_153 hl (by decide) rfl (fun ls hl => ?_)
    refine lv_iload hx hb dX6_turn_155 (lv_at hl 0 rfl) ?_
    refine lv_bipush (v := 7) hx hb dX6_turn_157 (by decide) ?_
    refine lv_ishl hx hb dX6_turn_159 ?_
    refine lv_iload hx hb dX6_turn_160 (lv_at hl 0 rfl) ?_
    refine lv_bipush (v := 25) hx hb dX6_turn_162 (by decide) ?_
    refine lv_iushr hx hb dX6_turn_164 rfl ?_
    refine lv_ior hx hb dX6_turn_165 ?_
    refine lv_iload hx hb dX6_turn_166 (lv_at hl 8 rfl) ?_
    refine lv_ixor hx hb dX6_turn_168 ?_
    refine lv_topi (fun x_27 e_x_27 => ?_)
    replace q := nm_s q e_x_27
    refine lv_istore (lv' := [(5, .int x_27), (4, .int x_25), (3, .int x_23), (2, .int x_21), (1, .int x_19), (0, .ref a0), (6, .int x6), (7, .int x7), (8, .int x8), (9, .int x9)]) hx hb dX6_turn_169 hl (by decide) rfl (fun ls hl => ?_)
    refine lv_iload hx hb dX6_turn_171 (lv_at hl 6 rfl) ?_
    refine lv_iload hx hb dX6_turn_173 (lv_at hl 7 rfl) ?_
    refine lv_iadd hx hb dX6_turn_175 ?_
    refine lv_topi (fun x_28 e_x_28 => ?_)
    replace q := nm_s q e_x_28
    refine lv_istore (lv' := [(6, .int x_28), (5, .int x_27), (4, .int x_25), (3, .int x_23), (2, .int x_21), (1, .int x_19), (0, .ref a0), (7, .int x7), (8, .int x8), (9, .int x9)]) hx hb dX6_turn_176 hl (by decide) rfl (fun ls hl => ?_)
    refine lv_iload hx hb dX6_turn_178 (lv_at hl 0 rfl) ?_
    refine lv_bipush (v := 7) hx hb dX6_turn_180 (by decide) ?_
    refine lv_ishl hx hb dX6_turn_182 ?_
    refine lv_iload hx hb dX6_turn_183 (lv_at hl 0 rfl) ?_
    refine lv_bipush (v := 25) hx hb dX6_turn_185 (by decide) ?_
    refine lv_iushr hx hb dX6_turn_187 rfl ?_
    refine lv_ior hx hb dX6_turn_188 ?_
    refine lv_iload_n hx hb dX6_turn_189 rfl (lv_at hl 5 rfl) ?_
    refine lv_ixor hx hb dX6_turn_190 ?_
    refine lv_topi (fun x_29 e_x_29 => ?_)
    replace q := nm_s q e_x_29
    refine lv_istore (lv' := [(6, .int x_29), (5, .int x_27), (4, .int x_25), (3, .int x_23), (2, .int x_21), (1, .int x_19), (0, .ref a0), (7, .int x7), (8, .int x8), (9, .int x9)]) hx hb dX6_turn_191 hl (by decide) rfl (fun ls hl => ?_)
    refine lv_iload hx hb dX6_turn_193 (lv_at hl 7 rfl) ?_
    refine lv_iload hx hb dX6_turn_195 (lv_at hl 8 rfl) ?_
    refine lv_iadd hx hb dX6_turn_197 ?_
    refine lv_topi (fun x_30 e_x_30 => ?_)
    replace q := nm_s q e_x_30
    refine lv_istore (lv' := [(7, .int x_30), (6, .int x_29), (5, .int x_27), (4, .int x_25), (3, .int x_23), (2, .int x_21), (1, .int x_19), (0, .ref a0), (8, .int x8), (9, .int x9)]) hx hb dX6_turn_198 hl (by decide) rfl (fun ls hl => ?_)
    refine lv_iload hx hb dX6_turn_200 (lv_at hl 0 rfl) ?_
    refine lv_bipush (v := 7) hx hb dX6_turn_202 (by decide) ?_
    refine lv_ishl hx hb dX6_turn_204 ?_
    refine lv_iload hx hb dX6_turn_205 (lv_at hl 0 rfl) ?_
    refine lv_bipush (v := 25) hx hb dX6_turn_207 (by decide) ?_
    refine lv_iushr hx hb dX6_turn_209 rfl ?_
    refine lv_ior hx hb dX6_turn_210 ?_
    refine lv_iload_n hx hb dX6_turn_211 rfl (lv_at hl 5 rfl) ?_
    refine lv_ixor hx hb dX6_turn_212 ?_
    refine lv_topi (fun x_31 e_x_31 => ?_)
    replace q := nm_s q e_x_31
    refine lv_istore (lv' := [(7, .int x_31), (6, .int x_29), (5, .int x_27), (4, .int x_25), (3, .int x_23), (2, .int x_21), (1, .int x_19), (0, .ref a0), (8, .int x8), (9, .int x9)]) hx hb dX6_turn_213 hl (by decide) rfl (fun ls hl => ?_)
    refine lv_iload hx hb dX6_turn_215 (lv_at hl 8 rfl) ?_
    refine lv_iload_n hx hb dX6_turn_217 rfl (lv_at hl 6 rfl) ?_
    refine lv_iadd hx hb dX6_turn_218 ?_
    refine lv_topi (fun x_32 e_x_32 => ?_)
    replace q := nm_s q e_x_32
    refine lv_istore (lv' := [(8, .int x_32), (7, .int x_31), (6, .int x_29), (5, .int x_27), (4, .int x_25), (3, .int x_23), (2, .int x_21), (1, .int x_19), (0, .ref a0), (9, .int x9)]) hx hb dX6_turn_219 hl (by decide) rfl (fun ls hl => ?_)
    refine lv_iload hx hb dX6_turn_221 (lv_at hl 0 rfl) ?_
    refine lv_bipush (v := 7) hx hb dX6_turn_223 (by decide) ?_
    refine lv_ishl hx hb dX6_turn_225 ?_
    refine lv_iload hx hb dX6_turn_226 (lv_at hl 0 rfl) ?_
    refine lv_bipush (v := 25) hx hb dX6_turn_228 (by decide) ?_
    refine lv_iushr hx hb dX6_turn_230 rfl ?_
    refine lv_ior hx hb dX6_turn_231 ?_
    refine lv_iload_n hx hb dX6_turn_232 rfl (lv_at hl 5 rfl) ?_
    refine lv_ixor hx hb dX6_turn_233 ?_
    refine lv_topi (fun x_33 e_x_33 => ?_)
    replace q := nm_s q e_x_33
    refine lv_istore (lv' := [(8, .int x_33), (7, .int x_31), (6, .int x_29), (5, .int x_27), (4, .int x_25), (3, .int x_23), (2, .int x_21), (1, .int x_19), (0, .ref a0), (9, .int x9)]) hx hb dX6_turn_234 hl (by decide) rfl (fun ls hl => ?_)
    obtain ⟨x_34, e_x_34⟩ : ∃ y : Int32, y = x9 + 1 := ⟨_, rfl⟩
    replace q := nm_s q e_x_34
    refine lv_iinc (v := x_34) (lv' := [(9, .int x_34), (8, .int x_33), (7, .int x_31), (6, .int x_29), (5, .int x_27), (4, .int x_25), (3, .int x_23), (2, .int x_21), (1, .int x_19), (0, .ref a0)]) hx hb dX6_turn_236 hl (k := 9) rfl (by rw [e_x_34]; rfl) (by decide) rfl (fun ls hl => ?_)
    refine lv_goto (tgt := 66) hx hb dX6_turn_239 (by decide) ?_
    exact hk66 _ _ _ _ _ _ _ _ _ _ _ _ _ _ M ra0 (lv_sub hl [9, 8, 7, 6, 5, 4, 3, 2, 1, 0] rfl) q
set_option maxRecDepth 100000 in
theorem l_X6_turn_66 (hx : p.tables.exec = Jvm.exec) (hb : c.code = cX6_turn) (hml : c.maxLocals = 10) (hr : meth.sig.returnType = none) (hlk : meth.locks = false) (hown : s.vm.findClass RX6 = some m.cls) (hX : Kx D cA lo tS s) (hRf : 1 ≤ R.frames) (hRl : 60 ≤ R.locals) {N : Nat} {rv : Unit} {g1 : Hg} {S : Hs} : ∀ (n : Nat), ∀ (H : Heap) (locs : List Loc) (ls : Array Slot) (g : Hg) (a0 : Nat) (x1 : Int32) (x2 : Int32) (x3 : Int32) (x4 : Int32) (x5 : Int32) (x6 : Int32) (x7 : Int32) (x8 : Int32) (x9 : Int32), Mm D cA lo S g s H locs → Rf lo S a0 6 → lv_has ls 10 [(0, .ref a0), (1, .int x1), (2, .int x2), (3, .int x3), (4, .int x4), (5, .int x5), (6, .int x6), (7, .int x7), (8, .int x8), (9, .int x9)] → n_X6_turn_66 N S n g a0 x1 x2 x3 x4 x5 x6 x7 x8 x9 = some (rv, g1) → W p l e R s m args below meth c H locs 0 0 (MQ below (Qcx D cA lo S none S g1 True) args s 0 0 (fun q : Nat => lo ≤ q)) (F0 m 66 ls []) := by
  intro n
  induction n with
  | zero =>
    intro H locs ls g a0 x1 x2 x3 x4 x5 x6 x7 x8 x9 M ra0 hl q
    exact absurd q (by simp [n_X6_turn_66])
  | succ n ih => exact w_X6_turn_66 hx hb hml hr hlk hown hX hRf hRl (N := N)  ih
set_option maxHeartbeats 4000000 in
set_option maxRecDepth 100000 in
theorem w_X6_turn_0 (hx : p.tables.exec = Jvm.exec) (hb : c.code = cX6_turn) (hml : c.maxLocals = 10) (hr : meth.sig.returnType = none) (hlk : meth.locks = false) (hown : s.vm.findClass RX6 = some m.cls) (hX : Kx D cA lo tS s) (hRf : 1 ≤ R.frames) (hRl : 60 ≤ R.locals) {N : Nat} {rv : Unit} {g1 : Hg} {S : Hs} : ∀ (H : Heap) (locs : List Loc) (ls : Array Slot) (g : Hg) (a0 : Nat), Mm D cA lo S g s H locs → Rf lo S a0 6 → lv_has ls 10 [(0, .ref a0)] → b_X6_turn_0 N S g a0 = some (rv, g1) → W p l e R s m args below meth c H locs 0 0 (MQ below (Qcx D cA lo S none S g1 True) args s 0 0 (fun q : Nat => lo ≤ q)) (F0 m 0 ls []) := by
  intro H locs ls g a0 M ra0 hl q
  unfold b_X6_turn_0 at q
  refine lv_aload_n hx hb dX6_turn_0 rfl (lv_at hl 0 rfl) ?_
  replace q := nn_s q
  obtain ⟨a_1, e_a_1, q⟩ := q
  refine x_getR hx hb hown hX M e_a_1 okX6 ra0 (by decide) rfl kw_84 dX6_turn_1 (fun ra_1 => ?_)
  refine lv_iconst (v := 0) hx hb dX6_turn_4 (by decide) ?_
  replace q := ck_s q
  obtain ⟨hin, q⟩ := q
  refine x_iald hx hb hX M ra_1 (inb_in hin) dX6_turn_5 ?_
  refine lv_topi (fun x_2 e_x_2 => ?_)
  replace q := nm_s q e_x_2
  refine lv_istore_n (lv' := [(1, .int x_2), (0, .ref a0)]) hx hb dX6_turn_6 rfl hl (by decide) rfl (fun ls hl => ?_)
  refine lv_aload_n hx hb dX6_turn_7 rfl (lv_at hl 1 rfl) ?_
  replace q := nn_s q
  obtain ⟨a_3, e_a_3, q⟩ := q
  refine x_getR hx hb hown hX M e_a_3 okX6 ra0 (by decide) rfl kw_84 dX6_turn_8 (fun ra_3 => ?_)
  refine lv_iconst (v := 1) hx hb dX6_turn_11 (by decide) ?_
  replace q := ck_s q
  obtain ⟨hin, q⟩ := q
  refine x_iald hx hb hX M ra_3 (inb_in hin) dX6_turn_12 ?_
  refine lv_topi (fun x_4 e_x_4 => ?_)
  replace q := nm_s q e_x_4
  refine lv_istore_n (lv' := [(2, .int x_4), (1, .int x_2), (0, .ref a0)]) hx hb dX6_turn_13 rfl hl (by decide) rfl (fun ls hl => ?_)
  refine lv_aload_n hx hb dX6_turn_14 rfl (lv_at hl 2 rfl) ?_
  replace q := nn_s q
  obtain ⟨a_5, e_a_5, q⟩ := q
  refine x_getR hx hb hown hX M e_a_5 okX6 ra0 (by decide) rfl kw_84 dX6_turn_15 (fun ra_5 => ?_)
  refine lv_iconst (v := 2) hx hb dX6_turn_18 (by decide) ?_
  replace q := ck_s q
  obtain ⟨hin, q⟩ := q
  refine x_iald hx hb hX M ra_5 (inb_in hin) dX6_turn_19 ?_
  refine lv_topi (fun x_6 e_x_6 => ?_)
  replace q := nm_s q e_x_6
  refine lv_istore_n (lv' := [(3, .int x_6), (2, .int x_4), (1, .int x_2), (0, .ref a0)]) hx hb dX6_turn_20 rfl hl (by decide) rfl (fun ls hl => ?_)
  refine lv_aload_n hx hb dX6_turn_21 rfl (lv_at hl 3 rfl) ?_
  replace q := nn_s q
  obtain ⟨a_7, e_a_7, q⟩ := q
  refine x_getR hx hb hown hX M e_a_7 okX6 ra0 (by decide) rfl kw_84 dX6_turn_22 (fun ra_7 => ?_)
  refine lv_iconst (v := 3) hx hb dX6_turn_25 (by decide) ?_
  replace q := ck_s q
  obtain ⟨hin, q⟩ := q
  refine x_iald hx hb hX M ra_7 (inb_in hin) dX6_turn_26 ?_
  refine lv_topi (fun x_8 e_x_8 => ?_)
  replace q := nm_s q e_x_8
  refine lv_istore (lv' := [(4, .int x_8), (3, .int x_6), (2, .int x_4), (1, .int x_2), (0, .ref a0)]) hx hb dX6_turn_27 hl (by decide) rfl (fun ls hl => ?_)
  refine lv_aload_n hx hb dX6_turn_29 rfl (lv_at hl 4 rfl) ?_
  replace q := nn_s q
  obtain ⟨a_9, e_a_9, q⟩ := q
  refine x_getR hx hb hown hX M e_a_9 okX6 ra0 (by decide) rfl kw_84 dX6_turn_30 (fun ra_9 => ?_)
  refine lv_iconst (v := 4) hx hb dX6_turn_33 (by decide) ?_
  replace q := ck_s q
  obtain ⟨hin, q⟩ := q
  refine x_iald hx hb hX M ra_9 (inb_in hin) dX6_turn_34 ?_
  refine lv_topi (fun x_10 e_x_10 => ?_)
  replace q := nm_s q e_x_10
  refine lv_istore (lv' := [(5, .int x_10), (4, .int x_8), (3, .int x_6), (2, .int x_4), (1, .int x_2), (0, .ref a0)]) hx hb dX6_turn_35 hl (by decide) rfl (fun ls hl => ?_)
  refine lv_aload_n hx hb dX6_turn_37 rfl (lv_at hl 5 rfl) ?_
  replace q := nn_s q
  obtain ⟨a_11, e_a_11, q⟩ := q
  refine x_getR hx hb hown hX M e_a_11 okX6 ra0 (by decide) rfl kw_84 dX6_turn_38 (fun ra_11 => ?_)
  refine lv_iconst (v := 5) hx hb dX6_turn_41 (by decide) ?_
  replace q := ck_s q
  obtain ⟨hin, q⟩ := q
  refine x_iald hx hb hX M ra_11 (inb_in hin) dX6_turn_42 ?_
  refine lv_topi (fun x_12 e_x_12 => ?_)
  replace q := nm_s q e_x_12
  refine lv_istore (lv' := [(6, .int x_12), (5, .int x_10), (4, .int x_8), (3, .int x_6), (2, .int x_4), (1, .int x_2), (0, .ref a0)]) hx hb dX6_turn_43 hl (by decide) rfl (fun ls hl => ?_)
  refine lv_aload_n hx hb dX6_turn_45 rfl (lv_at hl 6 rfl) ?_
  replace q := nn_s q
  obtain ⟨a_13, e_a_13, q⟩ := q
  refine x_getR hx hb hown hX M e_a_13 okX6 ra0 (by decide) rfl kw_84 dX6_turn_46 (fun ra_13 => ?_)
  refine lv_bipush (v := 6) hx hb dX6_turn_49 (by decide) ?_
  replace q := ck_s q
  obtain ⟨hin, q⟩ := q
  refine x_iald hx hb hX M ra_13 (inb_in hin) dX6_turn_51 ?_
  refine lv_topi (fun x_14 e_x_14 => ?_)
  replace q := nm_s q e_x_14
  refine lv_istore (lv' := [(7, .int x_14), (6, .int x_12), (5, .int x_10), (4, .int x_8), (3, .int x_6), (2, .int x_4), (1, .int x_2), (0, .ref a0)]) hx hb dX6_turn_52 hl (by decide) rfl (fun ls hl => ?_)
  refine lv_aload_n hx hb dX6_turn_54 rfl (lv_at hl 7 rfl) ?_
  replace q := nn_s q
  obtain ⟨a_15, e_a_15, q⟩ := q
  refine x_getR hx hb hown hX M e_a_15 okX6 ra0 (by decide) rfl kw_84 dX6_turn_55 (fun ra_15 => ?_)
  refine lv_bipush (v := 7) hx hb dX6_turn_58 (by decide) ?_
  replace q := ck_s q
  obtain ⟨hin, q⟩ := q
  refine x_iald hx hb hX M ra_15 (inb_in hin) dX6_turn_60 ?_
  refine lv_topi (fun x_16 e_x_16 => ?_)
  replace q := nm_s q e_x_16
  refine lv_istore (lv' := [(8, .int x_16), (7, .int x_14), (6, .int x_12), (5, .int x_10), (4, .int x_8), (3, .int x_6), (2, .int x_4), (1, .int x_2), (0, .ref a0)]) hx hb dX6_turn_61 hl (by decide) rfl (fun ls hl => ?_)
  refine lv_iconst (v := 0) hx hb dX6_turn_63 (by decide) ?_
  refine lv_istore (lv' := [(9, .int (0 : Int32)), (8, .int x_16), (7, .int x_14), (6, .int x_12), (5, .int x_10), (4, .int x_8), (3, .int x_6), (2, .int x_4), (1, .int x_2), (0, .ref a0)]) hx hb dX6_turn_64 hl (by decide) rfl (fun ls hl => ?_)
  exact l_X6_turn_66 hx hb hml hr hlk hown hX hRf hRl (N := N)  N _ _ _ _ _ _ _ _ _ _ _ _ _ _ M ra0 (lv_sub hl [9, 8, 7, 6, 5, 4, 3, 2, 1, 0] rfl) q
set_option maxRecDepth 100000 in
theorem c_X6_turn {l : Launch} {D : va_G} {cA : Nat → ClassId} {lo tS N : Nat} {S : Hs} {g g1 : Hg} {rv : Unit} {a0 : Nat} (ra0 : Rf lo S a0 6) (q : f_X6_turn N S g a0 = some (rv, g1)) {d : Nat} (hd : 1 ≤ d) : Ctr l yX6_turn cX6_turn 10 none D cA lo tS [.ref a0] S g d none S g1 True 0 0 := by
  refine x_met (by decide) (Nat.le_of_ble_eq_true rfl) ?_
  intro p e s m below meth c ls hx hb hml hr hlk hown hnm hX M hl
  exact w_X6_turn_0 hx hb hml hr hlk hown hX hd (Nat.mul_le_mul_left 60 hd) (N := N) _ _ _ _ _ M ra0 (lv_sub hl [0] rfl) q
def b_X6_mix_77 (N : Nat) (S : Hs) (k33 : Hg → Nat → Int32 → Nat → Int32 → Int32 → Option (Unit × Hg)) (g : Hg) (a0 : Nat) (x1 : Int32) (a2 : Nat) (x3 : Int32) (x4 : Int32) : Option (Unit × Hg) :=
c2 (f_X6_turn N S g a0) (fun u_2 g_1 =>
nm (x4 + 1) (fun x_3 =>
k33 g_1 a0 x1 a2 x3 x_3))
def b_X6_mix_33 (N : Nat) (S : Hs) (k33 : Hg → Nat → Int32 → Nat → Int32 → Int32 → Option (Unit × Hg)) (g : Hg) (a0 : Nat) (x1 : Int32) (a2 : Nat) (x3 : Int32) (x4 : Int32) : Option (Unit × Hg) :=
if x1 ≤ x4 then (
nn (rdR g a0 1) (fun a_2 =>
ck (inb (0 : Int32) (hpL S a_2)) (
ck (inb (0 : Int32) (hpL S a_2)) (
nm (wrI g a_2 (0 : Int32).toNatClampNeg ((rdI g a_2 (0 : Int32).toNatClampNeg) ^^^ x1)) (fun g_3 =>
c2 (f_X6_turn N S g_3 a0) (fun u_5 g_4 =>
nn (rdR g_4 a0 1) (fun a_6 =>
ck (cpok (0 : Int32) (x3 * (8 : Int32)) (8 : Int32) (hpL S a_6) (hpL S a2)) (
nm (cpI g_4 a_6 (0 : Int32).toNatClampNeg a2 (x3 * (8 : Int32)).toNatClampNeg (8 : Int32).toNatClampNeg) (fun g_7 =>
some ((), g_7)))))))))) else (
nn (rdR g a0 1) (fun a_8 =>
ck (inb (x4 - x4 / (8 : Int32) * (8 : Int32)) (hpL S a_8)) (
nn (rdR g a0 0) (fun a_9 =>
ck (inb x4 (hpL S a_9)) (
ck (inb (x4 - x4 / (8 : Int32) * (8 : Int32)) (hpL S a_8)) (
nm (wrI g a_8 (x4 - x4 / (8 : Int32) * (8 : Int32)).toNatClampNeg ((rdI g a_8 (x4 - x4 / (8 : Int32) * (8 : Int32)).toNatClampNeg) ^^^ (rdI g a_9 x4.toNatClampNeg))) (fun g_10 =>
if (x4 - x4 / (8 : Int32) * (8 : Int32)) = (7 : Int32) then (
b_X6_mix_77 N S k33 g_10 a0 x1 a2 x3 x4) else (
if x4 = (x1 - (1 : Int32)) then (
b_X6_mix_77 N S k33 g_10 a0 x1 a2 x3 x4) else (
nm (x4 + 1) (fun x_13 =>
k33 g_10 a0 x1 a2 x3 x_13))))))))))
def n_X6_mix_33 (N : Nat) (S : Hs) : Nat → Hg → Nat → Int32 → Nat → Int32 → Int32 → Option (Unit × Hg)
  | 0 => fun _ _ _ _ _ _ => none
  | n + 1 => fun g a0 x1 a2 x3 x4 => b_X6_mix_33 N S (n_X6_mix_33 N S n) g a0 x1 a2 x3 x4
def b_X6_mix_3 (N : Nat) (S : Hs) (k3 : Hg → Nat → Int32 → Nat → Int32 → Int32 → Option (Unit × Hg)) (g : Hg) (a0 : Nat) (x1 : Int32) (a2 : Nat) (x3 : Int32) (x4 : Int32) : Option (Unit × Hg) :=
if (8 : Int32) ≤ x4 then (
n_X6_mix_33 N S N g a0 x1 a2 x3 (0 : Int32)) else (
nn (rdR g a0 1) (fun a_2 =>
ck (inb x4 (hpL S a_2)) (
nm (wrI g a_2 x4.toNatClampNeg ((x4 + (1 : Int32)) * (1640531527 : Int32))) (fun g_3 =>
nm (x4 + 1) (fun x_4 =>
k3 g_3 a0 x1 a2 x3 x_4)))))
def n_X6_mix_3 (N : Nat) (S : Hs) : Nat → Hg → Nat → Int32 → Nat → Int32 → Int32 → Option (Unit × Hg)
  | 0 => fun _ _ _ _ _ _ => none
  | n + 1 => fun g a0 x1 a2 x3 x4 => b_X6_mix_3 N S (n_X6_mix_3 N S n) g a0 x1 a2 x3 x4
def b_X6_mix_0 (N : Nat) (S : Hs) (g : Hg) (a0 : Nat) (x1 : Int32) (a2 : Nat) (x3 : Int32) : Option (Unit × Hg) :=
n_X6_mix_3 N S N g a0 x1 a2 x3 (0 : Int32)
def f_X6_mix (N : Nat) (S : Hs) (g : Hg) (a0 : Nat) (x1 : Int32) (a2 : Nat) (x3 : Int32) : Option (Unit × Hg) := b_X6_mix_0 N S g a0 x1 a2 x3
set_option maxHeartbeats 4000000 in
set_option maxRecDepth 100000 in
theorem w_X6_mix_77 (hx : p.tables.exec = Jvm.exec) (hb : c.code = cX6_mix) (hml : c.maxLocals = 5) (hr : meth.sig.returnType = none) (hlk : meth.locks = false) (hown : s.vm.findClass RX6 = some m.cls) (hX : Kx D cA lo tS s) (hRf : 2 ≤ R.frames) (hRl : 120 ≤ R.locals) {N : Nat} {rv : Unit} {g1 : Hg} {S : Hs} {k33 : Hg → Nat → Int32 → Nat → Int32 → Int32 → Option (Unit × Hg)} (hk33 : ∀ (H : Heap) (locs : List Loc) (ls : Array Slot) (g : Hg) (a0 : Nat) (x1 : Int32) (a2 : Nat) (x3 : Int32) (x4 : Int32), Mm D cA lo S g s H locs → Rf lo S a0 6 → Rf lo S a2 20 → lv_has ls 5 [(0, .ref a0), (1, .int x1), (2, .ref a2), (3, .int x3), (4, .int x4)] → k33 g a0 x1 a2 x3 x4 = some (rv, g1) → W p l e R s m args below meth c H locs 0 0 (MQ below (Qcx D cA lo S none S g1 True) args s 0 0 (fun q : Nat => lo ≤ q)) (F0 m 33 ls [])) : ∀ (H : Heap) (locs : List Loc) (ls : Array Slot) (g : Hg) (a0 : Nat) (x1 : Int32) (a2 : Nat) (x3 : Int32) (x4 : Int32), Mm D cA lo S g s H locs → Rf lo S a0 6 → Rf lo S a2 20 → lv_has ls 5 [(0, .ref a0), (1, .int x1), (2, .ref a2), (3, .int x3), (4, .int x4)] → b_X6_mix_77 N S k33 g a0 x1 a2 x3 x4 = some (rv, g1) → W p l e R s m args below meth c H locs 0 0 (MQ below (Qcx D cA lo S none S g1 True) args s 0 0 (fun q : Nat => lo ≤ q)) (F0 m 77 ls []) := by
  intro H locs ls g a0 x1 a2 x3 x4 M ra0 ra2 hl q
  unfold b_X6_mix_77 at q
  refine lv_aload_n hx hb dX6_mix_77 rfl (lv_at hl 0 rfl) ?_
  replace q := c2_s q
  obtain ⟨u_2, g_1, qc, q⟩ := q
  refine x_callV hx hb hml hl.1 hown hX M (S1 := S) (As := []) (rest := []) okX6 ra0 rfl kw_521 kw_1 mok_X6_turn (c_X6_turn ra0 qc (Nat.le_refl 1)) kw_519 rfl rfl dX6_mix_78 (Nat.le_of_ble_eq_true rfl) ⟨Nat.le_trans (by decide) hRf, Nat.le_trans (by decide) hRl⟩ (Nat.zero_le _) (Nat.zero_le _) (fun H locs M hEF => ?_)
  obtain ⟨x_3, e_x_3⟩ : ∃ y : Int32, y = x4 + 1 := ⟨_, rfl⟩
  replace q := nm_s q e_x_3
  refine lv_iinc (v := x_3) (lv' := [(4, .int x_3), (0, .ref a0), (1, .int x1), (2, .ref a2), (3, .int x3)]) hx hb dX6_mix_81 hl (k := 4) rfl (by rw [e_x_3]; rfl) (by decide) rfl (fun ls hl => ?_)
  refine lv_goto (tgt := 33) hx hb dX6_mix_84 (by decide) ?_
  exact hk33 _ _ _ _ _ _ _ _ _ M ra0 ra2 (lv_sub hl [1, 2, 3, 4, 0] rfl) q
set_option maxHeartbeats 4000000 in
set_option maxRecDepth 100000 in
theorem w_X6_mix_33 (hx : p.tables.exec = Jvm.exec) (hb : c.code = cX6_mix) (hml : c.maxLocals = 5) (hr : meth.sig.returnType = none) (hlk : meth.locks = false) (hown : s.vm.findClass RX6 = some m.cls) (hX : Kx D cA lo tS s) (hRf : 2 ≤ R.frames) (hRl : 120 ≤ R.locals) {N : Nat} {rv : Unit} {g1 : Hg} {S : Hs} {k33 : Hg → Nat → Int32 → Nat → Int32 → Int32 → Option (Unit × Hg)} (hk33 : ∀ (H : Heap) (locs : List Loc) (ls : Array Slot) (g : Hg) (a0 : Nat) (x1 : Int32) (a2 : Nat) (x3 : Int32) (x4 : Int32), Mm D cA lo S g s H locs → Rf lo S a0 6 → Rf lo S a2 20 → lv_has ls 5 [(0, .ref a0), (1, .int x1), (2, .ref a2), (3, .int x3), (4, .int x4)] → k33 g a0 x1 a2 x3 x4 = some (rv, g1) → W p l e R s m args below meth c H locs 0 0 (MQ below (Qcx D cA lo S none S g1 True) args s 0 0 (fun q : Nat => lo ≤ q)) (F0 m 33 ls [])) : ∀ (H : Heap) (locs : List Loc) (ls : Array Slot) (g : Hg) (a0 : Nat) (x1 : Int32) (a2 : Nat) (x3 : Int32) (x4 : Int32), Mm D cA lo S g s H locs → Rf lo S a0 6 → Rf lo S a2 20 → lv_has ls 5 [(0, .ref a0), (1, .int x1), (2, .ref a2), (3, .int x3), (4, .int x4)] → b_X6_mix_33 N S k33 g a0 x1 a2 x3 x4 = some (rv, g1) → W p l e R s m args below meth c H locs 0 0 (MQ below (Qcx D cA lo S none S g1 True) args s 0 0 (fun q : Nat => lo ≤ q)) (F0 m 33 ls []) := by
  intro H locs ls g a0 x1 a2 x3 x4 M ra0 ra2 hl q
  unfold b_X6_mix_33 at q
  refine lv_iload hx hb dX6_mix_33 (lv_at hl 4 rfl) ?_
  refine lv_iload_n hx hb dX6_mix_35 rfl (lv_at hl 1 rfl) ?_
  refine lv_icmp_ge (tgt := 87) hx hb dX6_mix_36 (by decide) (fun c_1 => ?_) (fun c_1 => ?_)
  · replace q := if_t c_1 q
    refine lv_aload_n hx hb dX6_mix_87 rfl (lv_at hl 0 rfl) ?_
    replace q := nn_s q
    obtain ⟨a_2, e_a_2, q⟩ := q
    refine x_getR hx hb hown hX M e_a_2 okX6 ra0 (by decide) rfl kw_84 dX6_mix_88 (fun ra_2 => ?_)
    refine lv_iconst (v := 0) hx hb dX6_mix_91 (by decide) ?_
    refine lv_dup2_11 hx hb dX6_mix_92 rfl rfl ?_
    replace q := ck_s q
    obtain ⟨hin, q⟩ := q
    refine x_iald hx hb hX M ra_2 (inb_in hin) dX6_mix_93 ?_
    refine lv_iload_n hx hb dX6_mix_94 rfl (lv_at hl 1 rfl) ?_
    refine lv_ixor hx hb dX6_mix_95 ?_
    replace q := ck_s q
    obtain ⟨hin, q⟩ := q
    refine x_iast hx hb hX M ra_2 (inb_in hin) dX6_mix_96 (fun H locs M => ?_)
    replace q := gen_g M q
    obtain ⟨g_3, -, M, q⟩ := q
    refine lv_aload_n hx hb dX6_mix_97 rfl (lv_at hl 0 rfl) ?_
    replace q := c2_s q
    obtain ⟨u_5, g_4, qc, q⟩ := q
    refine x_callV hx hb hml hl.1 hown hX M (S1 := S) (As := []) (rest := []) okX6 ra0 rfl kw_521 kw_1 mok_X6_turn (c_X6_turn ra0 qc (Nat.le_refl 1)) kw_519 rfl rfl dX6_mix_98 (Nat.le_of_ble_eq_true rfl) ⟨Nat.le_trans (by decide) hRf, Nat.le_trans (by decide) hRl⟩ (Nat.zero_le _) (Nat.zero_le _) (fun H locs M hEF => ?_)
    refine lv_aload_n hx hb dX6_mix_101 rfl (lv_at hl 0 rfl) ?_
    replace q := nn_s q
    obtain ⟨a_6, e_a_6, q⟩ := q
    refine x_getR hx hb hown hX M e_a_6 okX6 ra0 (by decide) rfl kw_84 dX6_mix_102 (fun ra_6 => ?_)
    refine lv_iconst (v := 0) hx hb dX6_mix_105 (by decide) ?_
    refine lv_aload_n hx hb dX6_mix_106 rfl (lv_at hl 2 rfl) ?_
    refine lv_iload_n hx hb dX6_mix_107 rfl (lv_at hl 3 rfl) ?_
    refine lv_bipush (v := 8) hx hb dX6_mix_108 (by decide) ?_
    refine lv_imul hx hb dX6_mix_110 ?_
    refine lv_bipush (v := 8) hx hb dX6_mix_111 (by decide) ?_
    replace q := ck_s q
    obtain ⟨hz, q⟩ := q
    refine x_copyI hx hb hml hl.1 hown hX M (rest := []) kw_523 kw_an kw_as kw_ai ra_6 ra2 hz (Nat.le_of_ble_eq_true rfl) ⟨Nat.le_trans (by omega) hRf, Nat.le_trans (by omega) hRl⟩ dX6_mix_113 (fun H locs M => ?_)
    replace q := gen_g M q
    obtain ⟨g_7, -, M, q⟩ := q
    cases q
    exact x_vret hx hb hr hlk M Ext.rf dX6_mix_116
  · replace q := if_f c_1 q
    refine lv_aload_n hx hb dX6_mix_39 rfl (lv_at hl 0 rfl) ?_
    replace q := nn_s q
    obtain ⟨a_8, e_a_8, q⟩ := q
    refine x_getR hx hb hown hX M e_a_8 okX6 ra0 (by decide) rfl kw_84 dX6_mix_40 (fun ra_8 => ?_)
    refine lv_iload hx hb dX6_mix_43 (lv_at hl 4 rfl) ?_
    refine lv_bipush (v := 8) hx hb dX6_mix_45 (by decide) ?_
    refine lv_irem hx hb dX6_mix_47 (by decide) ?_
    refine lv_dup2_11 hx hb dX6_mix_48 rfl rfl ?_
    replace q := ck_s q
    obtain ⟨hin, q⟩ := q
    refine x_iald hx hb hX M ra_8 (inb_in hin) dX6_mix_49 ?_
    refine lv_aload_n hx hb dX6_mix_50 rfl (lv_at hl 0 rfl) ?_
    replace q := nn_s q
    obtain ⟨a_9, e_a_9, q⟩ := q
    refine x_getR hx hb hown hX M e_a_9 okX6 ra0 (by decide) rfl kw_83 dX6_mix_51 (fun ra_9 => ?_)
    refine lv_iload hx hb dX6_mix_54 (lv_at hl 4 rfl) ?_
    replace q := ck_s q
    obtain ⟨hin, q⟩ := q
    refine x_iald hx hb hX M ra_9 (inb_in hin) dX6_mix_56 ?_
    refine lv_ixor hx hb dX6_mix_57 ?_
    replace q := ck_s q
    obtain ⟨hin, q⟩ := q
    refine x_iast hx hb hX M ra_8 (inb_in hin) dX6_mix_58 (fun H locs M => ?_)
    replace q := gen_g M q
    obtain ⟨g_10, -, M, q⟩ := q
    refine lv_iload hx hb dX6_mix_59 (lv_at hl 4 rfl) ?_
    refine lv_bipush (v := 8) hx hb dX6_mix_61 (by decide) ?_
    refine lv_irem hx hb dX6_mix_63 (by decide) ?_
    refine lv_bipush (v := 7) hx hb dX6_mix_64 (by decide) ?_
    refine lv_icmp_eq (tgt := 77) hx hb dX6_mix_66 (by decide) (fun c_11 => ?_) (fun c_11 => ?_)
    · replace q := if_t c_11 q
      exact w_X6_mix_77 hx hb hml hr hlk hown hX hRf hRl (N := N) hk33 _ _ _ _ _ _ _ _ _ M ra0 ra2 (lv_sub hl [0, 1, 2, 3, 4] rfl) q
    · replace q := if_f c_11 q
      refine lv_iload hx hb dX6_mix_69 (lv_at hl 4 rfl) ?_
      refine lv_iload_n hx hb dX6_mix_71 rfl (lv_at hl 1 rfl) ?_
      refine lv_iconst (v := 1) hx hb dX6_mix_72 (by decide) ?_
      refine lv_isub hx hb dX6_mix_73 ?_
      refine lv_icmp_ne (tgt := 81) hx hb dX6_mix_74 (by decide) (fun c_12 => ?_) (fun c_12 => ?_)
      · replace q := if_f c_12 q
        obtain ⟨x_13, e_x_13⟩ : ∃ y : Int32, y = x4 + 1 := ⟨_, rfl⟩
        replace q := nm_s q e_x_13
        refine lv_iinc (v := x_13) (lv' := [(4, .int x_13), (0, .ref a0), (1, .int x1), (2, .ref a2), (3, .int x3)]) hx hb dX6_mix_81 hl (k := 4) rfl (by rw [e_x_13]; rfl) (by decide) rfl (fun ls hl => ?_)
        refine lv_goto (tgt := 33) hx hb dX6_mix_84 (by decide) ?_
        exact hk33 _ _ _ _ _ _ _ _ _ M ra0 ra2 (lv_sub hl [1, 2, 3, 4, 0] rfl) q
      · replace q := if_t c_12 q
        exact w_X6_mix_77 hx hb hml hr hlk hown hX hRf hRl (N := N) hk33 _ _ _ _ _ _ _ _ _ M ra0 ra2 (lv_sub hl [0, 1, 2, 3, 4] rfl) q
set_option maxRecDepth 100000 in
theorem l_X6_mix_33 (hx : p.tables.exec = Jvm.exec) (hb : c.code = cX6_mix) (hml : c.maxLocals = 5) (hr : meth.sig.returnType = none) (hlk : meth.locks = false) (hown : s.vm.findClass RX6 = some m.cls) (hX : Kx D cA lo tS s) (hRf : 2 ≤ R.frames) (hRl : 120 ≤ R.locals) {N : Nat} {rv : Unit} {g1 : Hg} {S : Hs} : ∀ (n : Nat), ∀ (H : Heap) (locs : List Loc) (ls : Array Slot) (g : Hg) (a0 : Nat) (x1 : Int32) (a2 : Nat) (x3 : Int32) (x4 : Int32), Mm D cA lo S g s H locs → Rf lo S a0 6 → Rf lo S a2 20 → lv_has ls 5 [(0, .ref a0), (1, .int x1), (2, .ref a2), (3, .int x3), (4, .int x4)] → n_X6_mix_33 N S n g a0 x1 a2 x3 x4 = some (rv, g1) → W p l e R s m args below meth c H locs 0 0 (MQ below (Qcx D cA lo S none S g1 True) args s 0 0 (fun q : Nat => lo ≤ q)) (F0 m 33 ls []) := by
  intro n
  induction n with
  | zero =>
    intro H locs ls g a0 x1 a2 x3 x4 M ra0 ra2 hl q
    exact absurd q (by simp [n_X6_mix_33])
  | succ n ih => exact w_X6_mix_33 hx hb hml hr hlk hown hX hRf hRl (N := N)  ih
set_option maxHeartbeats 4000000 in
set_option maxRecDepth 100000 in
theorem w_X6_mix_3 (hx : p.tables.exec = Jvm.exec) (hb : c.code = cX6_mix) (hml : c.maxLocals = 5) (hr : meth.sig.returnType = none) (hlk : meth.locks = false) (hown : s.vm.findClass RX6 = some m.cls) (hX : Kx D cA lo tS s) (hRf : 2 ≤ R.frames) (hRl : 120 ≤ R.locals) {N : Nat} {rv : Unit} {g1 : Hg} {S : Hs} {k3 : Hg → Nat → Int32 → Nat → Int32 → Int32 → Option (Unit × Hg)} (hk3 : ∀ (H : Heap) (locs : List Loc) (ls : Array Slot) (g : Hg) (a0 : Nat) (x1 : Int32) (a2 : Nat) (x3 : Int32) (x4 : Int32), Mm D cA lo S g s H locs → Rf lo S a0 6 → Rf lo S a2 20 → lv_has ls 5 [(0, .ref a0), (1, .int x1), (2, .ref a2), (3, .int x3), (4, .int x4)] → k3 g a0 x1 a2 x3 x4 = some (rv, g1) → W p l e R s m args below meth c H locs 0 0 (MQ below (Qcx D cA lo S none S g1 True) args s 0 0 (fun q : Nat => lo ≤ q)) (F0 m 3 ls [])) : ∀ (H : Heap) (locs : List Loc) (ls : Array Slot) (g : Hg) (a0 : Nat) (x1 : Int32) (a2 : Nat) (x3 : Int32) (x4 : Int32), Mm D cA lo S g s H locs → Rf lo S a0 6 → Rf lo S a2 20 → lv_has ls 5 [(0, .ref a0), (1, .int x1), (2, .ref a2), (3, .int x3), (4, .int x4)] → b_X6_mix_3 N S k3 g a0 x1 a2 x3 x4 = some (rv, g1) → W p l e R s m args below meth c H locs 0 0 (MQ below (Qcx D cA lo S none S g1 True) args s 0 0 (fun q : Nat => lo ≤ q)) (F0 m 3 ls []) := by
  intro H locs ls g a0 x1 a2 x3 x4 M ra0 ra2 hl q
  unfold b_X6_mix_3 at q
  refine lv_iload hx hb dX6_mix_3 (lv_at hl 4 rfl) ?_
  refine lv_bipush (v := 8) hx hb dX6_mix_5 (by decide) ?_
  refine lv_icmp_ge (tgt := 30) hx hb dX6_mix_7 (by decide) (fun c_1 => ?_) (fun c_1 => ?_)
  · replace q := if_t c_1 q
    refine lv_iconst (v := 0) hx hb dX6_mix_30 (by decide) ?_
    refine lv_istore (lv' := [(4, .int (0 : Int32)), (0, .ref a0), (1, .int x1), (2, .ref a2), (3, .int x3)]) hx hb dX6_mix_31 hl (by decide) rfl (fun ls hl => ?_)
    exact l_X6_mix_33 hx hb hml hr hlk hown hX hRf hRl (N := N)  N _ _ _ _ _ _ _ _ _ M ra0 ra2 (lv_sub hl [1, 2, 3, 4, 0] rfl) q
  · replace q := if_f c_1 q
    refine lv_aload_n hx hb dX6_mix_10 rfl (lv_at hl 0 rfl) ?_
    replace q := nn_s q
    obtain ⟨a_2, e_a_2, q⟩ := q
    refine x_getR hx hb hown hX M e_a_2 okX6 ra0 (by decide) rfl kw_84 dX6_mix_11 (fun ra_2 => ?_)
    refine lv_iload hx hb dX6_mix_14 (lv_at hl 4 rfl) ?_
    refine lv_iload hx hb dX6_mix_16 (lv_at hl 4 rfl) ?_
    refine lv_iconst (v := 1) hx hb dX6_mix_18 (by decide) ?_
    refine lv_iadd hx hb dX6_mix_19 ?_
    refine lv_ldc (v := 1640531527) hx hb hown (hX.hts _ _ (mw kw_518 rfl)) dX6_mix_20 ?_
    refine lv_imul hx hb dX6_mix_22 ?_
    replace q := ck_s q
    obtain ⟨hin, q⟩ := q
    refine x_iast hx hb hX M ra_2 (inb_in hin) dX6_mix_23 (fun H locs M => ?_)
    replace q := gen_g M q
    obtain ⟨g_3, -, M, q⟩ := q
    obtain ⟨x_4, e_x_4⟩ : ∃ y : Int32, y = x4 + 1 := ⟨_, rfl⟩
    replace q := nm_s q e_x_4
    refine lv_iinc (v := x_4) (lv' := [(4, .int x_4), (0, .ref a0), (1, .int x1), (2, .ref a2), (3, .int x3)]) hx hb dX6_mix_24 hl (k := 4) rfl (by rw [e_x_4]; rfl) (by decide) rfl (fun ls hl => ?_)
    refine lv_goto (tgt := 3) hx hb dX6_mix_27 (by decide) ?_
    exact hk3 _ _ _ _ _ _ _ _ _ M ra0 ra2 (lv_sub hl [1, 2, 3, 4, 0] rfl) q
set_option maxRecDepth 100000 in
theorem l_X6_mix_3 (hx : p.tables.exec = Jvm.exec) (hb : c.code = cX6_mix) (hml : c.maxLocals = 5) (hr : meth.sig.returnType = none) (hlk : meth.locks = false) (hown : s.vm.findClass RX6 = some m.cls) (hX : Kx D cA lo tS s) (hRf : 2 ≤ R.frames) (hRl : 120 ≤ R.locals) {N : Nat} {rv : Unit} {g1 : Hg} {S : Hs} : ∀ (n : Nat), ∀ (H : Heap) (locs : List Loc) (ls : Array Slot) (g : Hg) (a0 : Nat) (x1 : Int32) (a2 : Nat) (x3 : Int32) (x4 : Int32), Mm D cA lo S g s H locs → Rf lo S a0 6 → Rf lo S a2 20 → lv_has ls 5 [(0, .ref a0), (1, .int x1), (2, .ref a2), (3, .int x3), (4, .int x4)] → n_X6_mix_3 N S n g a0 x1 a2 x3 x4 = some (rv, g1) → W p l e R s m args below meth c H locs 0 0 (MQ below (Qcx D cA lo S none S g1 True) args s 0 0 (fun q : Nat => lo ≤ q)) (F0 m 3 ls []) := by
  intro n
  induction n with
  | zero =>
    intro H locs ls g a0 x1 a2 x3 x4 M ra0 ra2 hl q
    exact absurd q (by simp [n_X6_mix_3])
  | succ n ih => exact w_X6_mix_3 hx hb hml hr hlk hown hX hRf hRl (N := N)  ih
set_option maxHeartbeats 4000000 in
set_option maxRecDepth 100000 in
theorem w_X6_mix_0 (hx : p.tables.exec = Jvm.exec) (hb : c.code = cX6_mix) (hml : c.maxLocals = 5) (hr : meth.sig.returnType = none) (hlk : meth.locks = false) (hown : s.vm.findClass RX6 = some m.cls) (hX : Kx D cA lo tS s) (hRf : 2 ≤ R.frames) (hRl : 120 ≤ R.locals) {N : Nat} {rv : Unit} {g1 : Hg} {S : Hs} : ∀ (H : Heap) (locs : List Loc) (ls : Array Slot) (g : Hg) (a0 : Nat) (x1 : Int32) (a2 : Nat) (x3 : Int32), Mm D cA lo S g s H locs → Rf lo S a0 6 → Rf lo S a2 20 → lv_has ls 5 [(0, .ref a0), (1, .int x1), (2, .ref a2), (3, .int x3)] → b_X6_mix_0 N S g a0 x1 a2 x3 = some (rv, g1) → W p l e R s m args below meth c H locs 0 0 (MQ below (Qcx D cA lo S none S g1 True) args s 0 0 (fun q : Nat => lo ≤ q)) (F0 m 0 ls []) := by
  intro H locs ls g a0 x1 a2 x3 M ra0 ra2 hl q
  unfold b_X6_mix_0 at q
  refine lv_iconst (v := 0) hx hb dX6_mix_0 (by decide) ?_
  refine lv_istore (lv' := [(4, .int (0 : Int32)), (0, .ref a0), (1, .int x1), (2, .ref a2), (3, .int x3)]) hx hb dX6_mix_1 hl (by decide) rfl (fun ls hl => ?_)
  exact l_X6_mix_3 hx hb hml hr hlk hown hX hRf hRl (N := N)  N _ _ _ _ _ _ _ _ _ M ra0 ra2 (lv_sub hl [1, 2, 3, 4, 0] rfl) q
set_option maxRecDepth 100000 in
theorem c_X6_mix {l : Launch} {D : va_G} {cA : Nat → ClassId} {lo tS N : Nat} {S : Hs} {g g1 : Hg} {rv : Unit} {a0 : Nat} {x1 : Int32} {a2 : Nat} {x3 : Int32} (ra0 : Rf lo S a0 6) (ra2 : Rf lo S a2 20) (q : f_X6_mix N S g a0 x1 a2 x3 = some (rv, g1)) {d : Nat} (hd : 2 ≤ d) : Ctr l yX6_mix cX6_mix 5 none D cA lo tS [.ref a0, .int x1, .ref a2, .int x3] S g d none S g1 True 0 0 := by
  refine x_met (by decide) (Nat.le_of_ble_eq_true rfl) ?_
  intro p e s m below meth c ls hx hb hml hr hlk hown hnm hX M hl
  exact w_X6_mix_0 hx hb hml hr hlk hown hX hd (Nat.mul_le_mul_left 60 hd) (N := N) _ _ _ _ _ _ _ _ M ra0 ra2 (lv_sub hl [0, 1, 2, 3] rfl) q
def b_X6_join_0 (N : Nat) (S : Hs) (g : Hg) (a0 : Nat) (a1 : Nat) (x2 : Int32) (a3 : Nat) (x4 : Int32) (a5 : Nat) (x6 : Int32) : Option (Unit × Hg) :=
nn (rdR g a0 0) (fun a_1 =>
ck (inb (0 : Int32) (hpL S a_1)) (
nm (wrI g a_1 (0 : Int32).toNatClampNeg (2 : Int32)) (fun g_2 =>
nn (rdR g_2 a0 0) (fun a_3 =>
ck (cpok (x2 * (8 : Int32)) (1 : Int32) (8 : Int32) (hpL S a1) (hpL S a_3)) (
nm (cpI g_2 a1 (x2 * (8 : Int32)).toNatClampNeg a_3 (1 : Int32).toNatClampNeg (8 : Int32).toNatClampNeg) (fun g_4 =>
nn (rdR g_4 a0 0) (fun a_5 =>
ck (cpok (x4 * (8 : Int32)) (9 : Int32) (8 : Int32) (hpL S a3) (hpL S a_5)) (
nm (cpI g_4 a3 (x4 * (8 : Int32)).toNatClampNeg a_5 (9 : Int32).toNatClampNeg (8 : Int32).toNatClampNeg) (fun g_6 =>
c2 (f_X6_mix N S g_6 a0 (17 : Int32) a5 x6) (fun u_8 g_7 =>
some ((), g_7)))))))))))
def f_X6_join (N : Nat) (S : Hs) (g : Hg) (a0 : Nat) (a1 : Nat) (x2 : Int32) (a3 : Nat) (x4 : Int32) (a5 : Nat) (x6 : Int32) : Option (Unit × Hg) := b_X6_join_0 N S g a0 a1 x2 a3 x4 a5 x6
set_option maxHeartbeats 4000000 in
set_option maxRecDepth 100000 in
theorem w_X6_join_0 (hx : p.tables.exec = Jvm.exec) (hb : c.code = cX6_join) (hml : c.maxLocals = 7) (hr : meth.sig.returnType = none) (hlk : meth.locks = false) (hown : s.vm.findClass RX6 = some m.cls) (hX : Kx D cA lo tS s) (hRf : 3 ≤ R.frames) (hRl : 180 ≤ R.locals) {N : Nat} {rv : Unit} {g1 : Hg} {S : Hs} : ∀ (H : Heap) (locs : List Loc) (ls : Array Slot) (g : Hg) (a0 : Nat) (a1 : Nat) (x2 : Int32) (a3 : Nat) (x4 : Int32) (a5 : Nat) (x6 : Int32), Mm D cA lo S g s H locs → Rf lo S a0 6 → Rf lo S a1 20 → Rf lo S a3 20 → Rf lo S a5 20 → lv_has ls 7 [(0, .ref a0), (1, .ref a1), (2, .int x2), (3, .ref a3), (4, .int x4), (5, .ref a5), (6, .int x6)] → b_X6_join_0 N S g a0 a1 x2 a3 x4 a5 x6 = some (rv, g1) → W p l e R s m args below meth c H locs 0 0 (MQ below (Qcx D cA lo S none S g1 True) args s 0 0 (fun q : Nat => lo ≤ q)) (F0 m 0 ls []) := by
  intro H locs ls g a0 a1 x2 a3 x4 a5 x6 M ra0 ra1 ra3 ra5 hl q
  unfold b_X6_join_0 at q
  refine lv_aload_n hx hb dX6_join_0 rfl (lv_at hl 0 rfl) ?_
  replace q := nn_s q
  obtain ⟨a_1, e_a_1, q⟩ := q
  refine x_getR hx hb hown hX M e_a_1 okX6 ra0 (by decide) rfl kw_83 dX6_join_1 (fun ra_1 => ?_)
  refine lv_iconst (v := 0) hx hb dX6_join_4 (by decide) ?_
  refine lv_iconst (v := 2) hx hb dX6_join_5 (by decide) ?_
  replace q := ck_s q
  obtain ⟨hin, q⟩ := q
  refine x_iast hx hb hX M ra_1 (inb_in hin) dX6_join_6 (fun H locs M => ?_)
  replace q := gen_g M q
  obtain ⟨g_2, -, M, q⟩ := q
  refine lv_aload_n hx hb dX6_join_7 rfl (lv_at hl 1 rfl) ?_
  refine lv_iload_n hx hb dX6_join_8 rfl (lv_at hl 2 rfl) ?_
  refine lv_bipush (v := 8) hx hb dX6_join_9 (by decide) ?_
  refine lv_imul hx hb dX6_join_11 ?_
  refine lv_aload_n hx hb dX6_join_12 rfl (lv_at hl 0 rfl) ?_
  replace q := nn_s q
  obtain ⟨a_3, e_a_3, q⟩ := q
  refine x_getR hx hb hown hX M e_a_3 okX6 ra0 (by decide) rfl kw_83 dX6_join_13 (fun ra_3 => ?_)
  refine lv_iconst (v := 1) hx hb dX6_join_16 (by decide) ?_
  refine lv_bipush (v := 8) hx hb dX6_join_17 (by decide) ?_
  replace q := ck_s q
  obtain ⟨hz, q⟩ := q
  refine x_copyI hx hb hml hl.1 hown hX M (rest := []) kw_523 kw_an kw_as kw_ai ra1 ra_3 hz (Nat.le_of_ble_eq_true rfl) ⟨Nat.le_trans (by omega) hRf, Nat.le_trans (by omega) hRl⟩ dX6_join_19 (fun H locs M => ?_)
  replace q := gen_g M q
  obtain ⟨g_4, -, M, q⟩ := q
  refine lv_aload_n hx hb dX6_join_22 rfl (lv_at hl 3 rfl) ?_
  refine lv_iload hx hb dX6_join_23 (lv_at hl 4 rfl) ?_
  refine lv_bipush (v := 8) hx hb dX6_join_25 (by decide) ?_
  refine lv_imul hx hb dX6_join_27 ?_
  refine lv_aload_n hx hb dX6_join_28 rfl (lv_at hl 0 rfl) ?_
  replace q := nn_s q
  obtain ⟨a_5, e_a_5, q⟩ := q
  refine x_getR hx hb hown hX M e_a_5 okX6 ra0 (by decide) rfl kw_83 dX6_join_29 (fun ra_5 => ?_)
  refine lv_bipush (v := 9) hx hb dX6_join_32 (by decide) ?_
  refine lv_bipush (v := 8) hx hb dX6_join_34 (by decide) ?_
  replace q := ck_s q
  obtain ⟨hz, q⟩ := q
  refine x_copyI hx hb hml hl.1 hown hX M (rest := []) kw_523 kw_an kw_as kw_ai ra3 ra_5 hz (Nat.le_of_ble_eq_true rfl) ⟨Nat.le_trans (by omega) hRf, Nat.le_trans (by omega) hRl⟩ dX6_join_36 (fun H locs M => ?_)
  replace q := gen_g M q
  obtain ⟨g_6, -, M, q⟩ := q
  refine lv_aload_n hx hb dX6_join_39 rfl (lv_at hl 0 rfl) ?_
  refine lv_bipush (v := 17) hx hb dX6_join_40 (by decide) ?_
  refine lv_aload hx hb dX6_join_42 (lv_at hl 5 rfl) ?_
  refine lv_iload hx hb dX6_join_44 (lv_at hl 6 rfl) ?_
  replace q := c2_s q
  obtain ⟨u_8, g_7, qc, q⟩ := q
  refine x_callV hx hb hml hl.1 hown hX M (S1 := S) (As := [.int (17 : Int32), .ref a5, .int x6]) (rest := []) okX6 ra0 rfl kw_516 kw_0 mok_X6_mix (c_X6_mix ra0 ra5 qc (Nat.le_refl 2)) kw_514 rfl rfl dX6_join_46 (Nat.le_of_ble_eq_true rfl) ⟨Nat.le_trans (by decide) hRf, Nat.le_trans (by decide) hRl⟩ (Nat.zero_le _) (Nat.zero_le _) (fun H locs M hEF => ?_)
  cases q
  exact x_vret hx hb hr hlk M Ext.rf dX6_join_49
set_option maxRecDepth 100000 in
theorem c_X6_join {l : Launch} {D : va_G} {cA : Nat → ClassId} {lo tS N : Nat} {S : Hs} {g g1 : Hg} {rv : Unit} {a0 : Nat} {a1 : Nat} {x2 : Int32} {a3 : Nat} {x4 : Int32} {a5 : Nat} {x6 : Int32} (ra0 : Rf lo S a0 6) (ra1 : Rf lo S a1 20) (ra3 : Rf lo S a3 20) (ra5 : Rf lo S a5 20) (q : f_X6_join N S g a0 a1 x2 a3 x4 a5 x6 = some (rv, g1)) {d : Nat} (hd : 3 ≤ d) : Ctr l yX6_join cX6_join 7 none D cA lo tS [.ref a0, .ref a1, .int x2, .ref a3, .int x4, .ref a5, .int x6] S g d none S g1 True 0 0 := by
  refine x_met (by decide) (Nat.le_of_ble_eq_true rfl) ?_
  intro p e s m below meth c ls hx hb hml hr hlk hown hnm hX M hl
  exact w_X6_join_0 hx hb hml hr hlk hown hX hd (Nat.mul_le_mul_left 60 hd) (N := N) _ _ _ _ _ _ _ _ _ _ _ M ra0 ra1 ra3 ra5 (lv_sub hl [0, 1, 2, 3, 4, 5, 6] rfl) q
def b_X6_sumOfLeaf_0 (N : Nat) (S : Hs) (g : Hg) (a0 : Nat) (x1 : Int32) (x2 : Int32) (a3 : Nat) (x4 : Int32) : Option (Unit × Hg) :=
nn (rdR g a0 0) (fun a_1 =>
ck (inb (0 : Int32) (hpL S a_1)) (
nm (wrI g a_1 (0 : Int32).toNatClampNeg (5 : Int32)) (fun g_2 =>
nn (rdR g_2 a0 0) (fun a_3 =>
ck (inb (1 : Int32) (hpL S a_3)) (
nm (wrI g_2 a_3 (1 : Int32).toNatClampNeg x1) (fun g_4 =>
nn (rdR g_4 a0 0) (fun a_5 =>
ck (inb (2 : Int32) (hpL S a_5)) (
nm (wrI g_4 a_5 (2 : Int32).toNatClampNeg x2) (fun g_6 =>
c2 (f_X6_mix N S g_6 a0 (3 : Int32) a3 x4) (fun u_8 g_7 =>
some ((), g_7)))))))))))
def f_X6_sumOfLeaf (N : Nat) (S : Hs) (g : Hg) (a0 : Nat) (x1 : Int32) (x2 : Int32) (a3 : Nat) (x4 : Int32) : Option (Unit × Hg) := b_X6_sumOfLeaf_0 N S g a0 x1 x2 a3 x4
set_option maxHeartbeats 4000000 in
set_option maxRecDepth 100000 in
theorem w_X6_sumOfLeaf_0 (hx : p.tables.exec = Jvm.exec) (hb : c.code = cX6_sumOfLeaf) (hml : c.maxLocals = 5) (hr : meth.sig.returnType = none) (hlk : meth.locks = false) (hown : s.vm.findClass RX6 = some m.cls) (hX : Kx D cA lo tS s) (hRf : 3 ≤ R.frames) (hRl : 180 ≤ R.locals) {N : Nat} {rv : Unit} {g1 : Hg} {S : Hs} : ∀ (H : Heap) (locs : List Loc) (ls : Array Slot) (g : Hg) (a0 : Nat) (x1 : Int32) (x2 : Int32) (a3 : Nat) (x4 : Int32), Mm D cA lo S g s H locs → Rf lo S a0 6 → Rf lo S a3 20 → lv_has ls 5 [(0, .ref a0), (1, .int x1), (2, .int x2), (3, .ref a3), (4, .int x4)] → b_X6_sumOfLeaf_0 N S g a0 x1 x2 a3 x4 = some (rv, g1) → W p l e R s m args below meth c H locs 0 0 (MQ below (Qcx D cA lo S none S g1 True) args s 0 0 (fun q : Nat => lo ≤ q)) (F0 m 0 ls []) := by
  intro H locs ls g a0 x1 x2 a3 x4 M ra0 ra3 hl q
  unfold b_X6_sumOfLeaf_0 at q
  refine lv_aload_n hx hb dX6_sumOfLeaf_0 rfl (lv_at hl 0 rfl) ?_
  replace q := nn_s q
  obtain ⟨a_1, e_a_1, q⟩ := q
  refine x_getR hx hb hown hX M e_a_1 okX6 ra0 (by decide) rfl kw_83 dX6_sumOfLeaf_1 (fun ra_1 => ?_)
  refine lv_iconst (v := 0) hx hb dX6_sumOfLeaf_4 (by decide) ?_
  refine lv_iconst (v := 5) hx hb dX6_sumOfLeaf_5 (by decide) ?_
  replace q := ck_s q
  obtain ⟨hin, q⟩ := q
  refine x_iast hx hb hX M ra_1 (inb_in hin) dX6_sumOfLeaf_6 (fun H locs M => ?_)
  replace q := gen_g M q
  obtain ⟨g_2, -, M, q⟩ := q
  refine lv_aload_n hx hb dX6_sumOfLeaf_7 rfl (lv_at hl 0 rfl) ?_
  replace q := nn_s q
  obtain ⟨a_3, e_a_3, q⟩ := q
  refine x_getR hx hb hown hX M e_a_3 okX6 ra0 (by decide) rfl kw_83 dX6_sumOfLeaf_8 (fun ra_3 => ?_)
  refine lv_iconst (v := 1) hx hb dX6_sumOfLeaf_11 (by decide) ?_
  refine lv_iload_n hx hb dX6_sumOfLeaf_12 rfl (lv_at hl 1 rfl) ?_
  replace q := ck_s q
  obtain ⟨hin, q⟩ := q
  refine x_iast hx hb hX M ra_3 (inb_in hin) dX6_sumOfLeaf_13 (fun H locs M => ?_)
  replace q := gen_g M q
  obtain ⟨g_4, -, M, q⟩ := q
  refine lv_aload_n hx hb dX6_sumOfLeaf_14 rfl (lv_at hl 0 rfl) ?_
  replace q := nn_s q
  obtain ⟨a_5, e_a_5, q⟩ := q
  refine x_getR hx hb hown hX M e_a_5 okX6 ra0 (by decide) rfl kw_83 dX6_sumOfLeaf_15 (fun ra_5 => ?_)
  refine lv_iconst (v := 2) hx hb dX6_sumOfLeaf_18 (by decide) ?_
  refine lv_iload_n hx hb dX6_sumOfLeaf_19 rfl (lv_at hl 2 rfl) ?_
  replace q := ck_s q
  obtain ⟨hin, q⟩ := q
  refine x_iast hx hb hX M ra_5 (inb_in hin) dX6_sumOfLeaf_20 (fun H locs M => ?_)
  replace q := gen_g M q
  obtain ⟨g_6, -, M, q⟩ := q
  refine lv_aload_n hx hb dX6_sumOfLeaf_21 rfl (lv_at hl 0 rfl) ?_
  refine lv_iconst (v := 3) hx hb dX6_sumOfLeaf_22 (by decide) ?_
  refine lv_aload_n hx hb dX6_sumOfLeaf_23 rfl (lv_at hl 3 rfl) ?_
  refine lv_iload hx hb dX6_sumOfLeaf_24 (lv_at hl 4 rfl) ?_
  replace q := c2_s q
  obtain ⟨u_8, g_7, qc, q⟩ := q
  refine x_callV hx hb hml hl.1 hown hX M (S1 := S) (As := [.int (3 : Int32), .ref a3, .int x4]) (rest := []) okX6 ra0 rfl kw_516 kw_0 mok_X6_mix (c_X6_mix ra0 ra3 qc (Nat.le_refl 2)) kw_514 rfl rfl dX6_sumOfLeaf_26 (Nat.le_of_ble_eq_true rfl) ⟨Nat.le_trans (by decide) hRf, Nat.le_trans (by decide) hRl⟩ (Nat.zero_le _) (Nat.zero_le _) (fun H locs M hEF => ?_)
  cases q
  exact x_vret hx hb hr hlk M Ext.rf dX6_sumOfLeaf_29
set_option maxRecDepth 100000 in
theorem c_X6_sumOfLeaf {l : Launch} {D : va_G} {cA : Nat → ClassId} {lo tS N : Nat} {S : Hs} {g g1 : Hg} {rv : Unit} {a0 : Nat} {x1 : Int32} {x2 : Int32} {a3 : Nat} {x4 : Int32} (ra0 : Rf lo S a0 6) (ra3 : Rf lo S a3 20) (q : f_X6_sumOfLeaf N S g a0 x1 x2 a3 x4 = some (rv, g1)) {d : Nat} (hd : 3 ≤ d) : Ctr l yX6_sumOfLeaf cX6_sumOfLeaf 5 none D cA lo tS [.ref a0, .int x1, .int x2, .ref a3, .int x4] S g d none S g1 True 0 0 := by
  refine x_met (by decide) (Nat.le_of_ble_eq_true rfl) ?_
  intro p e s m below meth c ls hx hb hml hr hlk hown hnm hX M hl
  exact w_X6_sumOfLeaf_0 hx hb hml hr hlk hown hX hd (Nat.mul_le_mul_left 60 hd) (N := N) _ _ _ _ _ _ _ _ _ M ra0 ra3 (lv_sub hl [0, 1, 2, 3, 4] rfl) q
def b_X4_plant_55 (N : Nat) (S : Hs) (self : Hg → Nat → Nat → Int32 → Int32 → Int32 → Int32 → Option (Unit × Hg)) (g : Hg) (a0 : Nat) (x5 : Int32) : Option (Unit × Hg) :=
nn (rdR g a0 3) (fun a_1 =>
c2 (f_X11_setNought N S g a_1 x5) (fun u_3 g_2 =>
some ((), g_2)))
def b_X4_plant_0 (N : Nat) (S : Hs) (self : Hg → Nat → Nat → Int32 → Int32 → Int32 → Int32 → Option (Unit × Hg)) (g : Hg) (a0 : Nat) (a1 : Nat) (x2 : Int32) (x3 : Int32) (x4 : Int32) (x5 : Int32) : Option (Unit × Hg) :=
if (x3 - x2) = (1 : Int32) then (
nn (rdR g a0 2) (fun a_16 =>
ck (inb x2 (hpL S a_16)) (
nm (rdI g a_16 x2.toNatClampNeg) (fun x_17 =>
nn (rdR g a0 0) (fun a_18 =>
c2 (f_X2_keyOf N S g a1 x_17) (fun x_20 g_19 =>
nn (rdR g_19 a0 1) (fun a_21 =>
ck (inb x_17 (hpL S a_21)) (
nn (rdR g_19 a0 3) (fun a_22 =>
c2 (f_X6_sumOfLeaf N S g_19 a_18 x_20 (rdI g_19 a_21 x_17.toNatClampNeg) a_22 x5) (fun u_24 g_23 =>
some ((), g_23))))))))))) else (
if x3 ≤ x2 then (
b_X4_plant_55 N S self g a0 x5) else (
if x4 < (256 : Int32) then (
c2 (f_X4_partingOf N S g a0 a1 x2 x3 x4) (fun x_5 g_4 =>
c2 (self g_4 a0 a1 x2 x_5 (x4 + (1 : Int32)) x5) (fun u_7 g_6 =>
c2 (self g_6 a0 a1 x_5 x3 (x4 + (1 : Int32)) (x5 + (1 : Int32))) (fun u_9 g_8 =>
nn (rdR g_8 a0 0) (fun a_10 =>
nn (rdR g_8 a0 3) (fun a_11 =>
nn (rdR g_8 a0 3) (fun a_12 =>
nn (rdR g_8 a0 3) (fun a_13 =>
c2 (f_X6_join N S g_8 a_10 a_11 x5 a_12 (x5 + (1 : Int32)) a_13 x5) (fun u_15 g_14 =>
some ((), g_14)))))))))) else (
b_X4_plant_55 N S self g a0 x5)))
def f_X4_plant (N : Nat) (S : Hs) : Nat → Hg → Nat → Nat → Int32 → Int32 → Int32 → Int32 → Option (Unit × Hg)
  | 0 => fun _ _ _ _ _ _ _ => none
  | n + 1 => fun g a0 a1 x2 x3 x4 x5 => b_X4_plant_0 N S (f_X4_plant N S n) g a0 a1 x2 x3 x4 x5
set_option maxHeartbeats 4000000 in
set_option maxRecDepth 100000 in
theorem w_X4_plant_55 (hx : p.tables.exec = Jvm.exec) (hb : c.code = cX4_plant) (hml : c.maxLocals = 7) (hr : meth.sig.returnType = none) (hlk : meth.locks = false) (hown : s.vm.findClass RX4 = some m.cls) (hX : Kx D cA lo tS s) {nf : Nat} (hRf : nf + 1 + 4 ≤ R.frames) (hRl : 60 * (nf + 1 + 4) ≤ R.locals) {N : Nat} {rv : Unit} {g1 : Hg} {S : Hs} {self : Hg → Nat → Nat → Int32 → Int32 → Int32 → Int32 → Option (Unit × Hg)} (hself : ∀ (g g1 : Hg) (rv : Unit) (a0 : Nat) (a1 : Nat) (x2 : Int32) (x3 : Int32) (x4 : Int32) (x5 : Int32), Rf lo S a0 4 → Rf lo S a1 2 → self g a0 a1 x2 x3 x4 x5 = some (rv, g1) → ∀ d, nf + 4 ≤ d → Ctr l yX4_plant cX4_plant 7 none D cA lo tS [.ref a0, .ref a1, .int x2, .int x3, .int x4, .int x5] S g d none S g1 True 0 0) : ∀ (H : Heap) (locs : List Loc) (ls : Array Slot) (g : Hg) (a0 : Nat) (x5 : Int32), Mm D cA lo S g s H locs → Rf lo S a0 4 → lv_has ls 7 [(0, .ref a0), (5, .int x5)] → b_X4_plant_55 N S self g a0 x5 = some (rv, g1) → W p l e R s m args below meth c H locs 0 0 (MQ below (Qcx D cA lo S none S g1 True) args s 0 0 (fun q : Nat => lo ≤ q)) (F0 m 55 ls []) := by
  intro H locs ls g a0 x5 M ra0 hl q
  unfold b_X4_plant_55 at q
  refine lv_aload_n hx hb dX4_plant_55 rfl (lv_at hl 0 rfl) ?_
  replace q := nn_s q
  obtain ⟨a_1, e_a_1, q⟩ := q
  refine x_getR hx hb hown hX M e_a_1 okX4 ra0 (by decide) rfl kw_100 dX4_plant_56 (fun ra_1 => ?_)
  refine lv_iload hx hb dX4_plant_59 (lv_at hl 1 rfl) ?_
  replace q := c2_s q
  obtain ⟨u_3, g_2, qc, q⟩ := q
  refine x_callSN hx hb hml hl.1 hown hX M (S1 := S) (As := [.ref a_1, .int x5]) (rest := []) kw_682 mok_X11_setNought (c_X11_setNought ra_1 qc (Nat.le_refl 3)) kw_705 rfl rfl dX4_plant_61 (Nat.le_of_ble_eq_true rfl) ⟨by omega, by omega⟩ (Nat.zero_le _) (Nat.zero_le _) (fun H locs M hEF => ?_)
  cases q
  exact x_vret hx hb hr hlk M Ext.rf dX4_plant_64
set_option maxHeartbeats 4000000 in
set_option maxRecDepth 100000 in
theorem w_X4_plant_0 (hx : p.tables.exec = Jvm.exec) (hb : c.code = cX4_plant) (hml : c.maxLocals = 7) (hr : meth.sig.returnType = none) (hlk : meth.locks = false) (hown : s.vm.findClass RX4 = some m.cls) (hX : Kx D cA lo tS s) {nf : Nat} (hRf : nf + 1 + 4 ≤ R.frames) (hRl : 60 * (nf + 1 + 4) ≤ R.locals) {N : Nat} {rv : Unit} {g1 : Hg} {S : Hs} {self : Hg → Nat → Nat → Int32 → Int32 → Int32 → Int32 → Option (Unit × Hg)} (hself : ∀ (g g1 : Hg) (rv : Unit) (a0 : Nat) (a1 : Nat) (x2 : Int32) (x3 : Int32) (x4 : Int32) (x5 : Int32), Rf lo S a0 4 → Rf lo S a1 2 → self g a0 a1 x2 x3 x4 x5 = some (rv, g1) → ∀ d, nf + 4 ≤ d → Ctr l yX4_plant cX4_plant 7 none D cA lo tS [.ref a0, .ref a1, .int x2, .int x3, .int x4, .int x5] S g d none S g1 True 0 0) : ∀ (H : Heap) (locs : List Loc) (ls : Array Slot) (g : Hg) (a0 : Nat) (a1 : Nat) (x2 : Int32) (x3 : Int32) (x4 : Int32) (x5 : Int32), Mm D cA lo S g s H locs → Rf lo S a0 4 → Rf lo S a1 2 → lv_has ls 7 [(0, .ref a0), (1, .ref a1), (2, .int x2), (3, .int x3), (4, .int x4), (5, .int x5)] → b_X4_plant_0 N S self g a0 a1 x2 x3 x4 x5 = some (rv, g1) → W p l e R s m args below meth c H locs 0 0 (MQ below (Qcx D cA lo S none S g1 True) args s 0 0 (fun q : Nat => lo ≤ q)) (F0 m 0 ls []) := by
  intro H locs ls g a0 a1 x2 x3 x4 x5 M ra0 ra1 hl q
  unfold b_X4_plant_0 at q
  refine lv_iload_n hx hb dX4_plant_0 rfl (lv_at hl 3 rfl) ?_
  refine lv_iload_n hx hb dX4_plant_1 rfl (lv_at hl 2 rfl) ?_
  refine lv_isub hx hb dX4_plant_2 ?_
  refine lv_iconst (v := 1) hx hb dX4_plant_3 (by decide) ?_
  refine lv_icmp_ne (tgt := 42) hx hb dX4_plant_4 (by decide) (fun c_1 => ?_) (fun c_1 => ?_)
  · replace q := if_f c_1 q
    refine lv_iload_n hx hb dX4_plant_42 rfl (lv_at hl 2 rfl) ?_
    refine lv_iload_n hx hb dX4_plant_43 rfl (lv_at hl 3 rfl) ?_
    refine lv_icmp_ge (tgt := 55) hx hb dX4_plant_44 (by decide) (fun c_2 => ?_) (fun c_2 => ?_)
    · replace q := if_t c_2 q
      exact w_X4_plant_55 hx hb hml hr hlk hown hX hRf hRl (N := N) hself  _ _ _ _ _ _ M ra0 (lv_sub hl [0, 5] rfl) q
    · replace q := if_f c_2 q
      refine lv_iload hx hb dX4_plant_47 (lv_at hl 4 rfl) ?_
      refine lv_sipush (v := 256) hx hb dX4_plant_49 (by decide) ?_
      refine lv_icmp_lt (tgt := 65) hx hb dX4_plant_52 (by decide) (fun c_3 => ?_) (fun c_3 => ?_)
      · replace q := if_t c_3 q
        refine lv_aload_n hx hb dX4_plant_65 rfl (lv_at hl 0 rfl) ?_
        refine lv_aload_n hx hb dX4_plant_66 rfl (lv_at hl 1 rfl) ?_
        refine lv_iload_n hx hb dX4_plant_67 rfl (lv_at hl 2 rfl) ?_
        refine lv_iload_n hx hb dX4_plant_68 rfl (lv_at hl 3 rfl) ?_
        refine lv_iload hx hb dX4_plant_69 (lv_at hl 4 rfl) ?_
        replace q := c2_s q
        obtain ⟨x_5, g_4, qc, q⟩ := q
        refine x_callV hx hb hml hl.1 hown hX M (S1 := S) (As := [.ref a1, .int x2, .int x3, .int x4]) (rest := []) okX4 ra0 rfl kw_708 kw_7 mok_X4_partingOf (c_X4_partingOf ra0 ra1 qc (Nat.le_refl 2)) kw_706 rfl rfl dX4_plant_71 (Nat.le_of_ble_eq_true rfl) ⟨by omega, by omega⟩ (Nat.zero_le _) (Nat.zero_le _) (fun H locs M hEF => ?_)
        refine lv_istore (lv' := [(6, .int x_5), (0, .ref a0), (1, .ref a1), (2, .int x2), (3, .int x3), (4, .int x4), (5, .int x5)]) hx hb dX4_plant_74 hl (by decide) rfl (fun ls hl => ?_)
        refine lv_aload_n hx hb dX4_plant_76 rfl (lv_at hl 1 rfl) ?_
        refine lv_aload_n hx hb dX4_plant_77 rfl (lv_at hl 2 rfl) ?_
        refine lv_iload_n hx hb dX4_plant_78 rfl (lv_at hl 3 rfl) ?_
        refine lv_iload hx hb dX4_plant_79 (lv_at hl 0 rfl) ?_
        refine lv_iload hx hb dX4_plant_81 (lv_at hl 5 rfl) ?_
        refine lv_iconst (v := 1) hx hb dX4_plant_83 (by decide) ?_
        refine lv_iadd hx hb dX4_plant_84 ?_
        refine lv_iload hx hb dX4_plant_85 (lv_at hl 6 rfl) ?_
        replace q := c2_s q
        obtain ⟨u_7, g_6, qc, q⟩ := q
        refine x_callS hx hb hml hl.1 hown hX M (S1 := S) (As := [.ref a0, .ref a1, .int x2, .int x_5, .int (x4 + (1 : Int32)), .int x5]) (rest := []) kw_695 mok_X4_plant (hself _ _ _ _ _ _ _ _ _ ra0 ra1 qc _ (Nat.le_refl _)) kw_694 rfl rfl dX4_plant_87 (Nat.le_of_ble_eq_true rfl) ⟨by omega, by omega⟩ (Nat.zero_le _) (Nat.zero_le _) (fun H locs M hEF => ?_)
        refine lv_aload_n hx hb dX4_plant_90 rfl (lv_at hl 1 rfl) ?_
        refine lv_aload_n hx hb dX4_plant_91 rfl (lv_at hl 2 rfl) ?_
        refine lv_iload hx hb dX4_plant_92 (lv_at hl 0 rfl) ?_
        refine lv_iload_n hx hb dX4_plant_94 rfl (lv_at hl 4 rfl) ?_
        refine lv_iload hx hb dX4_plant_95 (lv_at hl 5 rfl) ?_
        refine lv_iconst (v := 1) hx hb dX4_plant_97 (by decide) ?_
        refine lv_iadd hx hb dX4_plant_98 ?_
        refine lv_iload hx hb dX4_plant_99 (lv_at hl 6 rfl) ?_
        refine lv_iconst (v := 1) hx hb dX4_plant_101 (by decide) ?_
        refine lv_iadd hx hb dX4_plant_102 ?_
        replace q := c2_s q
        obtain ⟨u_9, g_8, qc, q⟩ := q
        refine x_callS hx hb hml hl.1 hown hX M (S1 := S) (As := [.ref a0, .ref a1, .int x_5, .int x3, .int (x4 + (1 : Int32)), .int (x5 + (1 : Int32))]) (rest := []) kw_695 mok_X4_plant (hself _ _ _ _ _ _ _ _ _ ra0 ra1 qc _ (Nat.le_refl _)) kw_694 rfl rfl dX4_plant_103 (Nat.le_of_ble_eq_true rfl) ⟨by omega, by omega⟩ (Nat.zero_le _) (Nat.zero_le _) (fun H locs M hEF => ?_)
        refine lv_aload_n hx hb dX4_plant_106 rfl (lv_at hl 1 rfl) ?_
        replace q := nn_s q
        obtain ⟨a_10, e_a_10, q⟩ := q
        refine x_getR hx hb hown hX M e_a_10 okX4 ra0 (by decide) rfl kw_97 dX4_plant_107 (fun ra_10 => ?_)
        refine lv_aload_n hx hb dX4_plant_110 rfl (lv_at hl 1 rfl) ?_
        replace q := nn_s q
        obtain ⟨a_11, e_a_11, q⟩ := q
        refine x_getR hx hb hown hX M e_a_11 okX4 ra0 (by decide) rfl kw_100 dX4_plant_111 (fun ra_11 => ?_)
        refine lv_iload hx hb dX4_plant_114 (lv_at hl 6 rfl) ?_
        refine lv_aload_n hx hb dX4_plant_116 rfl (lv_at hl 1 rfl) ?_
        replace q := nn_s q
        obtain ⟨a_12, e_a_12, q⟩ := q
        refine x_getR hx hb hown hX M e_a_12 okX4 ra0 (by decide) rfl kw_100 dX4_plant_117 (fun ra_12 => ?_)
        refine lv_iload hx hb dX4_plant_120 (lv_at hl 6 rfl) ?_
        refine lv_iconst (v := 1) hx hb dX4_plant_122 (by decide) ?_
        refine lv_iadd hx hb dX4_plant_123 ?_
        refine lv_aload_n hx hb dX4_plant_124 rfl (lv_at hl 1 rfl) ?_
        replace q := nn_s q
        obtain ⟨a_13, e_a_13, q⟩ := q
        refine x_getR hx hb hown hX M e_a_13 okX4 ra0 (by decide) rfl kw_100 dX4_plant_125 (fun ra_13 => ?_)
        refine lv_iload hx hb dX4_plant_128 (lv_at hl 6 rfl) ?_
        replace q := c2_s q
        obtain ⟨u_15, g_14, qc, q⟩ := q
        refine x_callV hx hb hml hl.1 hown hX M (S1 := S) (As := [.ref a_11, .int x5, .ref a_12, .int (x5 + (1 : Int32)), .ref a_13, .int x5]) (rest := []) okX6 ra_10 rfl kw_542 kw_543 mok_X6_join (c_X6_join ra_10 ra_11 ra_12 ra_13 qc (Nat.le_refl 3)) kw_713 rfl rfl dX4_plant_130 (Nat.le_of_ble_eq_true rfl) ⟨by omega, by omega⟩ (Nat.zero_le _) (Nat.zero_le _) (fun H locs M hEF => ?_)
        cases q
        exact x_vret hx hb hr hlk M Ext.rf dX4_plant_133
      · replace q := if_f c_3 q
        exact w_X4_plant_55 hx hb hml hr hlk hown hX hRf hRl (N := N) hself  _ _ _ _ _ _ M ra0 (lv_sub hl [0, 5] rfl) q
  · replace q := if_t c_1 q
    refine lv_aload_n hx hb dX4_plant_7 rfl (lv_at hl 0 rfl) ?_
    replace q := nn_s q
    obtain ⟨a_16, e_a_16, q⟩ := q
    refine x_getR hx hb hown hX M e_a_16 okX4 ra0 (by decide) rfl kw_99 dX4_plant_8 (fun ra_16 => ?_)
    refine lv_iload_n hx hb dX4_plant_11 rfl (lv_at hl 2 rfl) ?_
    replace q := ck_s q
    obtain ⟨hin, q⟩ := q
    refine x_iald hx hb hX M ra_16 (inb_in hin) dX4_plant_12 ?_
    refine lv_topi (fun x_17 e_x_17 => ?_)
    replace q := nm_s q e_x_17
    refine lv_istore (lv' := [(6, .int x_17), (0, .ref a0), (1, .ref a1), (2, .int x2), (3, .int x3), (4, .int x4), (5, .int x5)]) hx hb dX4_plant_13 hl (by decide) rfl (fun ls hl => ?_)
    refine lv_aload_n hx hb dX4_plant_15 rfl (lv_at hl 1 rfl) ?_
    replace q := nn_s q
    obtain ⟨a_18, e_a_18, q⟩ := q
    refine x_getR hx hb hown hX M e_a_18 okX4 ra0 (by decide) rfl kw_97 dX4_plant_16 (fun ra_18 => ?_)
    refine lv_aload_n hx hb dX4_plant_19 rfl (lv_at hl 2 rfl) ?_
    refine lv_iload hx hb dX4_plant_20 (lv_at hl 0 rfl) ?_
    replace q := c2_s q
    obtain ⟨x_20, g_19, qc, q⟩ := q
    refine x_callV hx hb hml hl.1 hown hX M (S1 := S) (As := [.int x_17]) (rest := [.ref a_18]) okX2 ra1 rfl kw_698 kw_699 mok_X2_keyOf (c_X2_keyOf ra1 qc (Nat.le_refl 1)) kw_697 rfl rfl dX4_plant_22 (Nat.le_of_ble_eq_true rfl) ⟨by omega, by omega⟩ (Nat.zero_le _) (Nat.zero_le _) (fun H locs M hEF => ?_)
    refine lv_aload_n hx hb dX4_plant_25 rfl (lv_at hl 1 rfl) ?_
    replace q := nn_s q
    obtain ⟨a_21, e_a_21, q⟩ := q
    refine x_getR hx hb hown hX M e_a_21 okX4 ra0 (by decide) rfl kw_98 dX4_plant_26 (fun ra_21 => ?_)
    refine lv_iload hx hb dX4_plant_29 (lv_at hl 0 rfl) ?_
    replace q := ck_s q
    obtain ⟨hin, q⟩ := q
    refine x_iald hx hb hX M ra_21 (inb_in hin) dX4_plant_31 ?_
    refine lv_aload_n hx hb dX4_plant_32 rfl (lv_at hl 1 rfl) ?_
    replace q := nn_s q
    obtain ⟨a_22, e_a_22, q⟩ := q
    refine x_getR hx hb hown hX M e_a_22 okX4 ra0 (by decide) rfl kw_100 dX4_plant_33 (fun ra_22 => ?_)
    refine lv_iload hx hb dX4_plant_36 (lv_at hl 6 rfl) ?_
    replace q := c2_s q
    obtain ⟨u_24, g_23, qc, q⟩ := q
    refine x_callV hx hb hml hl.1 hown hX M (S1 := S) (As := [.int x_20, .int (rdI g_19 a_21 x_17.toNatClampNeg), .ref a_22, .int x5]) (rest := []) okX6 ra_18 rfl kw_702 kw_703 mok_X6_sumOfLeaf (c_X6_sumOfLeaf ra_18 ra_22 qc (Nat.le_refl 3)) kw_701 rfl rfl dX4_plant_38 (Nat.le_of_ble_eq_true rfl) ⟨by omega, by omega⟩ (Nat.zero_le _) (Nat.zero_le _) (fun H locs M hEF => ?_)
    cases q
    exact x_vret hx hb hr hlk M Ext.rf dX4_plant_41
set_option maxRecDepth 100000 in
theorem cn_X4_plant {l : Launch} {D : va_G} {cA : Nat → ClassId} {lo tS N : Nat} {S : Hs} : ∀ (n : Nat) (g g1 : Hg) (rv : Unit) (a0 : Nat) (a1 : Nat) (x2 : Int32) (x3 : Int32) (x4 : Int32) (x5 : Int32), Rf lo S a0 4 → Rf lo S a1 2 → f_X4_plant N S n g a0 a1 x2 x3 x4 x5 = some (rv, g1) → ∀ d, n + 4 ≤ d → Ctr l yX4_plant cX4_plant 7 none D cA lo tS [.ref a0, .ref a1, .int x2, .int x3, .int x4, .int x5] S g d none S g1 True 0 0 := by
  intro n
  induction n with
  | zero =>
    intro g g1 rv a0 a1 x2 x3 x4 x5 ra0 ra1 q
    exact absurd q (by simp [f_X4_plant])
  | succ n ih =>
    intro g g1 rv a0 a1 x2 x3 x4 x5 ra0 ra1 q d hd
    refine x_met (by decide) (Nat.le_of_ble_eq_true rfl) ?_
    intro p e s m below meth c ls hx hb hml hr hlk hown hnm hX M hl
    exact w_X4_plant_0 hx hb hml hr hlk hown hX (nf := n) hd (Nat.mul_le_mul_left 60 hd) (N := N) ih _ _ _ _ _ _ _ _ _ _ M ra0 ra1 (lv_sub hl [0, 1, 2, 3, 4, 5] rfl) q
theorem c_X4_plant {l : Launch} {D : va_G} {cA : Nat → ClassId} {lo tS N : Nat} {S : Hs} {g g1 : Hg} {rv : Unit} {a0 : Nat} {a1 : Nat} {x2 : Int32} {x3 : Int32} {x4 : Int32} {x5 : Int32} (ra0 : Rf lo S a0 4) (ra1 : Rf lo S a1 2) (q : f_X4_plant N S 300 g a0 a1 x2 x3 x4 x5 = some (rv, g1)) {d : Nat} (hd : 304 ≤ d) : Ctr l yX4_plant cX4_plant 7 none D cA lo tS [.ref a0, .ref a1, .int x2, .int x3, .int x4, .int x5] S g d none S g1 True 0 0 := cn_X4_plant 300 _ _ _ _ _ _ _ _ _ ra0 ra1 q d hd
def b_X6_wayOf_0 (N : Nat) (S : Hs) (g : Hg) (a0 : Nat) (x1 : Int32) (a2 : Nat) (x3 : Int32) : Option (Unit × Hg) :=
nn (rdR g a0 0) (fun a_1 =>
ck (inb (0 : Int32) (hpL S a_1)) (
nm (wrI g a_1 (0 : Int32).toNatClampNeg (4 : Int32)) (fun g_2 =>
nn (rdR g_2 a0 0) (fun a_3 =>
ck (inb (1 : Int32) (hpL S a_3)) (
nm (wrI g_2 a_3 (1 : Int32).toNatClampNeg x1) (fun g_4 =>
c2 (f_X6_mix N S g_4 a0 (2 : Int32) a2 x3) (fun u_6 g_5 =>
some ((), g_5))))))))
def f_X6_wayOf (N : Nat) (S : Hs) (g : Hg) (a0 : Nat) (x1 : Int32) (a2 : Nat) (x3 : Int32) : Option (Unit × Hg) := b_X6_wayOf_0 N S g a0 x1 a2 x3
set_option maxHeartbeats 4000000 in
set_option maxRecDepth 100000 in
theorem w_X6_wayOf_0 (hx : p.tables.exec = Jvm.exec) (hb : c.code = cX6_wayOf) (hml : c.maxLocals = 4) (hr : meth.sig.returnType = none) (hlk : meth.locks = false) (hown : s.vm.findClass RX6 = some m.cls) (hX : Kx D cA lo tS s) (hRf : 3 ≤ R.frames) (hRl : 180 ≤ R.locals) {N : Nat} {rv : Unit} {g1 : Hg} {S : Hs} : ∀ (H : Heap) (locs : List Loc) (ls : Array Slot) (g : Hg) (a0 : Nat) (x1 : Int32) (a2 : Nat) (x3 : Int32), Mm D cA lo S g s H locs → Rf lo S a0 6 → Rf lo S a2 20 → lv_has ls 4 [(0, .ref a0), (1, .int x1), (2, .ref a2), (3, .int x3)] → b_X6_wayOf_0 N S g a0 x1 a2 x3 = some (rv, g1) → W p l e R s m args below meth c H locs 0 0 (MQ below (Qcx D cA lo S none S g1 True) args s 0 0 (fun q : Nat => lo ≤ q)) (F0 m 0 ls []) := by
  intro H locs ls g a0 x1 a2 x3 M ra0 ra2 hl q
  unfold b_X6_wayOf_0 at q
  refine lv_aload_n hx hb dX6_wayOf_0 rfl (lv_at hl 0 rfl) ?_
  replace q := nn_s q
  obtain ⟨a_1, e_a_1, q⟩ := q
  refine x_getR hx hb hown hX M e_a_1 okX6 ra0 (by decide) rfl kw_83 dX6_wayOf_1 (fun ra_1 => ?_)
  refine lv_iconst (v := 0) hx hb dX6_wayOf_4 (by decide) ?_
  refine lv_iconst (v := 4) hx hb dX6_wayOf_5 (by decide) ?_
  replace q := ck_s q
  obtain ⟨hin, q⟩ := q
  refine x_iast hx hb hX M ra_1 (inb_in hin) dX6_wayOf_6 (fun H locs M => ?_)
  replace q := gen_g M q
  obtain ⟨g_2, -, M, q⟩ := q
  refine lv_aload_n hx hb dX6_wayOf_7 rfl (lv_at hl 0 rfl) ?_
  replace q := nn_s q
  obtain ⟨a_3, e_a_3, q⟩ := q
  refine x_getR hx hb hown hX M e_a_3 okX6 ra0 (by decide) rfl kw_83 dX6_wayOf_8 (fun ra_3 => ?_)
  refine lv_iconst (v := 1) hx hb dX6_wayOf_11 (by decide) ?_
  refine lv_iload_n hx hb dX6_wayOf_12 rfl (lv_at hl 1 rfl) ?_
  replace q := ck_s q
  obtain ⟨hin, q⟩ := q
  refine x_iast hx hb hX M ra_3 (inb_in hin) dX6_wayOf_13 (fun H locs M => ?_)
  replace q := gen_g M q
  obtain ⟨g_4, -, M, q⟩ := q
  refine lv_aload_n hx hb dX6_wayOf_14 rfl (lv_at hl 0 rfl) ?_
  refine lv_iconst (v := 2) hx hb dX6_wayOf_15 (by decide) ?_
  refine lv_aload_n hx hb dX6_wayOf_16 rfl (lv_at hl 2 rfl) ?_
  refine lv_iload_n hx hb dX6_wayOf_17 rfl (lv_at hl 3 rfl) ?_
  replace q := c2_s q
  obtain ⟨u_6, g_5, qc, q⟩ := q
  refine x_callV hx hb hml hl.1 hown hX M (S1 := S) (As := [.int (2 : Int32), .ref a2, .int x3]) (rest := []) okX6 ra0 rfl kw_516 kw_0 mok_X6_mix (c_X6_mix ra0 ra2 qc (Nat.le_refl 2)) kw_514 rfl rfl dX6_wayOf_18 (Nat.le_of_ble_eq_true rfl) ⟨Nat.le_trans (by decide) hRf, Nat.le_trans (by decide) hRl⟩ (Nat.zero_le _) (Nat.zero_le _) (fun H locs M hEF => ?_)
  cases q
  exact x_vret hx hb hr hlk M Ext.rf dX6_wayOf_21
set_option maxRecDepth 100000 in
theorem c_X6_wayOf {l : Launch} {D : va_G} {cA : Nat → ClassId} {lo tS N : Nat} {S : Hs} {g g1 : Hg} {rv : Unit} {a0 : Nat} {x1 : Int32} {a2 : Nat} {x3 : Int32} (ra0 : Rf lo S a0 6) (ra2 : Rf lo S a2 20) (q : f_X6_wayOf N S g a0 x1 a2 x3 = some (rv, g1)) {d : Nat} (hd : 3 ≤ d) : Ctr l yX6_wayOf cX6_wayOf 4 none D cA lo tS [.ref a0, .int x1, .ref a2, .int x3] S g d none S g1 True 0 0 := by
  refine x_met (by decide) (Nat.le_of_ble_eq_true rfl) ?_
  intro p e s m below meth c ls hx hb hml hr hlk hown hnm hX M hl
  exact w_X6_wayOf_0 hx hb hml hr hlk hown hX hd (Nat.mul_le_mul_left 60 hd) (N := N) _ _ _ _ _ _ _ _ M ra0 ra2 (lv_sub hl [0, 1, 2, 3] rfl) q
def b_X11_copySum_0 (N : Nat) (S : Hs) (g : Hg) (a0 : Nat) (x1 : Int32) (a2 : Nat) (x3 : Int32) : Option (Unit × Hg) :=
ck (cpok (x1 * (8 : Int32)) (x3 * (8 : Int32)) (8 : Int32) (hpL S a0) (hpL S a2)) (
nm (cpI g a0 (x1 * (8 : Int32)).toNatClampNeg a2 (x3 * (8 : Int32)).toNatClampNeg (8 : Int32).toNatClampNeg) (fun g_1 =>
some ((), g_1)))
def f_X11_copySum (N : Nat) (S : Hs) (g : Hg) (a0 : Nat) (x1 : Int32) (a2 : Nat) (x3 : Int32) : Option (Unit × Hg) := b_X11_copySum_0 N S g a0 x1 a2 x3
set_option maxHeartbeats 4000000 in
set_option maxRecDepth 100000 in
theorem w_X11_copySum_0 (hx : p.tables.exec = Jvm.exec) (hb : c.code = cX11_copySum) (hml : c.maxLocals = 4) (hr : meth.sig.returnType = none) (hlk : meth.locks = false) (hown : s.vm.findClass RX11 = some m.cls) (hX : Kx D cA lo tS s) (hRf : 1 ≤ R.frames) (hRl : 60 ≤ R.locals) {N : Nat} {rv : Unit} {g1 : Hg} {S : Hs} : ∀ (H : Heap) (locs : List Loc) (ls : Array Slot) (g : Hg) (a0 : Nat) (x1 : Int32) (a2 : Nat) (x3 : Int32), Mm D cA lo S g s H locs → Rf lo S a0 20 → Rf lo S a2 20 → lv_has ls 4 [(0, .ref a0), (1, .int x1), (2, .ref a2), (3, .int x3)] → b_X11_copySum_0 N S g a0 x1 a2 x3 = some (rv, g1) → W p l e R s m args below meth c H locs 0 0 (MQ below (Qcx D cA lo S none S g1 True) args s 0 0 (fun q : Nat => lo ≤ q)) (F0 m 0 ls []) := by
  intro H locs ls g a0 x1 a2 x3 M ra0 ra2 hl q
  unfold b_X11_copySum_0 at q
  refine lv_aload_n hx hb dX11_copySum_0 rfl (lv_at hl 0 rfl) ?_
  refine lv_iload_n hx hb dX11_copySum_1 rfl (lv_at hl 1 rfl) ?_
  refine lv_bipush (v := 8) hx hb dX11_copySum_2 (by decide) ?_
  refine lv_imul hx hb dX11_copySum_4 ?_
  refine lv_aload_n hx hb dX11_copySum_5 rfl (lv_at hl 2 rfl) ?_
  refine lv_iload_n hx hb dX11_copySum_6 rfl (lv_at hl 3 rfl) ?_
  refine lv_bipush (v := 8) hx hb dX11_copySum_7 (by decide) ?_
  refine lv_imul hx hb dX11_copySum_9 ?_
  refine lv_bipush (v := 8) hx hb dX11_copySum_10 (by decide) ?_
  replace q := ck_s q
  obtain ⟨hz, q⟩ := q
  refine x_copyI hx hb hml hl.1 hown hX M (rest := []) kw_671 kw_an kw_as kw_ai ra0 ra2 hz (Nat.le_of_ble_eq_true rfl) ⟨Nat.le_trans (by omega) hRf, Nat.le_trans (by omega) hRl⟩ dX11_copySum_12 (fun H locs M => ?_)
  replace q := gen_g M q
  obtain ⟨g_1, -, M, q⟩ := q
  cases q
  exact x_vret hx hb hr hlk M Ext.rf dX11_copySum_15
set_option maxRecDepth 100000 in
theorem c_X11_copySum {l : Launch} {D : va_G} {cA : Nat → ClassId} {lo tS N : Nat} {S : Hs} {g g1 : Hg} {rv : Unit} {a0 : Nat} {x1 : Int32} {a2 : Nat} {x3 : Int32} (ra0 : Rf lo S a0 20) (ra2 : Rf lo S a2 20) (q : f_X11_copySum N S g a0 x1 a2 x3 = some (rv, g1)) {d : Nat} (hd : 1 ≤ d) : Ctr l yX11_copySum cX11_copySum 4 none D cA lo tS [.ref a0, .int x1, .ref a2, .int x3] S g d none S g1 True 0 0 := by
  refine x_met (by decide) (Nat.le_of_ble_eq_true rfl) ?_
  intro p e s m below meth c ls hx hb hml hr hlk hown hnm hX M hl
  exact w_X11_copySum_0 hx hb hml hr hlk hown hX hd (Nat.mul_le_mul_left 60 hd) (N := N) _ _ _ _ _ _ _ _ M ra0 ra2 (lv_sub hl [0, 1, 2, 3] rfl) q
def b_X7_tellStep_46 (N : Nat) (S : Hs) (g : Hg) (a0 : Nat) (a1 : Nat) (x2 : Int32) : Option (Unit × Hs × Hg × Nat × Nat) :=
nn (rdR g a0 2) (fun a_1 =>
c2 (f_X11_copySum N S g a1 x2 a_1 (rdI g a0 4)) (fun u_3 g_2 =>
nm (wrI g_2 a0 4 ((rdI g_2 a0 4) + (1 : Int32))) (fun g_4 =>
some ((), S, g_4, 0, 0))))
def b_X7_tellStep_0 (N : Nat) (S : Hs) (g : Hg) (a0 : Nat) (a1 : Nat) (x2 : Int32) : Option (Unit × Hs × Hg × Nat × Nat) :=
if (rdI g a0 4) < (256 : Int32) then (
nn (rdR g a0 2) (fun a_2 =>
if (((rdI g a0 4) + (1 : Int32)) * (8 : Int32)) ≤ (nI (hpL S a_2)) then (
b_X7_tellStep_46 N S g a0 a1 x2) else (
nn (rdR g a0 2) (fun a_4 =>
nn (rdR g a0 2) (fun a_5 =>
c5 (f_J7_copyOf_59c91 N S g a_4 ((2 : Int32) * (nI (hpL S a_5)))) (fun o_7 S_8 g_6 =>
nn o_7 (fun a_13 =>
nm (wrR g_6 a0 2 (some a_13)) (fun g_14 =>
b_X7_tellStep_46 N S_8 g_14 a0 a1 x2)))))))) else (
some ((), S, g, 0, 0))
def f_X7_tellStep (N : Nat) (S : Hs) (g : Hg) (a0 : Nat) (a1 : Nat) (x2 : Int32) : Option (Unit × Hs × Hg × Nat × Nat) := b_X7_tellStep_0 N S g a0 a1 x2
set_option maxHeartbeats 4000000 in
set_option maxRecDepth 100000 in
theorem w_X7_tellStep_46 (hx : p.tables.exec = Jvm.exec) (hb : c.code = cX7_tellStep) (hml : c.maxLocals = 3) (hr : meth.sig.returnType = none) (hlk : meth.locks = false) (hown : s.vm.findClass RX7 = some m.cls) (hX : Kx D cA lo tS s) (hRf : 3 ≤ R.frames) (hRl : 180 ≤ R.locals) {N : Nat} {rv : Unit} {g1 : Hg} {S0 S1 : Hs} {cT wT : Nat} (hRc : cT ≤ R.cells) (hRs : wT ≤ R.slots) : ∀ (H : Heap) (locs : List Loc) (ls : Array Slot) (cells slots k w : Nat) (S : Hs) (g : Hg) (a0 : Nat) (a1 : Nat) (x2 : Int32), Mm D cA lo S g s H locs → Ext lo S0 S → Rf lo S a0 7 → Rf lo S a1 20 → lv_has ls 3 [(0, .ref a0), (1, .ref a1), (2, .int x2)] → b_X7_tellStep_46 N S g a0 a1 x2 = some (rv, S1, g1, k, w) → cells + k = cT → slots + w = wT → W p l e R s m args below meth c H locs cells slots (MQ below (Qcx D cA lo S0 none S1 g1 True) args s cT wT (fun q : Nat => lo ≤ q)) (F0 m 46 ls []) := by
  intro H locs ls cells slots k w S g a0 a1 x2 M hE ra0 ra1 hl q hc hs
  unfold b_X7_tellStep_46 at q
  refine lv_aload_n hx hb dX7_tellStep_46 rfl (lv_at hl 1 rfl) ?_
  refine lv_iload_n hx hb dX7_tellStep_47 rfl (lv_at hl 2 rfl) ?_
  refine lv_aload_n hx hb dX7_tellStep_48 rfl (lv_at hl 0 rfl) ?_
  replace q := nn_s q
  obtain ⟨a_1, e_a_1, q⟩ := q
  refine x_getR hx hb hown hX M e_a_1 okX7 ra0 (by decide) rfl kw_186 dX7_tellStep_49 (fun ra_1 => ?_)
  refine lv_aload_n hx hb dX7_tellStep_52 rfl (lv_at hl 0 rfl) ?_
  refine x_getI hx hb hown hX M (k := 4) okX7 ra0 (by decide) rfl kw_192 dX7_tellStep_53 ?_
  replace q := c2_s q
  obtain ⟨u_3, g_2, qc, q⟩ := q
  refine x_callSN hx hb hml hl.1 hown hX M (S1 := S) (As := [.ref a1, .int x2, .ref a_1, .int (rdI g a0 4)]) (rest := []) kw_669 mok_X11_copySum (c_X11_copySum ra1 ra_1 qc (Nat.le_refl 1)) kw_774 rfl rfl dX7_tellStep_56 (Nat.le_of_ble_eq_true rfl) ⟨Nat.le_trans (by decide) hRf, Nat.le_trans (by decide) hRl⟩ (hz_step hc hRc) (hz_step hs hRs) (fun H locs M hEF => ?_)
  refine lv_aload_n hx hb dX7_tellStep_59 rfl (lv_at hl 0 rfl) ?_
  refine lv_dup hx hb dX7_tellStep_60 rfl ?_
  refine x_getI hx hb hown hX M (k := 4) okX7 ra0 (by decide) rfl kw_192 dX7_tellStep_61 ?_
  refine lv_iconst (v := 1) hx hb dX7_tellStep_64 (by decide) ?_
  refine lv_iadd hx hb dX7_tellStep_65 ?_
  refine x_putI hx hb hown hX M (k := 4) okX7 ra0 (by decide) rfl (Or.inl rfl) rfl rfl kw_192 dX7_tellStep_66 (fun H locs M => ?_)
  replace q := gen_g M q
  obtain ⟨g_4, -, M, q⟩ := q
  cases q
  have hc : cells = cT := hc
  have hs : slots = wT := hs
  subst hc
  subst hs
  exact x_vret hx hb hr hlk M hE dX7_tellStep_69
set_option maxHeartbeats 4000000 in
set_option maxRecDepth 100000 in
theorem w_X7_tellStep_0 (hx : p.tables.exec = Jvm.exec) (hb : c.code = cX7_tellStep) (hml : c.maxLocals = 3) (hr : meth.sig.returnType = none) (hlk : meth.locks = false) (hown : s.vm.findClass RX7 = some m.cls) (hX : Kx D cA lo tS s) (hRf : 3 ≤ R.frames) (hRl : 180 ≤ R.locals) {N : Nat} {rv : Unit} {g1 : Hg} {S0 S1 : Hs} {cT wT : Nat} (hRc : cT ≤ R.cells) (hRs : wT ≤ R.slots) : ∀ (H : Heap) (locs : List Loc) (ls : Array Slot) (cells slots k w : Nat) (S : Hs) (g : Hg) (a0 : Nat) (a1 : Nat) (x2 : Int32), Mm D cA lo S g s H locs → Ext lo S0 S → Rf lo S a0 7 → Rf lo S a1 20 → lv_has ls 3 [(0, .ref a0), (1, .ref a1), (2, .int x2)] → b_X7_tellStep_0 N S g a0 a1 x2 = some (rv, S1, g1, k, w) → cells + k = cT → slots + w = wT → W p l e R s m args below meth c H locs cells slots (MQ below (Qcx D cA lo S0 none S1 g1 True) args s cT wT (fun q : Nat => lo ≤ q)) (F0 m 0 ls []) := by
  intro H locs ls cells slots k w S g a0 a1 x2 M hE ra0 ra1 hl q hc hs
  unfold b_X7_tellStep_0 at q
  refine lv_aload_n hx hb dX7_tellStep_0 rfl (lv_at hl 0 rfl) ?_
  refine x_getI hx hb hown hX M (k := 4) okX7 ra0 (by decide) rfl kw_192 dX7_tellStep_1 ?_
  refine lv_sipush (v := 256) hx hb dX7_tellStep_4 (by decide) ?_
  refine lv_icmp_lt (tgt := 11) hx hb dX7_tellStep_7 (by decide) (fun c_1 => ?_) (fun c_1 => ?_)
  · replace q := if_t c_1 q
    refine lv_aload_n hx hb dX7_tellStep_11 rfl (lv_at hl 0 rfl) ?_
    refine x_getI hx hb hown hX M (k := 4) okX7 ra0 (by decide) rfl kw_192 dX7_tellStep_12 ?_
    refine lv_iconst (v := 1) hx hb dX7_tellStep_15 (by decide) ?_
    refine lv_iadd hx hb dX7_tellStep_16 ?_
    refine lv_bipush (v := 8) hx hb dX7_tellStep_17 (by decide) ?_
    refine lv_imul hx hb dX7_tellStep_19 ?_
    refine lv_aload_n hx hb dX7_tellStep_20 rfl (lv_at hl 0 rfl) ?_
    replace q := nn_s q
    obtain ⟨a_2, e_a_2, q⟩ := q
    refine x_getR hx hb hown hX M e_a_2 okX7 ra0 (by decide) rfl kw_186 dX7_tellStep_21 (fun ra_2 => ?_)
    refine x_alen20 hx hb hX M ra_2 dX7_tellStep_24 ?_
    refine lv_icmp_le (tgt := 46) hx hb dX7_tellStep_25 (by decide) (fun c_3 => ?_) (fun c_3 => ?_)
    · replace q := if_t c_3 q
      exact w_X7_tellStep_46 hx hb hml hr hlk hown hX hRf hRl (N := N) hRc hRs  _ _ _ _ _ _ _ _ _ _ _ _ M hE ra0 ra1 (lv_sub hl [0, 1, 2] rfl) q hc hs
    · replace q := if_f c_3 q
      refine lv_aload_n hx hb dX7_tellStep_28 rfl (lv_at hl 0 rfl) ?_
      refine lv_aload_n hx hb dX7_tellStep_29 rfl (lv_at hl 0 rfl) ?_
      replace q := nn_s q
      obtain ⟨a_4, e_a_4, q⟩ := q
      refine x_getR hx hb hown hX M e_a_4 okX7 ra0 (by decide) rfl kw_186 dX7_tellStep_30 (fun ra_4 => ?_)
      refine lv_iconst (v := 2) hx hb dX7_tellStep_33 (by decide) ?_
      refine lv_aload_n hx hb dX7_tellStep_34 rfl (lv_at hl 0 rfl) ?_
      replace q := nn_s q
      obtain ⟨a_5, e_a_5, q⟩ := q
      refine x_getR hx hb hown hX M e_a_5 okX7 ra0 (by decide) rfl kw_186 dX7_tellStep_35 (fun ra_5 => ?_)
      refine x_alen20 hx hb hX M ra_5 dX7_tellStep_38 ?_
      refine lv_imul hx hb dX7_tellStep_39 ?_
      replace q := c5_s q
      obtain ⟨o_7, S_8, g_6, k_9, w_10, k_11, w_12, qc, ek, ew, q⟩ := q
      replace q := nn_s q
      obtain ⟨a_13, e_a_13, q⟩ := q
      subst e_a_13
      refine x_callS hx hb hml hl.1 hown hX M (As := [.ref a_4, .int ((2 : Int32) * (nI (hpL S a_5)))]) (rest := [.ref a0]) kw_761 mok_J7_copyOf_59c91 (c_J7_copyOf_59c91 ra_4 qc (Nat.le_refl 2)) kw_760 rfl rfl dX7_tellStep_40 (Nat.le_of_ble_eq_true rfl) ⟨Nat.le_trans (by decide) hRf, Nat.le_trans (by decide) hRl⟩ (hb_step hc ek hRc) (hb_step hs ew hRs) (fun H locs M hEF => ?_)
      have ra_13 := hEF.2 a_13 rfl
      replace ra0 := ra0.ext hEF.1
      replace ra1 := ra1.ext hEF.1
      replace hE := hE.tr hEF.1
      replace hc := hc_step hc ek
      replace hs := hc_step hs ew
      clear ek ew
      refine x_putR hx hb hown hX M (k := 2) (K1 := 20) okX7 ra0 (by decide) rfl ra_13 (Or.inl rfl) rfl rfl kw_186 dX7_tellStep_43 (fun H locs M => ?_)
      replace q := gen_g M q
      obtain ⟨g_14, -, M, q⟩ := q
      exact w_X7_tellStep_46 hx hb hml hr hlk hown hX hRf hRl (N := N) hRc hRs  _ _ _ _ _ _ _ _ _ _ _ _ M hE ra0 ra1 (lv_sub hl [0, 1, 2] rfl) q hc hs
  · replace q := if_f c_1 q
    cases q
    have hc : cells = cT := hc
    have hs : slots = wT := hs
    subst hc
    subst hs
    exact x_vret hx hb hr hlk M hE dX7_tellStep_10
set_option maxRecDepth 100000 in
theorem c_X7_tellStep {l : Launch} {D : va_G} {cA : Nat → ClassId} {lo tS N : Nat} {S S1 : Hs} {g g1 : Hg} {k w : Nat} {rv : Unit} {a0 : Nat} {a1 : Nat} {x2 : Int32} (ra0 : Rf lo S a0 7) (ra1 : Rf lo S a1 20) (q : f_X7_tellStep N S g a0 a1 x2 = some (rv, S1, g1, k, w)) {d : Nat} (hd : 3 ≤ d) : Ctr l yX7_tellStep cX7_tellStep 3 none D cA lo tS [.ref a0, .ref a1, .int x2] S g d none S1 g1 True k w := by
  refine x_met (by decide) (Nat.le_of_ble_eq_true rfl) ?_
  intro p e s m below meth c ls hx hb hml hr hlk hown hnm hX M hl
  exact w_X7_tellStep_0 hx hb hml hr hlk hown hX hd (Nat.mul_le_mul_left 60 hd) (N := N) (Nat.le_refl k) (Nat.le_refl w) _ _ _ _ _ _ _ _ _ _ _ _ M Ext.rf ra0 ra1 (lv_sub hl [0, 1, 2] rfl) q (Nat.zero_add k) (Nat.zero_add w)
end W1
