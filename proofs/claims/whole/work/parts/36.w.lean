section W16
variable {p : Program} {l : Launch} {e : Env} {R : Room} {s : State} {m : MethodId} {args : Array Value} {below : List Frame} {meth : Method} {c : Code} {D : va_G} {cA : Nat → ClassId} {lo tS : Nat}
def b_X12_forge_64 (N : Nat) (S : Hs) (g : Hg) (a0 : Nat) (x1 : Int32) (x2 : Int32) (x3 : Int32) (y4 : Int64) (sx0 : Int32) : Option (Int32 × Hg) :=
if x2 < 0 then (
some ((0 : Int32), g)) else (
if x2 < sx0 then (
nn (rdR g a0 10) (fun a_3 =>
ck (inb (((40 : Int32) * x1) + x2) (hpL S a_3)) (
nm (wrI g a_3 (((40 : Int32) * x1) + x2).toNatClampNeg x3) (fun g_4 =>
nn (rdR g_4 a0 11) (fun a_5 =>
ck (inb (((40 : Int32) * x1) + x2) (hpL S a_5)) (
nm (wrL g_4 a_5 (((40 : Int32) * x1) + x2).toNatClampNeg y4) (fun g_6 =>
some ((1 : Int32), g_6)))))))) else (
some ((0 : Int32), g)))
def b_X12_forge_0 (N : Nat) (S : Hs) (g : Hg) (a0 : Nat) (x1 : Int32) (x2 : Int32) (x3 : Int32) (y4 : Int64) : Option (Int32 × Hg) :=
c2 (f_X12_isSlot N S g a0 x1) (fun x_2 g_1 =>
if x_2 = 0 then (
some ((0 : Int32), g_1)) else (
nn (rdR g_1 a0 9) (fun a_4 =>
ck (inb ((8 : Int32) * x1) (hpL S a_4)) (
nm (rdI g_1 a_4 ((8 : Int32) * x1).toNatClampNeg) (fun x_5 =>
if x_5 = (1 : Int32) then (
b_X12_forge_64 N S g_1 a0 x1 x2 x3 y4 (1 : Int32)) else (
if x_5 = (5 : Int32) then (
nn (rdR g_1 a0 9) (fun a_8 =>
ck (inb (((8 : Int32) * x1) + (4 : Int32)) (hpL S a_8)) (
nn (rdR g_1 a0 9) (fun a_9 =>
ck (inb (((8 : Int32) * x1) + (3 : Int32)) (hpL S a_9)) (
b_X12_forge_64 N S g_1 a0 x1 x2 x3 y4 ((rdI g_1 a_8 (((8 : Int32) * x1) + (4 : Int32)).toNatClampNeg) - (rdI g_1 a_9 (((8 : Int32) * x1) + (3 : Int32)).toNatClampNeg))))))) else (
b_X12_forge_64 N S g_1 a0 x1 x2 x3 y4 (0 : Int32))))))))
def f_X12_forge (N : Nat) (S : Hs) (g : Hg) (a0 : Nat) (x1 : Int32) (x2 : Int32) (x3 : Int32) (y4 : Int64) : Option (Int32 × Hg) := b_X12_forge_0 N S g a0 x1 x2 x3 y4
set_option maxHeartbeats 4000000 in
set_option maxRecDepth 100000 in
theorem w_X12_forge_64 (hx : p.tables.exec = Jvm.exec) (hb : c.code = cX12_forge) (hml : c.maxLocals = 8) (hr : meth.sig.returnType = (some .boolean)) (hlk : meth.locks = false) (hown : s.vm.findClass RX12 = some m.cls) (hX : Kx D cA lo tS s) (hRf : 2 ≤ R.frames) (hRl : 120 ≤ R.locals) {N : Nat} {rv : Int32} {g1 : Hg} {S : Hs} : ∀ (H : Heap) (locs : List Loc) (ls : Array Slot) (g : Hg) (a0 : Nat) (x1 : Int32) (x2 : Int32) (x3 : Int32) (y4 : Int64) (sx0 : Int32), Mm D cA lo S g s H locs → Rf lo S a0 12 → lv_has ls 8 [(0, .ref a0), (1, .int x1), (2, .int x2), (3, .int x3), (4, .long y4)] → b_X12_forge_64 N S g a0 x1 x2 x3 y4 sx0 = some (rv, g1) → W p l e R s m args below meth c H locs 0 0 (MQ below (Qcx D cA lo S (some (.int rv)) S g1 True) args s 0 0 (fun q : Nat => lo ≤ q)) (F0 m 64 ls [.int sx0]) := by
  intro H locs ls g a0 x1 x2 x3 y4 sx0 M ra0 hl q
  unfold b_X12_forge_64 at q
  refine lv_istore (lv' := [(7, .int sx0), (0, .ref a0), (1, .int x1), (2, .int x2), (3, .int x3), (4, .long y4)]) hx hb dX12_forge_64 hl (by decide) rfl (fun ls hl => ?_)
  refine lv_iload_n hx hb dX12_forge_66 rfl (lv_at hl 3 rfl) ?_
  refine lv_if_lt (tgt := 76) hx hb dX12_forge_67 (by decide) (fun c_1 => ?_) (fun c_1 => ?_)
  · replace q := if_t c_1 q
    refine lv_iconst (v := 0) hx hb dX12_forge_76 (by decide) ?_
    cases q
    exact x_zret hx hb hr hlk rfl M Ext.rf dX12_forge_77
  · replace q := if_f c_1 q
    refine lv_iload_n hx hb dX12_forge_70 rfl (lv_at hl 3 rfl) ?_
    refine lv_iload hx hb dX12_forge_71 (lv_at hl 0 rfl) ?_
    refine lv_icmp_lt (tgt := 78) hx hb dX12_forge_73 (by decide) (fun c_2 => ?_) (fun c_2 => ?_)
    · replace q := if_t c_2 q
      refine lv_aload_n hx hb dX12_forge_78 rfl (lv_at hl 1 rfl) ?_
      replace q := nn_s q
      obtain ⟨a_3, e_a_3, q⟩ := q
      refine x_getR hx hb hown hX M e_a_3 okX12 ra0 (by decide) rfl kw_1022 dX12_forge_79 (fun ra_3 => ?_)
      refine lv_bipush (v := 40) hx hb dX12_forge_82 (by decide) ?_
      refine lv_iload_n hx hb dX12_forge_84 rfl (lv_at hl 2 rfl) ?_
      refine lv_imul hx hb dX12_forge_85 ?_
      refine lv_iload_n hx hb dX12_forge_86 rfl (lv_at hl 3 rfl) ?_
      refine lv_iadd hx hb dX12_forge_87 ?_
      refine lv_iload_n hx hb dX12_forge_88 rfl (lv_at hl 4 rfl) ?_
      replace q := ck_s q
      obtain ⟨hin, q⟩ := q
      refine x_iast hx hb hX M ra_3 (inb_in hin) dX12_forge_89 (fun H locs M => ?_)
      replace q := gen_g M q
      obtain ⟨g_4, -, M, q⟩ := q
      refine lv_aload_n hx hb dX12_forge_90 rfl (lv_at hl 1 rfl) ?_
      replace q := nn_s q
      obtain ⟨a_5, e_a_5, q⟩ := q
      refine x_getR hx hb hown hX M e_a_5 okX12 ra0 (by decide) rfl kw_1023 dX12_forge_91 (fun ra_5 => ?_)
      refine lv_bipush (v := 40) hx hb dX12_forge_94 (by decide) ?_
      refine lv_iload_n hx hb dX12_forge_96 rfl (lv_at hl 2 rfl) ?_
      refine lv_imul hx hb dX12_forge_97 ?_
      refine lv_iload_n hx hb dX12_forge_98 rfl (lv_at hl 3 rfl) ?_
      refine lv_iadd hx hb dX12_forge_99 ?_
      refine lv_lload hx hb dX12_forge_100 (lv_at hl 5 rfl) ?_
      replace q := ck_s q
      obtain ⟨hin, q⟩ := q
      refine x_last hx hb hX M ra_5 (inb_in hin) dX12_forge_102 (fun H locs M => ?_)
      replace q := gen_g M q
      obtain ⟨g_6, -, M, q⟩ := q
      refine lv_iconst (v := 1) hx hb dX12_forge_103 (by decide) ?_
      cases q
      exact x_zret hx hb hr hlk rfl M Ext.rf dX12_forge_104
    · replace q := if_f c_2 q
      refine lv_iconst (v := 0) hx hb dX12_forge_76 (by decide) ?_
      cases q
      exact x_zret hx hb hr hlk rfl M Ext.rf dX12_forge_77
set_option maxHeartbeats 4000000 in
set_option maxRecDepth 100000 in
theorem w_X12_forge_0 (hx : p.tables.exec = Jvm.exec) (hb : c.code = cX12_forge) (hml : c.maxLocals = 8) (hr : meth.sig.returnType = (some .boolean)) (hlk : meth.locks = false) (hown : s.vm.findClass RX12 = some m.cls) (hX : Kx D cA lo tS s) (hRf : 2 ≤ R.frames) (hRl : 120 ≤ R.locals) {N : Nat} {rv : Int32} {g1 : Hg} {S : Hs} : ∀ (H : Heap) (locs : List Loc) (ls : Array Slot) (g : Hg) (a0 : Nat) (x1 : Int32) (x2 : Int32) (x3 : Int32) (y4 : Int64), Mm D cA lo S g s H locs → Rf lo S a0 12 → lv_has ls 8 [(0, .ref a0), (1, .int x1), (2, .int x2), (3, .int x3), (4, .long y4)] → b_X12_forge_0 N S g a0 x1 x2 x3 y4 = some (rv, g1) → W p l e R s m args below meth c H locs 0 0 (MQ below (Qcx D cA lo S (some (.int rv)) S g1 True) args s 0 0 (fun q : Nat => lo ≤ q)) (F0 m 0 ls []) := by
  intro H locs ls g a0 x1 x2 x3 y4 M ra0 hl q
  unfold b_X12_forge_0 at q
  refine lv_aload_n hx hb dX12_forge_0 rfl (lv_at hl 0 rfl) ?_
  refine lv_iload_n hx hb dX12_forge_1 rfl (lv_at hl 1 rfl) ?_
  replace q := c2_s q
  obtain ⟨x_2, g_1, qc, q⟩ := q
  refine x_callV hx hb hml hl.1 hown hX M (S1 := S) (As := [.int x1]) (rest := []) okX12 ra0 rfl kw_1357 kw_37 mok_X12_isSlot (c_X12_isSlot ra0 qc (Nat.le_refl 1)) kw_1355 rfl rfl dX12_forge_2 (Nat.le_of_ble_eq_true rfl) ⟨Nat.le_trans (by decide) hRf, Nat.le_trans (by decide) hRl⟩ (Nat.zero_le _) (Nat.zero_le _) (fun H locs M hEF => ?_)
  refine lv_if_ne (tgt := 10) hx hb dX12_forge_5 (by decide) (fun c_3 => ?_) (fun c_3 => ?_)
  · replace q := if_f c_3 q
    refine lv_aload_n hx hb dX12_forge_10 rfl (lv_at hl 0 rfl) ?_
    replace q := nn_s q
    obtain ⟨a_4, e_a_4, q⟩ := q
    refine x_getR hx hb hown hX M e_a_4 okX12 ra0 (by decide) rfl kw_1021 dX12_forge_11 (fun ra_4 => ?_)
    refine lv_bipush (v := 8) hx hb dX12_forge_14 (by decide) ?_
    refine lv_iload_n hx hb dX12_forge_16 rfl (lv_at hl 1 rfl) ?_
    refine lv_imul hx hb dX12_forge_17 ?_
    replace q := ck_s q
    obtain ⟨hin, q⟩ := q
    refine x_iald hx hb hX M ra_4 (inb_in hin) dX12_forge_18 ?_
    refine lv_topi (fun x_5 e_x_5 => ?_)
    replace q := nm_s q e_x_5
    refine lv_istore (lv' := [(6, .int x_5), (0, .ref a0), (1, .int x1), (2, .int x2), (3, .int x3), (4, .long y4)]) hx hb dX12_forge_19 hl (by decide) rfl (fun ls hl => ?_)
    refine lv_iload hx hb dX12_forge_21 (lv_at hl 0 rfl) ?_
    refine lv_iconst (v := 1) hx hb dX12_forge_23 (by decide) ?_
    refine lv_icmp_ne (tgt := 31) hx hb dX12_forge_24 (by decide) (fun c_6 => ?_) (fun c_6 => ?_)
    · replace q := if_f c_6 q
      refine lv_iload hx hb dX12_forge_31 (lv_at hl 0 rfl) ?_
      refine lv_iconst (v := 5) hx hb dX12_forge_33 (by decide) ?_
      refine lv_icmp_ne (tgt := 63) hx hb dX12_forge_34 (by decide) (fun c_7 => ?_) (fun c_7 => ?_)
      · replace q := if_f c_7 q
        refine lv_iconst (v := 0) hx hb dX12_forge_63 (by decide) ?_
        exact w_X12_forge_64 hx hb hml hr hlk hown hX hRf hRl (N := N)  _ _ _ _ _ _ _ _ _ _ M ra0 (lv_sub hl [1, 2, 3, 4, 5] rfl) q
      · replace q := if_t c_7 q
        refine lv_aload_n hx hb dX12_forge_37 rfl (lv_at hl 1 rfl) ?_
        replace q := nn_s q
        obtain ⟨a_8, e_a_8, q⟩ := q
        refine x_getR hx hb hown hX M e_a_8 okX12 ra0 (by decide) rfl kw_1021 dX12_forge_38 (fun ra_8 => ?_)
        refine lv_bipush (v := 8) hx hb dX12_forge_41 (by decide) ?_
        refine lv_iload_n hx hb dX12_forge_43 rfl (lv_at hl 2 rfl) ?_
        refine lv_imul hx hb dX12_forge_44 ?_
        refine lv_iconst (v := 4) hx hb dX12_forge_45 (by decide) ?_
        refine lv_iadd hx hb dX12_forge_46 ?_
        replace q := ck_s q
        obtain ⟨hin, q⟩ := q
        refine x_iald hx hb hX M ra_8 (inb_in hin) dX12_forge_47 ?_
        refine lv_aload_n hx hb dX12_forge_48 rfl (lv_at hl 1 rfl) ?_
        replace q := nn_s q
        obtain ⟨a_9, e_a_9, q⟩ := q
        refine x_getR hx hb hown hX M e_a_9 okX12 ra0 (by decide) rfl kw_1021 dX12_forge_49 (fun ra_9 => ?_)
        refine lv_bipush (v := 8) hx hb dX12_forge_52 (by decide) ?_
        refine lv_iload_n hx hb dX12_forge_54 rfl (lv_at hl 2 rfl) ?_
        refine lv_imul hx hb dX12_forge_55 ?_
        refine lv_iconst (v := 3) hx hb dX12_forge_56 (by decide) ?_
        refine lv_iadd hx hb dX12_forge_57 ?_
        replace q := ck_s q
        obtain ⟨hin, q⟩ := q
        refine x_iald hx hb hX M ra_9 (inb_in hin) dX12_forge_58 ?_
        refine lv_isub hx hb dX12_forge_59 ?_
        refine lv_goto (tgt := 64) hx hb dX12_forge_60 (by decide) ?_
        exact w_X12_forge_64 hx hb hml hr hlk hown hX hRf hRl (N := N)  _ _ _ _ _ _ _ _ _ _ M ra0 (lv_sub hl [1, 2, 3, 4, 5] rfl) q
    · replace q := if_t c_6 q
      refine lv_iconst (v := 1) hx hb dX12_forge_27 (by decide) ?_
      refine lv_goto (tgt := 64) hx hb dX12_forge_28 (by decide) ?_
      exact w_X12_forge_64 hx hb hml hr hlk hown hX hRf hRl (N := N)  _ _ _ _ _ _ _ _ _ _ M ra0 (lv_sub hl [1, 2, 3, 4, 5] rfl) q
  · replace q := if_t c_3 q
    refine lv_iconst (v := 0) hx hb dX12_forge_8 (by decide) ?_
    cases q
    exact x_zret hx hb hr hlk rfl M Ext.rf dX12_forge_9
set_option maxRecDepth 100000 in
theorem c_X12_forge {l : Launch} {D : va_G} {cA : Nat → ClassId} {lo tS N : Nat} {S : Hs} {g g1 : Hg} {rv : Int32} {a0 : Nat} {x1 : Int32} {x2 : Int32} {x3 : Int32} {y4 : Int64} (ra0 : Rf lo S a0 12) (q : f_X12_forge N S g a0 x1 x2 x3 y4 = some (rv, g1)) {d : Nat} (hd : 2 ≤ d) : Ctr l yX12_forge cX12_forge 8 (some .boolean) D cA lo tS [.ref a0, .int x1, .int x2, .int x3, .long y4] S g d (some (.int rv)) S g1 True 0 0 := by
  refine x_met (by decide) (Nat.le_of_ble_eq_true rfl) ?_
  intro p e s m below meth c ls hx hb hml hr hlk hown hnm hX M hl
  exact w_X12_forge_0 hx hb hml hr hlk hown hX hd (Nat.mul_le_mul_left 60 hd) (N := N) _ _ _ _ _ _ _ _ _ M ra0 (lv_sub hl [0, 1, 2, 3, 4] rfl) q
def b_X12_fork_203 (N : Nat) (S : Hs) (k203 : Hg → Nat → Int32 → Int32 → Int32 → Int32 → Int32 → Int32 → Int32 → Option (Int32 × Hg)) (g : Hg) (a0 : Nat) (x1 : Int32) (x2 : Int32) (x3 : Int32) (x4 : Int32) (x5 : Int32) (x6 : Int32) (x7 : Int32) : Option (Int32 × Hg) :=
if x4 ≤ x7 then (
nn (rdR g a0 0) (fun a_2 =>
ck (inb (((4 : Int32) * x3) + (2 : Int32)) (hpL S a_2)) (
nm (wrI g a_2 (((4 : Int32) * x3) + (2 : Int32)).toNatClampNeg x5) (fun g_3 =>
nn (rdR g_3 a0 0) (fun a_4 =>
ck (inb (((4 : Int32) * x3) + (3 : Int32)) (hpL S a_4)) (
nm (wrI g_3 a_4 (((4 : Int32) * x3) + (3 : Int32)).toNatClampNeg (x6 - x5)) (fun g_5 =>
nm (wrI g_5 a0 1 ((rdI g_5 a0 1) + (1 : Int32))) (fun g_6 =>
some (x3, g_6))))))))) else (
nm (((100 : Int32) * x1) + x7) (fun x_7 =>
nn (rdR g a0 7) (fun a_8 =>
ck (inb x_7 (hpL S a_8)) (
if (rdI g a_8 x_7.toNatClampNeg) ≤ x2 then (
nn (rdR g a0 6) (fun a_10 =>
nn (rdR g a0 6) (fun a_11 =>
ck (inb x_7 (hpL S a_11)) (
ck (inb (((100 : Int32) * x3) + x6) (hpL S a_10)) (
nm (wrI g a_10 (((100 : Int32) * x3) + x6).toNatClampNeg (rdI g a_11 x_7.toNatClampNeg)) (fun g_12 =>
nn (rdR g_12 a0 7) (fun a_13 =>
nn (rdR g_12 a0 7) (fun a_14 =>
ck (inb x_7 (hpL S a_14)) (
ck (inb (((100 : Int32) * x3) + x6) (hpL S a_13)) (
nm (wrI g_12 a_13 (((100 : Int32) * x3) + x6).toNatClampNeg (rdI g_12 a_14 x_7.toNatClampNeg)) (fun g_15 =>
nn (rdR g_15 a0 8) (fun a_16 =>
nn (rdR g_15 a0 8) (fun a_17 =>
ck (inb x_7 (hpL S a_17)) (
ck (inb (((100 : Int32) * x3) + x6) (hpL S a_16)) (
ck (zb (rdI g_15 a_17 x_7.toNatClampNeg)) (
nm (wrI g_15 a_16 (((100 : Int32) * x3) + x6).toNatClampNeg (rdI g_15 a_17 x_7.toNatClampNeg)) (fun g_18 =>
nn (rdR g_18 a0 8) (fun a_19 =>
ck (inb x_7 (hpL S a_19)) (
if (rdI g_18 a_19 x_7.toNatClampNeg) = 0 then (
nm (x5 + (0 : Int32)) (fun x_21 =>
nm (x6 + 1) (fun x_22 =>
nm (x7 + 1) (fun x_23 =>
k203 g_18 a0 x1 x2 x3 x4 x_21 x_22 x_23)))) else (
nm (x5 + (1 : Int32)) (fun x_24 =>
nm (x6 + 1) (fun x_25 =>
nm (x7 + 1) (fun x_26 =>
k203 g_18 a0 x1 x2 x3 x4 x_24 x_25 x_26))))))))))))))))))))))) else (
nm (x7 + 1) (fun x_27 =>
k203 g a0 x1 x2 x3 x4 x5 x6 x_27))))))
def n_X12_fork_203 (N : Nat) (S : Hs) : Nat → Hg → Nat → Int32 → Int32 → Int32 → Int32 → Int32 → Int32 → Int32 → Option (Int32 × Hg)
  | 0 => fun _ _ _ _ _ _ _ _ _ => none
  | n + 1 => fun g a0 x1 x2 x3 x4 x5 x6 x7 => b_X12_fork_203 N S (n_X12_fork_203 N S n) g a0 x1 x2 x3 x4 x5 x6 x7
def b_X12_fork_55 (N : Nat) (S : Hs) (k55 : Hg → Nat → Int32 → Int32 → Int32 → Int32 → Option (Int32 × Hg)) (g : Hg) (a0 : Nat) (x1 : Int32) (x2 : Int32) (x3 : Int32) (x4 : Int32) : Option (Int32 × Hg) :=
if x2 ≤ x4 then (
nn (rdR g a0 0) (fun a_2 =>
ck (inb (((4 : Int32) * x1) + (2 : Int32)) (hpL S a_2)) (
nn (rdR g a0 0) (fun a_3 =>
ck (inb (((4 : Int32) * x1) + (3 : Int32)) (hpL S a_3)) (
nm ((rdI g a_2 (((4 : Int32) * x1) + (2 : Int32)).toNatClampNeg) + (rdI g a_3 (((4 : Int32) * x1) + (3 : Int32)).toNatClampNeg)) (fun x_4 =>
n_X12_fork_203 N S N g a0 x1 x2 x3 x_4 (0 : Int32) (0 : Int32) (0 : Int32))))))) else (
nn (rdR g a0 2) (fun a_5 =>
nn (rdR g a0 2) (fun a_6 =>
ck (inb (((400 : Int32) * x1) + x4) (hpL S a_6)) (
ck (inb (((400 : Int32) * x3) + x4) (hpL S a_5)) (
nm (wrI g a_5 (((400 : Int32) * x3) + x4).toNatClampNeg (rdI g a_6 (((400 : Int32) * x1) + x4).toNatClampNeg)) (fun g_7 =>
nn (rdR g_7 a0 3) (fun a_8 =>
nn (rdR g_7 a0 3) (fun a_9 =>
ck (inb (((400 : Int32) * x1) + x4) (hpL S a_9)) (
ck (inb (((400 : Int32) * x3) + x4) (hpL S a_8)) (
nm (wrL g_7 a_8 (((400 : Int32) * x3) + x4).toNatClampNeg (rdL g_7 a_9 (((400 : Int32) * x1) + x4).toNatClampNeg)) (fun g_10 =>
nn (rdR g_10 a0 4) (fun a_11 =>
nn (rdR g_10 a0 4) (fun a_12 =>
ck (inb (((400 : Int32) * x1) + x4) (hpL S a_12)) (
ck (inb (((400 : Int32) * x3) + x4) (hpL S a_11)) (
ck (zb (rdI g_10 a_12 (((400 : Int32) * x1) + x4).toNatClampNeg)) (
nm (wrI g_10 a_11 (((400 : Int32) * x3) + x4).toNatClampNeg (rdI g_10 a_12 (((400 : Int32) * x1) + x4).toNatClampNeg)) (fun g_13 =>
nn (rdR g_13 a0 5) (fun a_14 =>
nn (rdR g_13 a0 5) (fun a_15 =>
ck (inb (((400 : Int32) * x1) + x4) (hpL S a_15)) (
ck (inb (((400 : Int32) * x3) + x4) (hpL S a_14)) (
ck (zb (rdI g_13 a_15 (((400 : Int32) * x1) + x4).toNatClampNeg)) (
nm (wrI g_13 a_14 (((400 : Int32) * x3) + x4).toNatClampNeg (rdI g_13 a_15 (((400 : Int32) * x1) + x4).toNatClampNeg)) (fun g_16 =>
nm (x4 + 1) (fun x_17 =>
k55 g_16 a0 x1 x2 x3 x_17))))))))))))))))))))))))
def n_X12_fork_55 (N : Nat) (S : Hs) : Nat → Hg → Nat → Int32 → Int32 → Int32 → Int32 → Option (Int32 × Hg)
  | 0 => fun _ _ _ _ _ _ => none
  | n + 1 => fun g a0 x1 x2 x3 x4 => b_X12_fork_55 N S (n_X12_fork_55 N S n) g a0 x1 x2 x3 x4
def b_X12_fork_0 (N : Nat) (S : Hs) (g : Hg) (a0 : Nat) (x1 : Int32) (x2 : Int32) : Option (Int32 × Hg) :=
c2 (f_X12_isCount N S g a0 x1 x2) (fun x_2 g_1 =>
if x_2 = 0 then (
some ((-1 : Int32), g_1)) else (
if (rdI g_1 a0 1) = (6 : Int32) then (
some ((-1 : Int32), g_1)) else (
nm (rdI g_1 a0 1) (fun x_5 =>
nn (rdR g_1 a0 0) (fun a_6 =>
nn (rdR g_1 a0 0) (fun a_7 =>
ck (inb ((4 : Int32) * x1) (hpL S a_7)) (
ck (inb ((4 : Int32) * x_5) (hpL S a_6)) (
nm (wrI g_1 a_6 ((4 : Int32) * x_5).toNatClampNeg (rdI g_1 a_7 ((4 : Int32) * x1).toNatClampNeg)) (fun g_8 =>
nn (rdR g_8 a0 0) (fun a_9 =>
ck (inb (((4 : Int32) * x_5) + (1 : Int32)) (hpL S a_9)) (
nm (wrI g_8 a_9 (((4 : Int32) * x_5) + (1 : Int32)).toNatClampNeg x2) (fun g_10 =>
n_X12_fork_55 N S N g_10 a0 x1 x2 x_5 (0 : Int32)))))))))))))
def f_X12_fork (N : Nat) (S : Hs) (g : Hg) (a0 : Nat) (x1 : Int32) (x2 : Int32) : Option (Int32 × Hg) := b_X12_fork_0 N S g a0 x1 x2
set_option maxHeartbeats 4000000 in
set_option maxRecDepth 100000 in
theorem w_X12_fork_203 (hx : p.tables.exec = Jvm.exec) (hb : c.code = cX12_fork) (hml : c.maxLocals = 9) (hr : meth.sig.returnType = (some .int)) (hlk : meth.locks = false) (hown : s.vm.findClass RX12 = some m.cls) (hX : Kx D cA lo tS s) (hRf : 3 ≤ R.frames) (hRl : 180 ≤ R.locals) {N : Nat} {rv : Int32} {g1 : Hg} {S : Hs} {k203 : Hg → Nat → Int32 → Int32 → Int32 → Int32 → Int32 → Int32 → Int32 → Option (Int32 × Hg)} (hk203 : ∀ (H : Heap) (locs : List Loc) (ls : Array Slot) (g : Hg) (a0 : Nat) (x1 : Int32) (x2 : Int32) (x3 : Int32) (x4 : Int32) (x5 : Int32) (x6 : Int32) (x7 : Int32), Mm D cA lo S g s H locs → Rf lo S a0 12 → lv_has ls 9 [(0, .ref a0), (1, .int x1), (2, .int x2), (3, .int x3), (4, .int x4), (5, .int x5), (6, .int x6), (7, .int x7)] → k203 g a0 x1 x2 x3 x4 x5 x6 x7 = some (rv, g1) → W p l e R s m args below meth c H locs 0 0 (MQ below (Qcx D cA lo S (some (.int rv)) S g1 True) args s 0 0 (fun q : Nat => lo ≤ q)) (F0 m 203 ls [])) : ∀ (H : Heap) (locs : List Loc) (ls : Array Slot) (g : Hg) (a0 : Nat) (x1 : Int32) (x2 : Int32) (x3 : Int32) (x4 : Int32) (x5 : Int32) (x6 : Int32) (x7 : Int32), Mm D cA lo S g s H locs → Rf lo S a0 12 → lv_has ls 9 [(0, .ref a0), (1, .int x1), (2, .int x2), (3, .int x3), (4, .int x4), (5, .int x5), (6, .int x6), (7, .int x7)] → b_X12_fork_203 N S k203 g a0 x1 x2 x3 x4 x5 x6 x7 = some (rv, g1) → W p l e R s m args below meth c H locs 0 0 (MQ below (Qcx D cA lo S (some (.int rv)) S g1 True) args s 0 0 (fun q : Nat => lo ≤ q)) (F0 m 203 ls []) := by
  intro H locs ls g a0 x1 x2 x3 x4 x5 x6 x7 M ra0 hl q
  unfold b_X12_fork_203 at q
  refine lv_iload hx hb dX12_fork_203 (lv_at hl 7 rfl) ?_
  refine lv_iload hx hb dX12_fork_205 (lv_at hl 4 rfl) ?_
  refine lv_icmp_ge (tgt := 319) hx hb dX12_fork_207 (by decide) (fun c_1 => ?_) (fun c_1 => ?_)
  · replace q := if_t c_1 q
    refine lv_aload_n hx hb dX12_fork_319 rfl (lv_at hl 0 rfl) ?_
    replace q := nn_s q
    obtain ⟨a_2, e_a_2, q⟩ := q
    refine x_getR hx hb hown hX M e_a_2 okX12 ra0 (by decide) rfl kw_1012 dX12_fork_320 (fun ra_2 => ?_)
    refine lv_iconst (v := 4) hx hb dX12_fork_323 (by decide) ?_
    refine lv_iload_n hx hb dX12_fork_324 rfl (lv_at hl 3 rfl) ?_
    refine lv_imul hx hb dX12_fork_325 ?_
    refine lv_iconst (v := 2) hx hb dX12_fork_326 (by decide) ?_
    refine lv_iadd hx hb dX12_fork_327 ?_
    refine lv_iload hx hb dX12_fork_328 (lv_at hl 5 rfl) ?_
    replace q := ck_s q
    obtain ⟨hin, q⟩ := q
    refine x_iast hx hb hX M ra_2 (inb_in hin) dX12_fork_330 (fun H locs M => ?_)
    replace q := gen_g M q
    obtain ⟨g_3, -, M, q⟩ := q
    refine lv_aload_n hx hb dX12_fork_331 rfl (lv_at hl 0 rfl) ?_
    replace q := nn_s q
    obtain ⟨a_4, e_a_4, q⟩ := q
    refine x_getR hx hb hown hX M e_a_4 okX12 ra0 (by decide) rfl kw_1012 dX12_fork_332 (fun ra_4 => ?_)
    refine lv_iconst (v := 4) hx hb dX12_fork_335 (by decide) ?_
    refine lv_iload_n hx hb dX12_fork_336 rfl (lv_at hl 3 rfl) ?_
    refine lv_imul hx hb dX12_fork_337 ?_
    refine lv_iconst (v := 3) hx hb dX12_fork_338 (by decide) ?_
    refine lv_iadd hx hb dX12_fork_339 ?_
    refine lv_iload hx hb dX12_fork_340 (lv_at hl 6 rfl) ?_
    refine lv_iload hx hb dX12_fork_342 (lv_at hl 5 rfl) ?_
    refine lv_isub hx hb dX12_fork_344 ?_
    replace q := ck_s q
    obtain ⟨hin, q⟩ := q
    refine x_iast hx hb hX M ra_4 (inb_in hin) dX12_fork_345 (fun H locs M => ?_)
    replace q := gen_g M q
    obtain ⟨g_5, -, M, q⟩ := q
    refine lv_aload_n hx hb dX12_fork_346 rfl (lv_at hl 0 rfl) ?_
    refine lv_dup hx hb dX12_fork_347 rfl ?_
    refine x_getI hx hb hown hX M (k := 1) okX12 ra0 (by decide) rfl kw_1013 dX12_fork_348 ?_
    refine lv_iconst (v := 1) hx hb dX12_fork_351 (by decide) ?_
    refine lv_iadd hx hb dX12_fork_352 ?_
    refine x_putI hx hb hown hX M (k := 1) okX12 ra0 (by decide) rfl (Or.inl rfl) rfl rfl kw_1013 dX12_fork_353 (fun H locs M => ?_)
    replace q := gen_g M q
    obtain ⟨g_6, -, M, q⟩ := q
    refine lv_iload_n hx hb dX12_fork_356 rfl (lv_at hl 3 rfl) ?_
    cases q
    exact x_iret hx hb hr hlk M Ext.rf dX12_fork_357
  · replace q := if_f c_1 q
    refine lv_bipush (v := 100) hx hb dX12_fork_210 (by decide) ?_
    refine lv_iload_n hx hb dX12_fork_212 rfl (lv_at hl 1 rfl) ?_
    refine lv_imul hx hb dX12_fork_213 ?_
    refine lv_iload hx hb dX12_fork_214 (lv_at hl 7 rfl) ?_
    refine lv_iadd hx hb dX12_fork_216 ?_
    refine lv_topi (fun x_7 e_x_7 => ?_)
    replace q := nm_s q e_x_7
    refine lv_istore (lv' := [(8, .int x_7), (0, .ref a0), (1, .int x1), (2, .int x2), (3, .int x3), (4, .int x4), (5, .int x5), (6, .int x6), (7, .int x7)]) hx hb dX12_fork_217 hl (by decide) rfl (fun ls hl => ?_)
    refine lv_aload_n hx hb dX12_fork_219 rfl (lv_at hl 1 rfl) ?_
    replace q := nn_s q
    obtain ⟨a_8, e_a_8, q⟩ := q
    refine x_getR hx hb hown hX M e_a_8 okX12 ra0 (by decide) rfl kw_1019 dX12_fork_220 (fun ra_8 => ?_)
    refine lv_iload hx hb dX12_fork_223 (lv_at hl 0 rfl) ?_
    replace q := ck_s q
    obtain ⟨hin, q⟩ := q
    refine x_iald hx hb hX M ra_8 (inb_in hin) dX12_fork_225 ?_
    refine lv_iload_n hx hb dX12_fork_226 rfl (lv_at hl 3 rfl) ?_
    refine lv_icmp_le (tgt := 233) hx hb dX12_fork_227 (by decide) (fun c_9 => ?_) (fun c_9 => ?_)
    · replace q := if_t c_9 q
      refine lv_aload_n hx hb dX12_fork_233 rfl (lv_at hl 1 rfl) ?_
      replace q := nn_s q
      obtain ⟨a_10, e_a_10, q⟩ := q
      refine x_getR hx hb hown hX M e_a_10 okX12 ra0 (by decide) rfl kw_1018 dX12_fork_234 (fun ra_10 => ?_)
      refine lv_bipush (v := 100) hx hb dX12_fork_237 (by decide) ?_
      refine lv_iload_n hx hb dX12_fork_239 rfl (lv_at hl 4 rfl) ?_
      refine lv_imul hx hb dX12_fork_240 ?_
      refine lv_iload hx hb dX12_fork_241 (lv_at hl 7 rfl) ?_
      refine lv_iadd hx hb dX12_fork_243 ?_
      refine lv_aload_n hx hb dX12_fork_244 rfl (lv_at hl 1 rfl) ?_
      replace q := nn_s q
      obtain ⟨a_11, e_a_11, q⟩ := q
      refine x_getR hx hb hown hX M e_a_11 okX12 ra0 (by decide) rfl kw_1018 dX12_fork_245 (fun ra_11 => ?_)
      refine lv_iload hx hb dX12_fork_248 (lv_at hl 0 rfl) ?_
      replace q := ck_s q
      obtain ⟨hin, q⟩ := q
      refine x_iald hx hb hX M ra_11 (inb_in hin) dX12_fork_250 ?_
      replace q := ck_s q
      obtain ⟨hin, q⟩ := q
      refine x_iast hx hb hX M ra_10 (inb_in hin) dX12_fork_251 (fun H locs M => ?_)
      replace q := gen_g M q
      obtain ⟨g_12, -, M, q⟩ := q
      refine lv_aload_n hx hb dX12_fork_252 rfl (lv_at hl 1 rfl) ?_
      replace q := nn_s q
      obtain ⟨a_13, e_a_13, q⟩ := q
      refine x_getR hx hb hown hX M e_a_13 okX12 ra0 (by decide) rfl kw_1019 dX12_fork_253 (fun ra_13 => ?_)
      refine lv_bipush (v := 100) hx hb dX12_fork_256 (by decide) ?_
      refine lv_iload_n hx hb dX12_fork_258 rfl (lv_at hl 4 rfl) ?_
      refine lv_imul hx hb dX12_fork_259 ?_
      refine lv_iload hx hb dX12_fork_260 (lv_at hl 7 rfl) ?_
      refine lv_iadd hx hb dX12_fork_262 ?_
      refine lv_aload_n hx hb dX12_fork_263 rfl (lv_at hl 1 rfl) ?_
      replace q := nn_s q
      obtain ⟨a_14, e_a_14, q⟩ := q
      refine x_getR hx hb hown hX M e_a_14 okX12 ra0 (by decide) rfl kw_1019 dX12_fork_264 (fun ra_14 => ?_)
      refine lv_iload hx hb dX12_fork_267 (lv_at hl 0 rfl) ?_
      replace q := ck_s q
      obtain ⟨hin, q⟩ := q
      refine x_iald hx hb hX M ra_14 (inb_in hin) dX12_fork_269 ?_
      replace q := ck_s q
      obtain ⟨hin, q⟩ := q
      refine x_iast hx hb hX M ra_13 (inb_in hin) dX12_fork_270 (fun H locs M => ?_)
      replace q := gen_g M q
      obtain ⟨g_15, -, M, q⟩ := q
      refine lv_aload_n hx hb dX12_fork_271 rfl (lv_at hl 1 rfl) ?_
      replace q := nn_s q
      obtain ⟨a_16, e_a_16, q⟩ := q
      refine x_getR hx hb hown hX M e_a_16 okX12 ra0 (by decide) rfl kw_1020 dX12_fork_272 (fun ra_16 => ?_)
      refine lv_bipush (v := 100) hx hb dX12_fork_275 (by decide) ?_
      refine lv_iload_n hx hb dX12_fork_277 rfl (lv_at hl 4 rfl) ?_
      refine lv_imul hx hb dX12_fork_278 ?_
      refine lv_iload hx hb dX12_fork_279 (lv_at hl 7 rfl) ?_
      refine lv_iadd hx hb dX12_fork_281 ?_
      refine lv_aload_n hx hb dX12_fork_282 rfl (lv_at hl 1 rfl) ?_
      replace q := nn_s q
      obtain ⟨a_17, e_a_17, q⟩ := q
      refine x_getR hx hb hown hX M e_a_17 okX12 ra0 (by decide) rfl kw_1020 dX12_fork_283 (fun ra_17 => ?_)
      refine lv_iload hx hb dX12_fork_286 (lv_at hl 0 rfl) ?_
      replace q := ck_s q
      obtain ⟨hin, q⟩ := q
      refine x_zald hx hb hX M ra_17 (inb_in hin) dX12_fork_288 ?_
      replace q := ck_s q
      obtain ⟨hin, q⟩ := q
      replace q := ck_s q
      obtain ⟨hz, q⟩ := q
      refine x_zast hx hb hX M ra_16 (zb_nar hz) (inb_in hin) dX12_fork_289 (fun H locs M => ?_)
      replace q := gen_g M q
      obtain ⟨g_18, -, M, q⟩ := q
      refine lv_iload hx hb dX12_fork_290 (lv_at hl 6 rfl) ?_
      refine lv_aload_n hx hb dX12_fork_292 rfl (lv_at hl 1 rfl) ?_
      replace q := nn_s q
      obtain ⟨a_19, e_a_19, q⟩ := q
      refine x_getR hx hb hown hX M e_a_19 okX12 ra0 (by decide) rfl kw_1020 dX12_fork_293 (fun ra_19 => ?_)
      refine lv_iload hx hb dX12_fork_296 (lv_at hl 0 rfl) ?_
      replace q := ck_s q
      obtain ⟨hin, q⟩ := q
      refine x_zald hx hb hX M ra_19 (inb_in hin) dX12_fork_298 ?_
      refine lv_if_eq (tgt := 306) hx hb dX12_fork_299 (by decide) (fun c_20 => ?_) (fun c_20 => ?_)
      · replace q := if_t c_20 q
        refine lv_iconst (v := 0) hx hb dX12_fork_306 (by decide) ?_
        refine lv_iadd hx hb dX12_fork_307 ?_
        refine lv_topi (fun x_21 e_x_21 => ?_)
        replace q := nm_s q e_x_21
        refine lv_istore (lv' := [(5, .int x_21), (8, .int x_7), (0, .ref a0), (1, .int x1), (2, .int x2), (3, .int x3), (4, .int x4), (6, .int x6), (7, .int x7)]) hx hb dX12_fork_308 hl (by decide) rfl (fun ls hl => ?_)
        obtain ⟨x_22, e_x_22⟩ : ∃ y : Int32, y = x6 + 1 := ⟨_, rfl⟩
        replace q := nm_s q e_x_22
        refine lv_iinc (v := x_22) (lv' := [(6, .int x_22), (5, .int x_21), (8, .int x_7), (0, .ref a0), (1, .int x1), (2, .int x2), (3, .int x3), (4, .int x4), (7, .int x7)]) hx hb dX12_fork_310 hl (k := 7) rfl (by rw [e_x_22]; rfl) (by decide) rfl (fun ls hl => ?_)
        obtain ⟨x_23, e_x_23⟩ : ∃ y : Int32, y = x7 + 1 := ⟨_, rfl⟩
        replace q := nm_s q e_x_23
        refine lv_iinc (v := x_23) (lv' := [(7, .int x_23), (6, .int x_22), (5, .int x_21), (8, .int x_7), (0, .ref a0), (1, .int x1), (2, .int x2), (3, .int x3), (4, .int x4)]) hx hb dX12_fork_313 hl (k := 8) rfl (by rw [e_x_23]; rfl) (by decide) rfl (fun ls hl => ?_)
        refine lv_goto (tgt := 203) hx hb dX12_fork_316 (by decide) ?_
        exact hk203 _ _ _ _ _ _ _ _ _ _ _ _ M ra0 (lv_sub hl [4, 5, 6, 7, 8, 2, 1, 0] rfl) q
      · replace q := if_f c_20 q
        refine lv_iconst (v := 1) hx hb dX12_fork_302 (by decide) ?_
        refine lv_goto (tgt := 307) hx hb dX12_fork_303 (by decide) ?_
        refine lv_iadd hx hb dX12_fork_307 ?_
        refine lv_topi (fun x_24 e_x_24 => ?_)
        replace q := nm_s q e_x_24
        refine lv_istore (lv' := [(5, .int x_24), (8, .int x_7), (0, .ref a0), (1, .int x1), (2, .int x2), (3, .int x3), (4, .int x4), (6, .int x6), (7, .int x7)]) hx hb dX12_fork_308 hl (by decide) rfl (fun ls hl => ?_)
        obtain ⟨x_25, e_x_25⟩ : ∃ y : Int32, y = x6 + 1 := ⟨_, rfl⟩
        replace q := nm_s q e_x_25
        refine lv_iinc (v := x_25) (lv' := [(6, .int x_25), (5, .int x_24), (8, .int x_7), (0, .ref a0), (1, .int x1), (2, .int x2), (3, .int x3), (4, .int x4), (7, .int x7)]) hx hb dX12_fork_310 hl (k := 7) rfl (by rw [e_x_25]; rfl) (by decide) rfl (fun ls hl => ?_)
        obtain ⟨x_26, e_x_26⟩ : ∃ y : Int32, y = x7 + 1 := ⟨_, rfl⟩
        replace q := nm_s q e_x_26
        refine lv_iinc (v := x_26) (lv' := [(7, .int x_26), (6, .int x_25), (5, .int x_24), (8, .int x_7), (0, .ref a0), (1, .int x1), (2, .int x2), (3, .int x3), (4, .int x4)]) hx hb dX12_fork_313 hl (k := 8) rfl (by rw [e_x_26]; rfl) (by decide) rfl (fun ls hl => ?_)
        refine lv_goto (tgt := 203) hx hb dX12_fork_316 (by decide) ?_
        exact hk203 _ _ _ _ _ _ _ _ _ _ _ _ M ra0 (lv_sub hl [4, 5, 6, 7, 8, 2, 1, 0] rfl) q
    · replace q := if_f c_9 q
      refine lv_goto (tgt := 313) hx hb dX12_fork_230 (by decide) ?_
      obtain ⟨x_27, e_x_27⟩ : ∃ y : Int32, y = x7 + 1 := ⟨_, rfl⟩
      replace q := nm_s q e_x_27
      refine lv_iinc (v := x_27) (lv' := [(7, .int x_27), (8, .int x_7), (0, .ref a0), (1, .int x1), (2, .int x2), (3, .int x3), (4, .int x4), (5, .int x5), (6, .int x6)]) hx hb dX12_fork_313 hl (k := 8) rfl (by rw [e_x_27]; rfl) (by decide) rfl (fun ls hl => ?_)
      refine lv_goto (tgt := 203) hx hb dX12_fork_316 (by decide) ?_
      exact hk203 _ _ _ _ _ _ _ _ _ _ _ _ M ra0 (lv_sub hl [2, 3, 4, 5, 6, 7, 8, 0] rfl) q
set_option maxRecDepth 100000 in
theorem l_X12_fork_203 (hx : p.tables.exec = Jvm.exec) (hb : c.code = cX12_fork) (hml : c.maxLocals = 9) (hr : meth.sig.returnType = (some .int)) (hlk : meth.locks = false) (hown : s.vm.findClass RX12 = some m.cls) (hX : Kx D cA lo tS s) (hRf : 3 ≤ R.frames) (hRl : 180 ≤ R.locals) {N : Nat} {rv : Int32} {g1 : Hg} {S : Hs} : ∀ (n : Nat), ∀ (H : Heap) (locs : List Loc) (ls : Array Slot) (g : Hg) (a0 : Nat) (x1 : Int32) (x2 : Int32) (x3 : Int32) (x4 : Int32) (x5 : Int32) (x6 : Int32) (x7 : Int32), Mm D cA lo S g s H locs → Rf lo S a0 12 → lv_has ls 9 [(0, .ref a0), (1, .int x1), (2, .int x2), (3, .int x3), (4, .int x4), (5, .int x5), (6, .int x6), (7, .int x7)] → n_X12_fork_203 N S n g a0 x1 x2 x3 x4 x5 x6 x7 = some (rv, g1) → W p l e R s m args below meth c H locs 0 0 (MQ below (Qcx D cA lo S (some (.int rv)) S g1 True) args s 0 0 (fun q : Nat => lo ≤ q)) (F0 m 203 ls []) := by
  intro n
  induction n with
  | zero =>
    intro H locs ls g a0 x1 x2 x3 x4 x5 x6 x7 M ra0 hl q
    exact absurd q (by simp [n_X12_fork_203])
  | succ n ih => exact w_X12_fork_203 hx hb hml hr hlk hown hX hRf hRl (N := N)  ih
set_option maxHeartbeats 4000000 in
set_option maxRecDepth 100000 in
theorem w_X12_fork_55 (hx : p.tables.exec = Jvm.exec) (hb : c.code = cX12_fork) (hml : c.maxLocals = 9) (hr : meth.sig.returnType = (some .int)) (hlk : meth.locks = false) (hown : s.vm.findClass RX12 = some m.cls) (hX : Kx D cA lo tS s) (hRf : 3 ≤ R.frames) (hRl : 180 ≤ R.locals) {N : Nat} {rv : Int32} {g1 : Hg} {S : Hs} {k55 : Hg → Nat → Int32 → Int32 → Int32 → Int32 → Option (Int32 × Hg)} (hk55 : ∀ (H : Heap) (locs : List Loc) (ls : Array Slot) (g : Hg) (a0 : Nat) (x1 : Int32) (x2 : Int32) (x3 : Int32) (x4 : Int32), Mm D cA lo S g s H locs → Rf lo S a0 12 → lv_has ls 9 [(0, .ref a0), (1, .int x1), (2, .int x2), (3, .int x3), (4, .int x4)] → k55 g a0 x1 x2 x3 x4 = some (rv, g1) → W p l e R s m args below meth c H locs 0 0 (MQ below (Qcx D cA lo S (some (.int rv)) S g1 True) args s 0 0 (fun q : Nat => lo ≤ q)) (F0 m 55 ls [])) : ∀ (H : Heap) (locs : List Loc) (ls : Array Slot) (g : Hg) (a0 : Nat) (x1 : Int32) (x2 : Int32) (x3 : Int32) (x4 : Int32), Mm D cA lo S g s H locs → Rf lo S a0 12 → lv_has ls 9 [(0, .ref a0), (1, .int x1), (2, .int x2), (3, .int x3), (4, .int x4)] → b_X12_fork_55 N S k55 g a0 x1 x2 x3 x4 = some (rv, g1) → W p l e R s m args below meth c H locs 0 0 (MQ below (Qcx D cA lo S (some (.int rv)) S g1 True) args s 0 0 (fun q : Nat => lo ≤ q)) (F0 m 55 ls []) := by
  intro H locs ls g a0 x1 x2 x3 x4 M ra0 hl q
  unfold b_X12_fork_55 at q
  refine lv_iload hx hb dX12_fork_55 (lv_at hl 4 rfl) ?_
  refine lv_iload_n hx hb dX12_fork_57 rfl (lv_at hl 2 rfl) ?_
  refine lv_icmp_ge (tgt := 171) hx hb dX12_fork_58 (by decide) (fun c_1 => ?_) (fun c_1 => ?_)
  · replace q := if_t c_1 q
    refine lv_aload_n hx hb dX12_fork_171 rfl (lv_at hl 0 rfl) ?_
    replace q := nn_s q
    obtain ⟨a_2, e_a_2, q⟩ := q
    refine x_getR hx hb hown hX M e_a_2 okX12 ra0 (by decide) rfl kw_1012 dX12_fork_172 (fun ra_2 => ?_)
    refine lv_iconst (v := 4) hx hb dX12_fork_175 (by decide) ?_
    refine lv_iload_n hx hb dX12_fork_176 rfl (lv_at hl 1 rfl) ?_
    refine lv_imul hx hb dX12_fork_177 ?_
    refine lv_iconst (v := 2) hx hb dX12_fork_178 (by decide) ?_
    refine lv_iadd hx hb dX12_fork_179 ?_
    replace q := ck_s q
    obtain ⟨hin, q⟩ := q
    refine x_iald hx hb hX M ra_2 (inb_in hin) dX12_fork_180 ?_
    refine lv_aload_n hx hb dX12_fork_181 rfl (lv_at hl 0 rfl) ?_
    replace q := nn_s q
    obtain ⟨a_3, e_a_3, q⟩ := q
    refine x_getR hx hb hown hX M e_a_3 okX12 ra0 (by decide) rfl kw_1012 dX12_fork_182 (fun ra_3 => ?_)
    refine lv_iconst (v := 4) hx hb dX12_fork_185 (by decide) ?_
    refine lv_iload_n hx hb dX12_fork_186 rfl (lv_at hl 1 rfl) ?_
    refine lv_imul hx hb dX12_fork_187 ?_
    refine lv_iconst (v := 3) hx hb dX12_fork_188 (by decide) ?_
    refine lv_iadd hx hb dX12_fork_189 ?_
    replace q := ck_s q
    obtain ⟨hin, q⟩ := q
    refine x_iald hx hb hX M ra_3 (inb_in hin) dX12_fork_190 ?_
    refine lv_iadd hx hb dX12_fork_191 ?_
    refine lv_topi (fun x_4 e_x_4 => ?_)
    replace q := nm_s q e_x_4
    refine lv_istore (lv' := [(4, .int x_4), (0, .ref a0), (1, .int x1), (2, .int x2), (3, .int x3)]) hx hb dX12_fork_192 hl (by decide) rfl (fun ls hl => ?_)
    refine lv_iconst (v := 0) hx hb dX12_fork_194 (by decide) ?_
    refine lv_istore (lv' := [(5, .int (0 : Int32)), (4, .int x_4), (0, .ref a0), (1, .int x1), (2, .int x2), (3, .int x3)]) hx hb dX12_fork_195 hl (by decide) rfl (fun ls hl => ?_)
    refine lv_iconst (v := 0) hx hb dX12_fork_197 (by decide) ?_
    refine lv_istore (lv' := [(6, .int (0 : Int32)), (5, .int (0 : Int32)), (4, .int x_4), (0, .ref a0), (1, .int x1), (2, .int x2), (3, .int x3)]) hx hb dX12_fork_198 hl (by decide) rfl (fun ls hl => ?_)
    refine lv_iconst (v := 0) hx hb dX12_fork_200 (by decide) ?_
    refine lv_istore (lv' := [(7, .int (0 : Int32)), (6, .int (0 : Int32)), (5, .int (0 : Int32)), (4, .int x_4), (0, .ref a0), (1, .int x1), (2, .int x2), (3, .int x3)]) hx hb dX12_fork_201 hl (by decide) rfl (fun ls hl => ?_)
    exact l_X12_fork_203 hx hb hml hr hlk hown hX hRf hRl (N := N)  N _ _ _ _ _ _ _ _ _ _ _ _ M ra0 (lv_sub hl [4, 5, 6, 7, 3, 2, 1, 0] rfl) q
  · replace q := if_f c_1 q
    refine lv_aload_n hx hb dX12_fork_61 rfl (lv_at hl 0 rfl) ?_
    replace q := nn_s q
    obtain ⟨a_5, e_a_5, q⟩ := q
    refine x_getR hx hb hown hX M e_a_5 okX12 ra0 (by decide) rfl kw_1014 dX12_fork_62 (fun ra_5 => ?_)
    refine lv_sipush (v := 400) hx hb dX12_fork_65 (by decide) ?_
    refine lv_iload_n hx hb dX12_fork_68 rfl (lv_at hl 3 rfl) ?_
    refine lv_imul hx hb dX12_fork_69 ?_
    refine lv_iload hx hb dX12_fork_70 (lv_at hl 4 rfl) ?_
    refine lv_iadd hx hb dX12_fork_72 ?_
    refine lv_aload_n hx hb dX12_fork_73 rfl (lv_at hl 0 rfl) ?_
    replace q := nn_s q
    obtain ⟨a_6, e_a_6, q⟩ := q
    refine x_getR hx hb hown hX M e_a_6 okX12 ra0 (by decide) rfl kw_1014 dX12_fork_74 (fun ra_6 => ?_)
    refine lv_sipush (v := 400) hx hb dX12_fork_77 (by decide) ?_
    refine lv_iload_n hx hb dX12_fork_80 rfl (lv_at hl 1 rfl) ?_
    refine lv_imul hx hb dX12_fork_81 ?_
    refine lv_iload hx hb dX12_fork_82 (lv_at hl 4 rfl) ?_
    refine lv_iadd hx hb dX12_fork_84 ?_
    replace q := ck_s q
    obtain ⟨hin, q⟩ := q
    refine x_iald hx hb hX M ra_6 (inb_in hin) dX12_fork_85 ?_
    replace q := ck_s q
    obtain ⟨hin, q⟩ := q
    refine x_iast hx hb hX M ra_5 (inb_in hin) dX12_fork_86 (fun H locs M => ?_)
    replace q := gen_g M q
    obtain ⟨g_7, -, M, q⟩ := q
    refine lv_aload_n hx hb dX12_fork_87 rfl (lv_at hl 0 rfl) ?_
    replace q := nn_s q
    obtain ⟨a_8, e_a_8, q⟩ := q
    refine x_getR hx hb hown hX M e_a_8 okX12 ra0 (by decide) rfl kw_1015 dX12_fork_88 (fun ra_8 => ?_)
    refine lv_sipush (v := 400) hx hb dX12_fork_91 (by decide) ?_
    refine lv_iload_n hx hb dX12_fork_94 rfl (lv_at hl 3 rfl) ?_
    refine lv_imul hx hb dX12_fork_95 ?_
    refine lv_iload hx hb dX12_fork_96 (lv_at hl 4 rfl) ?_
    refine lv_iadd hx hb dX12_fork_98 ?_
    refine lv_aload_n hx hb dX12_fork_99 rfl (lv_at hl 0 rfl) ?_
    replace q := nn_s q
    obtain ⟨a_9, e_a_9, q⟩ := q
    refine x_getR hx hb hown hX M e_a_9 okX12 ra0 (by decide) rfl kw_1015 dX12_fork_100 (fun ra_9 => ?_)
    refine lv_sipush (v := 400) hx hb dX12_fork_103 (by decide) ?_
    refine lv_iload_n hx hb dX12_fork_106 rfl (lv_at hl 1 rfl) ?_
    refine lv_imul hx hb dX12_fork_107 ?_
    refine lv_iload hx hb dX12_fork_108 (lv_at hl 4 rfl) ?_
    refine lv_iadd hx hb dX12_fork_110 ?_
    replace q := ck_s q
    obtain ⟨hin, q⟩ := q
    refine x_lald hx hb hX M ra_9 (inb_in hin) dX12_fork_111 ?_
    replace q := ck_s q
    obtain ⟨hin, q⟩ := q
    refine x_last hx hb hX M ra_8 (inb_in hin) dX12_fork_112 (fun H locs M => ?_)
    replace q := gen_g M q
    obtain ⟨g_10, -, M, q⟩ := q
    refine lv_aload_n hx hb dX12_fork_113 rfl (lv_at hl 0 rfl) ?_
    replace q := nn_s q
    obtain ⟨a_11, e_a_11, q⟩ := q
    refine x_getR hx hb hown hX M e_a_11 okX12 ra0 (by decide) rfl kw_1016 dX12_fork_114 (fun ra_11 => ?_)
    refine lv_sipush (v := 400) hx hb dX12_fork_117 (by decide) ?_
    refine lv_iload_n hx hb dX12_fork_120 rfl (lv_at hl 3 rfl) ?_
    refine lv_imul hx hb dX12_fork_121 ?_
    refine lv_iload hx hb dX12_fork_122 (lv_at hl 4 rfl) ?_
    refine lv_iadd hx hb dX12_fork_124 ?_
    refine lv_aload_n hx hb dX12_fork_125 rfl (lv_at hl 0 rfl) ?_
    replace q := nn_s q
    obtain ⟨a_12, e_a_12, q⟩ := q
    refine x_getR hx hb hown hX M e_a_12 okX12 ra0 (by decide) rfl kw_1016 dX12_fork_126 (fun ra_12 => ?_)
    refine lv_sipush (v := 400) hx hb dX12_fork_129 (by decide) ?_
    refine lv_iload_n hx hb dX12_fork_132 rfl (lv_at hl 1 rfl) ?_
    refine lv_imul hx hb dX12_fork_133 ?_
    refine lv_iload hx hb dX12_fork_134 (lv_at hl 4 rfl) ?_
    refine lv_iadd hx hb dX12_fork_136 ?_
    replace q := ck_s q
    obtain ⟨hin, q⟩ := q
    refine x_zald hx hb hX M ra_12 (inb_in hin) dX12_fork_137 ?_
    replace q := ck_s q
    obtain ⟨hin, q⟩ := q
    replace q := ck_s q
    obtain ⟨hz, q⟩ := q
    refine x_zast hx hb hX M ra_11 (zb_nar hz) (inb_in hin) dX12_fork_138 (fun H locs M => ?_)
    replace q := gen_g M q
    obtain ⟨g_13, -, M, q⟩ := q
    refine lv_aload_n hx hb dX12_fork_139 rfl (lv_at hl 0 rfl) ?_
    replace q := nn_s q
    obtain ⟨a_14, e_a_14, q⟩ := q
    refine x_getR hx hb hown hX M e_a_14 okX12 ra0 (by decide) rfl kw_1017 dX12_fork_140 (fun ra_14 => ?_)
    refine lv_sipush (v := 400) hx hb dX12_fork_143 (by decide) ?_
    refine lv_iload_n hx hb dX12_fork_146 rfl (lv_at hl 3 rfl) ?_
    refine lv_imul hx hb dX12_fork_147 ?_
    refine lv_iload hx hb dX12_fork_148 (lv_at hl 4 rfl) ?_
    refine lv_iadd hx hb dX12_fork_150 ?_
    refine lv_aload_n hx hb dX12_fork_151 rfl (lv_at hl 0 rfl) ?_
    replace q := nn_s q
    obtain ⟨a_15, e_a_15, q⟩ := q
    refine x_getR hx hb hown hX M e_a_15 okX12 ra0 (by decide) rfl kw_1017 dX12_fork_152 (fun ra_15 => ?_)
    refine lv_sipush (v := 400) hx hb dX12_fork_155 (by decide) ?_
    refine lv_iload_n hx hb dX12_fork_158 rfl (lv_at hl 1 rfl) ?_
    refine lv_imul hx hb dX12_fork_159 ?_
    refine lv_iload hx hb dX12_fork_160 (lv_at hl 4 rfl) ?_
    refine lv_iadd hx hb dX12_fork_162 ?_
    replace q := ck_s q
    obtain ⟨hin, q⟩ := q
    refine x_zald hx hb hX M ra_15 (inb_in hin) dX12_fork_163 ?_
    replace q := ck_s q
    obtain ⟨hin, q⟩ := q
    replace q := ck_s q
    obtain ⟨hz, q⟩ := q
    refine x_zast hx hb hX M ra_14 (zb_nar hz) (inb_in hin) dX12_fork_164 (fun H locs M => ?_)
    replace q := gen_g M q
    obtain ⟨g_16, -, M, q⟩ := q
    obtain ⟨x_17, e_x_17⟩ : ∃ y : Int32, y = x4 + 1 := ⟨_, rfl⟩
    replace q := nm_s q e_x_17
    refine lv_iinc (v := x_17) (lv' := [(4, .int x_17), (0, .ref a0), (1, .int x1), (2, .int x2), (3, .int x3)]) hx hb dX12_fork_165 hl (k := 4) rfl (by rw [e_x_17]; rfl) (by decide) rfl (fun ls hl => ?_)
    refine lv_goto (tgt := 55) hx hb dX12_fork_168 (by decide) ?_
    exact hk55 _ _ _ _ _ _ _ _ _ M ra0 (lv_sub hl [1, 2, 3, 4, 0] rfl) q
set_option maxRecDepth 100000 in
theorem l_X12_fork_55 (hx : p.tables.exec = Jvm.exec) (hb : c.code = cX12_fork) (hml : c.maxLocals = 9) (hr : meth.sig.returnType = (some .int)) (hlk : meth.locks = false) (hown : s.vm.findClass RX12 = some m.cls) (hX : Kx D cA lo tS s) (hRf : 3 ≤ R.frames) (hRl : 180 ≤ R.locals) {N : Nat} {rv : Int32} {g1 : Hg} {S : Hs} : ∀ (n : Nat), ∀ (H : Heap) (locs : List Loc) (ls : Array Slot) (g : Hg) (a0 : Nat) (x1 : Int32) (x2 : Int32) (x3 : Int32) (x4 : Int32), Mm D cA lo S g s H locs → Rf lo S a0 12 → lv_has ls 9 [(0, .ref a0), (1, .int x1), (2, .int x2), (3, .int x3), (4, .int x4)] → n_X12_fork_55 N S n g a0 x1 x2 x3 x4 = some (rv, g1) → W p l e R s m args below meth c H locs 0 0 (MQ below (Qcx D cA lo S (some (.int rv)) S g1 True) args s 0 0 (fun q : Nat => lo ≤ q)) (F0 m 55 ls []) := by
  intro n
  induction n with
  | zero =>
    intro H locs ls g a0 x1 x2 x3 x4 M ra0 hl q
    exact absurd q (by simp [n_X12_fork_55])
  | succ n ih => exact w_X12_fork_55 hx hb hml hr hlk hown hX hRf hRl (N := N)  ih
set_option maxHeartbeats 4000000 in
set_option maxRecDepth 100000 in
theorem w_X12_fork_0 (hx : p.tables.exec = Jvm.exec) (hb : c.code = cX12_fork) (hml : c.maxLocals = 9) (hr : meth.sig.returnType = (some .int)) (hlk : meth.locks = false) (hown : s.vm.findClass RX12 = some m.cls) (hX : Kx D cA lo tS s) (hRf : 3 ≤ R.frames) (hRl : 180 ≤ R.locals) {N : Nat} {rv : Int32} {g1 : Hg} {S : Hs} : ∀ (H : Heap) (locs : List Loc) (ls : Array Slot) (g : Hg) (a0 : Nat) (x1 : Int32) (x2 : Int32), Mm D cA lo S g s H locs → Rf lo S a0 12 → lv_has ls 9 [(0, .ref a0), (1, .int x1), (2, .int x2)] → b_X12_fork_0 N S g a0 x1 x2 = some (rv, g1) → W p l e R s m args below meth c H locs 0 0 (MQ below (Qcx D cA lo S (some (.int rv)) S g1 True) args s 0 0 (fun q : Nat => lo ≤ q)) (F0 m 0 ls []) := by
  intro H locs ls g a0 x1 x2 M ra0 hl q
  unfold b_X12_fork_0 at q
  refine lv_aload_n hx hb dX12_fork_0 rfl (lv_at hl 0 rfl) ?_
  refine lv_iload_n hx hb dX12_fork_1 rfl (lv_at hl 1 rfl) ?_
  refine lv_iload_n hx hb dX12_fork_2 rfl (lv_at hl 2 rfl) ?_
  replace q := c2_s q
  obtain ⟨x_2, g_1, qc, q⟩ := q
  refine x_callV hx hb hml hl.1 hown hX M (S1 := S) (As := [.int x1, .int x2]) (rest := []) okX12 ra0 rfl kw_1233 kw_16 mok_X12_isCount (c_X12_isCount ra0 qc (Nat.le_refl 2)) kw_1231 rfl rfl dX12_fork_3 (Nat.le_of_ble_eq_true rfl) ⟨Nat.le_trans (by decide) hRf, Nat.le_trans (by decide) hRl⟩ (Nat.zero_le _) (Nat.zero_le _) (fun H locs M hEF => ?_)
  refine lv_if_eq (tgt := 18) hx hb dX12_fork_6 (by decide) (fun c_3 => ?_) (fun c_3 => ?_)
  · replace q := if_t c_3 q
    refine lv_iconst (v := -1) hx hb dX12_fork_18 (by decide) ?_
    cases q
    exact x_iret hx hb hr hlk M Ext.rf dX12_fork_19
  · replace q := if_f c_3 q
    refine lv_aload_n hx hb dX12_fork_9 rfl (lv_at hl 0 rfl) ?_
    refine x_getI hx hb hown hX M (k := 1) okX12 ra0 (by decide) rfl kw_1013 dX12_fork_10 ?_
    refine lv_bipush (v := 6) hx hb dX12_fork_13 (by decide) ?_
    refine lv_icmp_ne (tgt := 20) hx hb dX12_fork_15 (by decide) (fun c_4 => ?_) (fun c_4 => ?_)
    · replace q := if_f c_4 q
      refine lv_aload_n hx hb dX12_fork_20 rfl (lv_at hl 0 rfl) ?_
      refine x_getI hx hb hown hX M (k := 1) okX12 ra0 (by decide) rfl kw_1013 dX12_fork_21 ?_
      refine lv_topi (fun x_5 e_x_5 => ?_)
      replace q := nm_s q e_x_5
      refine lv_istore_n (lv' := [(3, .int x_5), (0, .ref a0), (1, .int x1), (2, .int x2)]) hx hb dX12_fork_24 rfl hl (by decide) rfl (fun ls hl => ?_)
      refine lv_aload_n hx hb dX12_fork_25 rfl (lv_at hl 1 rfl) ?_
      replace q := nn_s q
      obtain ⟨a_6, e_a_6, q⟩ := q
      refine x_getR hx hb hown hX M e_a_6 okX12 ra0 (by decide) rfl kw_1012 dX12_fork_26 (fun ra_6 => ?_)
      refine lv_iconst (v := 4) hx hb dX12_fork_29 (by decide) ?_
      refine lv_iload_n hx hb dX12_fork_30 rfl (lv_at hl 0 rfl) ?_
      refine lv_imul hx hb dX12_fork_31 ?_
      refine lv_aload_n hx hb dX12_fork_32 rfl (lv_at hl 1 rfl) ?_
      replace q := nn_s q
      obtain ⟨a_7, e_a_7, q⟩ := q
      refine x_getR hx hb hown hX M e_a_7 okX12 ra0 (by decide) rfl kw_1012 dX12_fork_33 (fun ra_7 => ?_)
      refine lv_iconst (v := 4) hx hb dX12_fork_36 (by decide) ?_
      refine lv_iload_n hx hb dX12_fork_37 rfl (lv_at hl 2 rfl) ?_
      refine lv_imul hx hb dX12_fork_38 ?_
      replace q := ck_s q
      obtain ⟨hin, q⟩ := q
      refine x_iald hx hb hX M ra_7 (inb_in hin) dX12_fork_39 ?_
      replace q := ck_s q
      obtain ⟨hin, q⟩ := q
      refine x_iast hx hb hX M ra_6 (inb_in hin) dX12_fork_40 (fun H locs M => ?_)
      replace q := gen_g M q
      obtain ⟨g_8, -, M, q⟩ := q
      refine lv_aload_n hx hb dX12_fork_41 rfl (lv_at hl 1 rfl) ?_
      replace q := nn_s q
      obtain ⟨a_9, e_a_9, q⟩ := q
      refine x_getR hx hb hown hX M e_a_9 okX12 ra0 (by decide) rfl kw_1012 dX12_fork_42 (fun ra_9 => ?_)
      refine lv_iconst (v := 4) hx hb dX12_fork_45 (by decide) ?_
      refine lv_iload_n hx hb dX12_fork_46 rfl (lv_at hl 0 rfl) ?_
      refine lv_imul hx hb dX12_fork_47 ?_
      refine lv_iconst (v := 1) hx hb dX12_fork_48 (by decide) ?_
      refine lv_iadd hx hb dX12_fork_49 ?_
      refine lv_iload_n hx hb dX12_fork_50 rfl (lv_at hl 3 rfl) ?_
      replace q := ck_s q
      obtain ⟨hin, q⟩ := q
      refine x_iast hx hb hX M ra_9 (inb_in hin) dX12_fork_51 (fun H locs M => ?_)
      replace q := gen_g M q
      obtain ⟨g_10, -, M, q⟩ := q
      refine lv_iconst (v := 0) hx hb dX12_fork_52 (by decide) ?_
      refine lv_istore (lv' := [(4, .int (0 : Int32)), (3, .int x_5), (0, .ref a0), (1, .int x1), (2, .int x2)]) hx hb dX12_fork_53 hl (by decide) rfl (fun ls hl => ?_)
      exact l_X12_fork_55 hx hb hml hr hlk hown hX hRf hRl (N := N)  N _ _ _ _ _ _ _ _ _ M ra0 (lv_sub hl [2, 3, 4, 1, 0] rfl) q
    · replace q := if_t c_4 q
      refine lv_iconst (v := -1) hx hb dX12_fork_18 (by decide) ?_
      cases q
      exact x_iret hx hb hr hlk M Ext.rf dX12_fork_19
set_option maxRecDepth 100000 in
theorem c_X12_fork {l : Launch} {D : va_G} {cA : Nat → ClassId} {lo tS N : Nat} {S : Hs} {g g1 : Hg} {rv : Int32} {a0 : Nat} {x1 : Int32} {x2 : Int32} (ra0 : Rf lo S a0 12) (q : f_X12_fork N S g a0 x1 x2 = some (rv, g1)) {d : Nat} (hd : 3 ≤ d) : Ctr l yX12_fork cX12_fork 9 (some .int) D cA lo tS [.ref a0, .int x1, .int x2] S g d (some (.int rv)) S g1 True 0 0 := by
  refine x_met (by decide) (Nat.le_of_ble_eq_true rfl) ?_
  intro p e s m below meth c ls hx hb hml hr hlk hown hnm hX M hl
  exact w_X12_fork_0 hx hb hml hr hlk hown hX hd (Nat.mul_le_mul_left 60 hd) (N := N) _ _ _ _ _ _ _ M ra0 (lv_sub hl [0, 1, 2] rfl) q
def b_X12_blockSum_0 (N : Nat) (S : Hs) (self : Hg → Nat → Int32 → Int32 → Int32 → Int32 → Nat → Int32 → Option (Unit × Hg)) (g : Hg) (a0 : Nat) (x1 : Int32) (x2 : Int32) (x3 : Int32) (x4 : Int32) (a5 : Nat) (x6 : Int32) : Option (Unit × Hg) :=
if x3 = (1 : Int32) then (
nn (rdR g a0 2) (fun a_12 =>
ck (inb (((400 : Int32) * x1) + x2) (hpL S a_12)) (
nn (rdR g a0 3) (fun a_13 =>
ck (inb (((400 : Int32) * x1) + x2) (hpL S a_13)) (
c2 (f_X12_entrySum N S g a0 (rdI g a_12 (((400 : Int32) * x1) + x2).toNatClampNeg) (rdL g a_13 (((400 : Int32) * x1) + x2).toNatClampNeg) a5 x6) (fun u_15 g_14 =>
some ((), g_14))))))) else (
nn (rdR g a0 45) (fun a_2 =>
c2 (self g a0 x1 x2 (x3 / (2 : Int32)) (x4 + (1 : Int32)) a_2 ((16 : Int32) * x4)) (fun u_4 g_3 =>
nn (rdR g_3 a0 45) (fun a_5 =>
c2 (self g_3 a0 x1 (x2 + (x3 / (2 : Int32))) (x3 / (2 : Int32)) (x4 + (1 : Int32)) a_5 (((16 : Int32) * x4) + (8 : Int32))) (fun u_7 g_6 =>
nn (rdR g_6 a0 45) (fun a_8 =>
nn (rdR g_6 a0 45) (fun a_9 =>
c2 (f_X12_join N S g_6 a0 a_8 ((16 : Int32) * x4) a_9 (((16 : Int32) * x4) + (8 : Int32)) a5 x6) (fun u_11 g_10 =>
some ((), g_10)))))))))
def f_X12_blockSum (N : Nat) (S : Hs) : Nat → Hg → Nat → Int32 → Int32 → Int32 → Int32 → Nat → Int32 → Option (Unit × Hg)
  | 0 => fun _ _ _ _ _ _ _ _ => none
  | n + 1 => fun g a0 x1 x2 x3 x4 a5 x6 => b_X12_blockSum_0 N S (f_X12_blockSum N S n) g a0 x1 x2 x3 x4 a5 x6
set_option maxHeartbeats 4000000 in
set_option maxRecDepth 100000 in
theorem w_X12_blockSum_0 (hx : p.tables.exec = Jvm.exec) (hb : c.code = cX12_blockSum) (hml : c.maxLocals = 7) (hr : meth.sig.returnType = none) (hlk : meth.locks = false) (hown : s.vm.findClass RX12 = some m.cls) (hX : Kx D cA lo tS s) {nf : Nat} (hRf : nf + 1 + 4 ≤ R.frames) (hRl : 60 * (nf + 1 + 4) ≤ R.locals) {N : Nat} {rv : Unit} {g1 : Hg} {S : Hs} {self : Hg → Nat → Int32 → Int32 → Int32 → Int32 → Nat → Int32 → Option (Unit × Hg)} (hself : ∀ (g g1 : Hg) (rv : Unit) (a0 : Nat) (x1 : Int32) (x2 : Int32) (x3 : Int32) (x4 : Int32) (a5 : Nat) (x6 : Int32), Rf lo S a0 12 → Rf lo S a5 20 → self g a0 x1 x2 x3 x4 a5 x6 = some (rv, g1) → ∀ d, nf + 4 ≤ d → Ctr l yX12_blockSum cX12_blockSum 7 none D cA lo tS [.ref a0, .int x1, .int x2, .int x3, .int x4, .ref a5, .int x6] S g d none S g1 True 0 0) : ∀ (H : Heap) (locs : List Loc) (ls : Array Slot) (g : Hg) (a0 : Nat) (x1 : Int32) (x2 : Int32) (x3 : Int32) (x4 : Int32) (a5 : Nat) (x6 : Int32), Mm D cA lo S g s H locs → Rf lo S a0 12 → Rf lo S a5 20 → lv_has ls 7 [(0, .ref a0), (1, .int x1), (2, .int x2), (3, .int x3), (4, .int x4), (5, .ref a5), (6, .int x6)] → b_X12_blockSum_0 N S self g a0 x1 x2 x3 x4 a5 x6 = some (rv, g1) → W p l e R s m args below meth c H locs 0 0 (MQ below (Qcx D cA lo S none S g1 True) args s 0 0 (fun q : Nat => lo ≤ q)) (F0 m 0 ls []) := by
  intro H locs ls g a0 x1 x2 x3 x4 a5 x6 M ra0 ra5 hl q
  unfold b_X12_blockSum_0 at q
  refine lv_iload_n hx hb dX12_blockSum_0 rfl (lv_at hl 3 rfl) ?_
  refine lv_iconst (v := 1) hx hb dX12_blockSum_1 (by decide) ?_
  refine lv_icmp_ne (tgt := 38) hx hb dX12_blockSum_2 (by decide) (fun c_1 => ?_) (fun c_1 => ?_)
  · replace q := if_f c_1 q
    refine lv_aload_n hx hb dX12_blockSum_38 rfl (lv_at hl 0 rfl) ?_
    refine lv_iload_n hx hb dX12_blockSum_39 rfl (lv_at hl 1 rfl) ?_
    refine lv_iload_n hx hb dX12_blockSum_40 rfl (lv_at hl 2 rfl) ?_
    refine lv_iload_n hx hb dX12_blockSum_41 rfl (lv_at hl 3 rfl) ?_
    refine lv_iconst (v := 2) hx hb dX12_blockSum_42 (by decide) ?_
    refine lv_idiv hx hb dX12_blockSum_43 (by decide) ?_
    refine lv_iload hx hb dX12_blockSum_44 (lv_at hl 4 rfl) ?_
    refine lv_iconst (v := 1) hx hb dX12_blockSum_46 (by decide) ?_
    refine lv_iadd hx hb dX12_blockSum_47 ?_
    refine lv_aload_n hx hb dX12_blockSum_48 rfl (lv_at hl 0 rfl) ?_
    replace q := nn_s q
    obtain ⟨a_2, e_a_2, q⟩ := q
    refine x_getR hx hb hown hX M e_a_2 okX12 ra0 (by decide) rfl kw_1057 dX12_blockSum_49 (fun ra_2 => ?_)
    refine lv_bipush (v := 16) hx hb dX12_blockSum_52 (by decide) ?_
    refine lv_iload hx hb dX12_blockSum_54 (lv_at hl 4 rfl) ?_
    refine lv_imul hx hb dX12_blockSum_56 ?_
    replace q := c2_s q
    obtain ⟨u_4, g_3, qc, q⟩ := q
    refine x_callV hx hb hml hl.1 hown hX M (S1 := S) (As := [.int x1, .int x2, .int (x3 / (2 : Int32)), .int (x4 + (1 : Int32)), .ref a_2, .int ((16 : Int32) * x4)]) (rest := []) okX12 ra0 rfl kw_1313 kw_28 mok_X12_blockSum (hself _ _ _ _ _ _ _ _ _ _ ra0 ra_2 qc _ (Nat.le_refl _)) kw_1311 rfl rfl dX12_blockSum_57 (Nat.le_of_ble_eq_true rfl) ⟨by omega, by omega⟩ (Nat.zero_le _) (Nat.zero_le _) (fun H locs M hEF => ?_)
    refine lv_aload_n hx hb dX12_blockSum_60 rfl (lv_at hl 0 rfl) ?_
    refine lv_iload_n hx hb dX12_blockSum_61 rfl (lv_at hl 1 rfl) ?_
    refine lv_iload_n hx hb dX12_blockSum_62 rfl (lv_at hl 2 rfl) ?_
    refine lv_iload_n hx hb dX12_blockSum_63 rfl (lv_at hl 3 rfl) ?_
    refine lv_iconst (v := 2) hx hb dX12_blockSum_64 (by decide) ?_
    refine lv_idiv hx hb dX12_blockSum_65 (by decide) ?_
    refine lv_iadd hx hb dX12_blockSum_66 ?_
    refine lv_iload_n hx hb dX12_blockSum_67 rfl (lv_at hl 3 rfl) ?_
    refine lv_iconst (v := 2) hx hb dX12_blockSum_68 (by decide) ?_
    refine lv_idiv hx hb dX12_blockSum_69 (by decide) ?_
    refine lv_iload hx hb dX12_blockSum_70 (lv_at hl 4 rfl) ?_
    refine lv_iconst (v := 1) hx hb dX12_blockSum_72 (by decide) ?_
    refine lv_iadd hx hb dX12_blockSum_73 ?_
    refine lv_aload_n hx hb dX12_blockSum_74 rfl (lv_at hl 0 rfl) ?_
    replace q := nn_s q
    obtain ⟨a_5, e_a_5, q⟩ := q
    refine x_getR hx hb hown hX M e_a_5 okX12 ra0 (by decide) rfl kw_1057 dX12_blockSum_75 (fun ra_5 => ?_)
    refine lv_bipush (v := 16) hx hb dX12_blockSum_78 (by decide) ?_
    refine lv_iload hx hb dX12_blockSum_80 (lv_at hl 4 rfl) ?_
    refine lv_imul hx hb dX12_blockSum_82 ?_
    refine lv_bipush (v := 8) hx hb dX12_blockSum_83 (by decide) ?_
    refine lv_iadd hx hb dX12_blockSum_85 ?_
    replace q := c2_s q
    obtain ⟨u_7, g_6, qc, q⟩ := q
    refine x_callV hx hb hml hl.1 hown hX M (S1 := S) (As := [.int x1, .int (x2 + (x3 / (2 : Int32))), .int (x3 / (2 : Int32)), .int (x4 + (1 : Int32)), .ref a_5, .int (((16 : Int32) * x4) + (8 : Int32))]) (rest := []) okX12 ra0 rfl kw_1313 kw_28 mok_X12_blockSum (hself _ _ _ _ _ _ _ _ _ _ ra0 ra_5 qc _ (Nat.le_refl _)) kw_1311 rfl rfl dX12_blockSum_86 (Nat.le_of_ble_eq_true rfl) ⟨by omega, by omega⟩ (Nat.zero_le _) (Nat.zero_le _) (fun H locs M hEF => ?_)
    refine lv_aload_n hx hb dX12_blockSum_89 rfl (lv_at hl 0 rfl) ?_
    refine lv_aload_n hx hb dX12_blockSum_90 rfl (lv_at hl 0 rfl) ?_
    replace q := nn_s q
    obtain ⟨a_8, e_a_8, q⟩ := q
    refine x_getR hx hb hown hX M e_a_8 okX12 ra0 (by decide) rfl kw_1057 dX12_blockSum_91 (fun ra_8 => ?_)
    refine lv_bipush (v := 16) hx hb dX12_blockSum_94 (by decide) ?_
    refine lv_iload hx hb dX12_blockSum_96 (lv_at hl 4 rfl) ?_
    refine lv_imul hx hb dX12_blockSum_98 ?_
    refine lv_aload_n hx hb dX12_blockSum_99 rfl (lv_at hl 0 rfl) ?_
    replace q := nn_s q
    obtain ⟨a_9, e_a_9, q⟩ := q
    refine x_getR hx hb hown hX M e_a_9 okX12 ra0 (by decide) rfl kw_1057 dX12_blockSum_100 (fun ra_9 => ?_)
    refine lv_bipush (v := 16) hx hb dX12_blockSum_103 (by decide) ?_
    refine lv_iload hx hb dX12_blockSum_105 (lv_at hl 4 rfl) ?_
    refine lv_imul hx hb dX12_blockSum_107 ?_
    refine lv_bipush (v := 8) hx hb dX12_blockSum_108 (by decide) ?_
    refine lv_iadd hx hb dX12_blockSum_110 ?_
    refine lv_aload hx hb dX12_blockSum_111 (lv_at hl 5 rfl) ?_
    refine lv_iload hx hb dX12_blockSum_113 (lv_at hl 6 rfl) ?_
    replace q := c2_s q
    obtain ⟨u_11, g_10, qc, q⟩ := q
    refine x_callV hx hb hml hl.1 hown hX M (S1 := S) (As := [.ref a_8, .int ((16 : Int32) * x4), .ref a_9, .int (((16 : Int32) * x4) + (8 : Int32)), .ref a5, .int x6]) (rest := []) okX12 ra0 rfl kw_1321 kw_30 mok_X12_join (c_X12_join ra0 ra_8 ra_9 ra5 qc (Nat.le_refl 3)) kw_1319 rfl rfl dX12_blockSum_115 (Nat.le_of_ble_eq_true rfl) ⟨by omega, by omega⟩ (Nat.zero_le _) (Nat.zero_le _) (fun H locs M hEF => ?_)
    cases q
    exact x_vret hx hb hr hlk M Ext.rf dX12_blockSum_118
  · replace q := if_t c_1 q
    refine lv_aload_n hx hb dX12_blockSum_5 rfl (lv_at hl 0 rfl) ?_
    refine lv_aload_n hx hb dX12_blockSum_6 rfl (lv_at hl 0 rfl) ?_
    replace q := nn_s q
    obtain ⟨a_12, e_a_12, q⟩ := q
    refine x_getR hx hb hown hX M e_a_12 okX12 ra0 (by decide) rfl kw_1014 dX12_blockSum_7 (fun ra_12 => ?_)
    refine lv_sipush (v := 400) hx hb dX12_blockSum_10 (by decide) ?_
    refine lv_iload_n hx hb dX12_blockSum_13 rfl (lv_at hl 1 rfl) ?_
    refine lv_imul hx hb dX12_blockSum_14 ?_
    refine lv_iload_n hx hb dX12_blockSum_15 rfl (lv_at hl 2 rfl) ?_
    refine lv_iadd hx hb dX12_blockSum_16 ?_
    replace q := ck_s q
    obtain ⟨hin, q⟩ := q
    refine x_iald hx hb hX M ra_12 (inb_in hin) dX12_blockSum_17 ?_
    refine lv_aload_n hx hb dX12_blockSum_18 rfl (lv_at hl 0 rfl) ?_
    replace q := nn_s q
    obtain ⟨a_13, e_a_13, q⟩ := q
    refine x_getR hx hb hown hX M e_a_13 okX12 ra0 (by decide) rfl kw_1015 dX12_blockSum_19 (fun ra_13 => ?_)
    refine lv_sipush (v := 400) hx hb dX12_blockSum_22 (by decide) ?_
    refine lv_iload_n hx hb dX12_blockSum_25 rfl (lv_at hl 1 rfl) ?_
    refine lv_imul hx hb dX12_blockSum_26 ?_
    refine lv_iload_n hx hb dX12_blockSum_27 rfl (lv_at hl 2 rfl) ?_
    refine lv_iadd hx hb dX12_blockSum_28 ?_
    replace q := ck_s q
    obtain ⟨hin, q⟩ := q
    refine x_lald hx hb hX M ra_13 (inb_in hin) dX12_blockSum_29 ?_
    refine lv_aload hx hb dX12_blockSum_30 (lv_at hl 5 rfl) ?_
    refine lv_iload hx hb dX12_blockSum_32 (lv_at hl 6 rfl) ?_
    replace q := c2_s q
    obtain ⟨u_15, g_14, qc, q⟩ := q
    refine x_callV hx hb hml hl.1 hown hX M (S1 := S) (As := [.int (rdI g a_12 (((400 : Int32) * x1) + x2).toNatClampNeg), .long (rdL g a_13 (((400 : Int32) * x1) + x2).toNatClampNeg), .ref a5, .int x6]) (rest := []) okX12 ra0 rfl kw_1317 kw_29 mok_X12_entrySum (c_X12_entrySum ra0 ra5 qc (Nat.le_refl 3)) kw_1315 rfl rfl dX12_blockSum_34 (Nat.le_of_ble_eq_true rfl) ⟨by omega, by omega⟩ (Nat.zero_le _) (Nat.zero_le _) (fun H locs M hEF => ?_)
    cases q
    exact x_vret hx hb hr hlk M Ext.rf dX12_blockSum_37
set_option maxRecDepth 100000 in
theorem cn_X12_blockSum {l : Launch} {D : va_G} {cA : Nat → ClassId} {lo tS N : Nat} {S : Hs} : ∀ (n : Nat) (g g1 : Hg) (rv : Unit) (a0 : Nat) (x1 : Int32) (x2 : Int32) (x3 : Int32) (x4 : Int32) (a5 : Nat) (x6 : Int32), Rf lo S a0 12 → Rf lo S a5 20 → f_X12_blockSum N S n g a0 x1 x2 x3 x4 a5 x6 = some (rv, g1) → ∀ d, n + 4 ≤ d → Ctr l yX12_blockSum cX12_blockSum 7 none D cA lo tS [.ref a0, .int x1, .int x2, .int x3, .int x4, .ref a5, .int x6] S g d none S g1 True 0 0 := by
  intro n
  induction n with
  | zero =>
    intro g g1 rv a0 x1 x2 x3 x4 a5 x6 ra0 ra5 q
    exact absurd q (by simp [f_X12_blockSum])
  | succ n ih =>
    intro g g1 rv a0 x1 x2 x3 x4 a5 x6 ra0 ra5 q d hd
    refine x_met (by decide) (Nat.le_of_ble_eq_true rfl) ?_
    intro p e s m below meth c ls hx hb hml hr hlk hown hnm hX M hl
    exact w_X12_blockSum_0 hx hb hml hr hlk hown hX (nf := n) hd (Nat.mul_le_mul_left 60 hd) (N := N) ih _ _ _ _ _ _ _ _ _ _ _ M ra0 ra5 (lv_sub hl [0, 1, 2, 3, 4, 5, 6] rfl) q
theorem c_X12_blockSum {l : Launch} {D : va_G} {cA : Nat → ClassId} {lo tS N : Nat} {S : Hs} {g g1 : Hg} {rv : Unit} {a0 : Nat} {x1 : Int32} {x2 : Int32} {x3 : Int32} {x4 : Int32} {a5 : Nat} {x6 : Int32} (ra0 : Rf lo S a0 12) (ra5 : Rf lo S a5 20) (q : f_X12_blockSum N S 300 g a0 x1 x2 x3 x4 a5 x6 = some (rv, g1)) {d : Nat} (hd : 304 ≤ d) : Ctr l yX12_blockSum cX12_blockSum 7 none D cA lo tS [.ref a0, .int x1, .int x2, .int x3, .int x4, .ref a5, .int x6] S g d none S g1 True 0 0 := cn_X12_blockSum 300 _ _ _ _ _ _ _ _ _ _ ra0 ra5 q d hd
def b_X12_stepLog_3 (N : Nat) (S : Hs) (k3 : Hg → Nat → Int32 → Int32 → Int32 → Int32 → Option (Unit × Hg)) (g : Hg) (a0 : Nat) (x1 : Int32) (x2 : Int32) (x4 : Int32) (x5 : Int32) : Option (Unit × Hg) :=
if x4 ≤ x5 then (
some ((), g)) else (
c2 (f_X12_blockAt N S g x5 x4) (fun x_3 g_2 =>
nn (rdR g_2 a0 51) (fun a_4 =>
c2 (f_X12_blockSum N S 300 g_2 a0 x2 x5 x_3 (0 : Int32) a_4 (0 : Int32)) (fun u_6 g_5 =>
nn (rdR g_5 a0 51) (fun a_7 =>
c2 (f_X12_step N S g_5 a0 x1 a_7 (0 : Int32)) (fun u_9 g_8 =>
nm (x5 + x_3) (fun x_10 =>
k3 g_8 a0 x1 x2 x4 x_10)))))))
def n_X12_stepLog_3 (N : Nat) (S : Hs) : Nat → Hg → Nat → Int32 → Int32 → Int32 → Int32 → Option (Unit × Hg)
  | 0 => fun _ _ _ _ _ _ => none
  | n + 1 => fun g a0 x1 x2 x4 x5 => b_X12_stepLog_3 N S (n_X12_stepLog_3 N S n) g a0 x1 x2 x4 x5
def b_X12_stepLog_0 (N : Nat) (S : Hs) (g : Hg) (a0 : Nat) (x1 : Int32) (x2 : Int32) (x3 : Int32) (x4 : Int32) : Option (Unit × Hg) :=
n_X12_stepLog_3 N S N g a0 x1 x2 x4 x3
def f_X12_stepLog (N : Nat) (S : Hs) (g : Hg) (a0 : Nat) (x1 : Int32) (x2 : Int32) (x3 : Int32) (x4 : Int32) : Option (Unit × Hg) := b_X12_stepLog_0 N S g a0 x1 x2 x3 x4
set_option maxHeartbeats 4000000 in
set_option maxRecDepth 100000 in
theorem w_X12_stepLog_3 (hx : p.tables.exec = Jvm.exec) (hb : c.code = cX12_stepLog) (hml : c.maxLocals = 7) (hr : meth.sig.returnType = none) (hlk : meth.locks = false) (hown : s.vm.findClass RX12 = some m.cls) (hX : Kx D cA lo tS s) (hRf : 305 ≤ R.frames) (hRl : 18300 ≤ R.locals) {N : Nat} {rv : Unit} {g1 : Hg} {S : Hs} {k3 : Hg → Nat → Int32 → Int32 → Int32 → Int32 → Option (Unit × Hg)} (hk3 : ∀ (H : Heap) (locs : List Loc) (ls : Array Slot) (g : Hg) (a0 : Nat) (x1 : Int32) (x2 : Int32) (x4 : Int32) (x5 : Int32), Mm D cA lo S g s H locs → Rf lo S a0 12 → lv_has ls 7 [(0, .ref a0), (1, .int x1), (2, .int x2), (4, .int x4), (5, .int x5)] → k3 g a0 x1 x2 x4 x5 = some (rv, g1) → W p l e R s m args below meth c H locs 0 0 (MQ below (Qcx D cA lo S none S g1 True) args s 0 0 (fun q : Nat => lo ≤ q)) (F0 m 3 ls [])) : ∀ (H : Heap) (locs : List Loc) (ls : Array Slot) (g : Hg) (a0 : Nat) (x1 : Int32) (x2 : Int32) (x4 : Int32) (x5 : Int32), Mm D cA lo S g s H locs → Rf lo S a0 12 → lv_has ls 7 [(0, .ref a0), (1, .int x1), (2, .int x2), (4, .int x4), (5, .int x5)] → b_X12_stepLog_3 N S k3 g a0 x1 x2 x4 x5 = some (rv, g1) → W p l e R s m args below meth c H locs 0 0 (MQ below (Qcx D cA lo S none S g1 True) args s 0 0 (fun q : Nat => lo ≤ q)) (F0 m 3 ls []) := by
  intro H locs ls g a0 x1 x2 x4 x5 M ra0 hl q
  unfold b_X12_stepLog_3 at q
  refine lv_iload hx hb dX12_stepLog_3 (lv_at hl 4 rfl) ?_
  refine lv_iload hx hb dX12_stepLog_5 (lv_at hl 3 rfl) ?_
  refine lv_icmp_ge (tgt := 54) hx hb dX12_stepLog_7 (by decide) (fun c_1 => ?_) (fun c_1 => ?_)
  · replace q := if_t c_1 q
    cases q
    exact x_vret hx hb hr hlk M Ext.rf dX12_stepLog_54
  · replace q := if_f c_1 q
    refine lv_iload hx hb dX12_stepLog_10 (lv_at hl 4 rfl) ?_
    refine lv_iload hx hb dX12_stepLog_12 (lv_at hl 3 rfl) ?_
    replace q := c2_s q
    obtain ⟨x_3, g_2, qc, q⟩ := q
    refine x_callS hx hb hml hl.1 hown hX M (S1 := S) (As := [.int x5, .int x4]) (rest := []) kw_1309 mok_X12_blockAt (c_X12_blockAt  qc (Nat.le_refl 1)) kw_1308 rfl rfl dX12_stepLog_14 (Nat.le_of_ble_eq_true rfl) ⟨Nat.le_trans (by decide) hRf, Nat.le_trans (by decide) hRl⟩ (Nat.zero_le _) (Nat.zero_le _) (fun H locs M hEF => ?_)
    refine lv_istore (lv' := [(6, .int x_3), (0, .ref a0), (1, .int x1), (2, .int x2), (4, .int x4), (5, .int x5)]) hx hb dX12_stepLog_17 hl (by decide) rfl (fun ls hl => ?_)
    refine lv_aload_n hx hb dX12_stepLog_19 rfl (lv_at hl 1 rfl) ?_
    refine lv_iload_n hx hb dX12_stepLog_20 rfl (lv_at hl 3 rfl) ?_
    refine lv_iload hx hb dX12_stepLog_21 (lv_at hl 5 rfl) ?_
    refine lv_iload hx hb dX12_stepLog_23 (lv_at hl 0 rfl) ?_
    refine lv_iconst (v := 0) hx hb dX12_stepLog_25 (by decide) ?_
    refine lv_aload_n hx hb dX12_stepLog_26 rfl (lv_at hl 1 rfl) ?_
    replace q := nn_s q
    obtain ⟨a_4, e_a_4, q⟩ := q
    refine x_getR hx hb hown hX M e_a_4 okX12 ra0 (by decide) rfl kw_1063 dX12_stepLog_27 (fun ra_4 => ?_)
    refine lv_iconst (v := 0) hx hb dX12_stepLog_30 (by decide) ?_
    replace q := c2_s q
    obtain ⟨u_6, g_5, qc, q⟩ := q
    refine x_callV hx hb hml hl.1 hown hX M (S1 := S) (As := [.int x2, .int x5, .int x_3, .int (0 : Int32), .ref a_4, .int (0 : Int32)]) (rest := []) okX12 ra0 rfl kw_1313 kw_28 mok_X12_blockSum (c_X12_blockSum ra0 ra_4 qc (Nat.le_refl 304)) kw_1311 rfl rfl dX12_stepLog_31 (Nat.le_of_ble_eq_true rfl) ⟨Nat.le_trans (by decide) hRf, Nat.le_trans (by decide) hRl⟩ (Nat.zero_le _) (Nat.zero_le _) (fun H locs M hEF => ?_)
    refine lv_aload_n hx hb dX12_stepLog_34 rfl (lv_at hl 1 rfl) ?_
    refine lv_iload_n hx hb dX12_stepLog_35 rfl (lv_at hl 2 rfl) ?_
    refine lv_aload_n hx hb dX12_stepLog_36 rfl (lv_at hl 1 rfl) ?_
    replace q := nn_s q
    obtain ⟨a_7, e_a_7, q⟩ := q
    refine x_getR hx hb hown hX M e_a_7 okX12 ra0 (by decide) rfl kw_1063 dX12_stepLog_37 (fun ra_7 => ?_)
    refine lv_iconst (v := 0) hx hb dX12_stepLog_40 (by decide) ?_
    replace q := c2_s q
    obtain ⟨u_9, g_8, qc, q⟩ := q
    refine x_callV hx hb hml hl.1 hown hX M (S1 := S) (As := [.int x1, .ref a_7, .int (0 : Int32)]) (rest := []) okX12 ra0 rfl kw_1369 kw_40 mok_X12_step (c_X12_step ra0 ra_7 qc (Nat.le_refl 1)) kw_1367 rfl rfl dX12_stepLog_41 (Nat.le_of_ble_eq_true rfl) ⟨Nat.le_trans (by decide) hRf, Nat.le_trans (by decide) hRl⟩ (Nat.zero_le _) (Nat.zero_le _) (fun H locs M hEF => ?_)
    refine lv_iload hx hb dX12_stepLog_44 (lv_at hl 5 rfl) ?_
    refine lv_iload hx hb dX12_stepLog_46 (lv_at hl 0 rfl) ?_
    refine lv_iadd hx hb dX12_stepLog_48 ?_
    refine lv_topi (fun x_10 e_x_10 => ?_)
    replace q := nm_s q e_x_10
    refine lv_istore (lv' := [(5, .int x_10), (6, .int x_3), (0, .ref a0), (1, .int x1), (2, .int x2), (4, .int x4)]) hx hb dX12_stepLog_49 hl (by decide) rfl (fun ls hl => ?_)
    refine lv_goto (tgt := 3) hx hb dX12_stepLog_51 (by decide) ?_
    exact hk3 _ _ _ _ _ _ _ _ _ M ra0 (lv_sub hl [2, 3, 4, 5, 0] rfl) q
set_option maxRecDepth 100000 in
theorem l_X12_stepLog_3 (hx : p.tables.exec = Jvm.exec) (hb : c.code = cX12_stepLog) (hml : c.maxLocals = 7) (hr : meth.sig.returnType = none) (hlk : meth.locks = false) (hown : s.vm.findClass RX12 = some m.cls) (hX : Kx D cA lo tS s) (hRf : 305 ≤ R.frames) (hRl : 18300 ≤ R.locals) {N : Nat} {rv : Unit} {g1 : Hg} {S : Hs} : ∀ (n : Nat), ∀ (H : Heap) (locs : List Loc) (ls : Array Slot) (g : Hg) (a0 : Nat) (x1 : Int32) (x2 : Int32) (x4 : Int32) (x5 : Int32), Mm D cA lo S g s H locs → Rf lo S a0 12 → lv_has ls 7 [(0, .ref a0), (1, .int x1), (2, .int x2), (4, .int x4), (5, .int x5)] → n_X12_stepLog_3 N S n g a0 x1 x2 x4 x5 = some (rv, g1) → W p l e R s m args below meth c H locs 0 0 (MQ below (Qcx D cA lo S none S g1 True) args s 0 0 (fun q : Nat => lo ≤ q)) (F0 m 3 ls []) := by
  intro n
  induction n with
  | zero =>
    intro H locs ls g a0 x1 x2 x4 x5 M ra0 hl q
    exact absurd q (by simp [n_X12_stepLog_3])
  | succ n ih => exact w_X12_stepLog_3 hx hb hml hr hlk hown hX hRf hRl (N := N)  ih
set_option maxHeartbeats 4000000 in
set_option maxRecDepth 100000 in
theorem w_X12_stepLog_0 (hx : p.tables.exec = Jvm.exec) (hb : c.code = cX12_stepLog) (hml : c.maxLocals = 7) (hr : meth.sig.returnType = none) (hlk : meth.locks = false) (hown : s.vm.findClass RX12 = some m.cls) (hX : Kx D cA lo tS s) (hRf : 305 ≤ R.frames) (hRl : 18300 ≤ R.locals) {N : Nat} {rv : Unit} {g1 : Hg} {S : Hs} : ∀ (H : Heap) (locs : List Loc) (ls : Array Slot) (g : Hg) (a0 : Nat) (x1 : Int32) (x2 : Int32) (x3 : Int32) (x4 : Int32), Mm D cA lo S g s H locs → Rf lo S a0 12 → lv_has ls 7 [(0, .ref a0), (1, .int x1), (2, .int x2), (3, .int x3), (4, .int x4)] → b_X12_stepLog_0 N S g a0 x1 x2 x3 x4 = some (rv, g1) → W p l e R s m args below meth c H locs 0 0 (MQ below (Qcx D cA lo S none S g1 True) args s 0 0 (fun q : Nat => lo ≤ q)) (F0 m 0 ls []) := by
  intro H locs ls g a0 x1 x2 x3 x4 M ra0 hl q
  unfold b_X12_stepLog_0 at q
  refine lv_iload_n hx hb dX12_stepLog_0 rfl (lv_at hl 3 rfl) ?_
  refine lv_istore (lv' := [(5, .int x3), (0, .ref a0), (1, .int x1), (2, .int x2), (3, .int x3), (4, .int x4)]) hx hb dX12_stepLog_1 hl (by decide) rfl (fun ls hl => ?_)
  exact l_X12_stepLog_3 hx hb hml hr hlk hown hX hRf hRl (N := N)  N _ _ _ _ _ _ _ _ _ M ra0 (lv_sub hl [1, 2, 3, 5, 0] rfl) q
set_option maxRecDepth 100000 in
theorem c_X12_stepLog {l : Launch} {D : va_G} {cA : Nat → ClassId} {lo tS N : Nat} {S : Hs} {g g1 : Hg} {rv : Unit} {a0 : Nat} {x1 : Int32} {x2 : Int32} {x3 : Int32} {x4 : Int32} (ra0 : Rf lo S a0 12) (q : f_X12_stepLog N S g a0 x1 x2 x3 x4 = some (rv, g1)) {d : Nat} (hd : 305 ≤ d) : Ctr l yX12_stepLog cX12_stepLog 7 none D cA lo tS [.ref a0, .int x1, .int x2, .int x3, .int x4] S g d none S g1 True 0 0 := by
  refine x_met (by decide) (Nat.le_of_ble_eq_true rfl) ?_
  intro p e s m below meth c ls hx hb hml hr hlk hown hnm hX M hl
  exact w_X12_stepLog_0 hx hb hml hr hlk hown hX hd (Nat.mul_le_mul_left 60 hd) (N := N) _ _ _ _ _ _ _ _ _ M ra0 (lv_sub hl [0, 1, 2, 3, 4] rfl) q
def b_X12_grown_0 (N : Nat) (S : Hs) (g : Hg) (a0 : Nat) (x1 : Int32) (x2 : Int32) (x3 : Int32) (x4 : Int32) : Option (Int32 × Hg) :=
c2 (f_X12_isSlot N S g a0 x1) (fun x_2 g_1 =>
if x_2 = 0 then (
some ((-1 : Int32), g_1)) else (
c2 (f_X12_isCount N S g_1 a0 x2 x4) (fun x_5 g_4 =>
if x_5 = 0 then (
some ((-1 : Int32), g_4)) else (
if x3 < 0 then (
some ((-1 : Int32), g_4)) else (
if x3 ≤ x4 then (
c2 (f_X12_begin N S g_4 a0 x1 (2 : Int32) x4 x3 (0 : Int32)) (fun u_10 g_9 =>
c2 (f_X12_stepLog N S g_9 a0 x1 x2 (0 : Int32) x3) (fun u_12 g_11 =>
c2 (f_X12_stepLog N S g_11 a0 x1 x2 x3 x4) (fun u_14 g_13 =>
nn (rdR g_13 a0 9) (fun a_15 =>
ck (inb (((8 : Int32) * x1) + (1 : Int32)) (hpL S a_15)) (
some ((rdI g_13 a_15 (((8 : Int32) * x1) + (1 : Int32)).toNatClampNeg), g_13))))))) else (
some ((-1 : Int32), g_4)))))))
def f_X12_grown (N : Nat) (S : Hs) (g : Hg) (a0 : Nat) (x1 : Int32) (x2 : Int32) (x3 : Int32) (x4 : Int32) : Option (Int32 × Hg) := b_X12_grown_0 N S g a0 x1 x2 x3 x4
set_option maxHeartbeats 4000000 in
set_option maxRecDepth 100000 in
theorem w_X12_grown_0 (hx : p.tables.exec = Jvm.exec) (hb : c.code = cX12_grown) (hml : c.maxLocals = 5) (hr : meth.sig.returnType = (some .int)) (hlk : meth.locks = false) (hown : s.vm.findClass RX12 = some m.cls) (hX : Kx D cA lo tS s) (hRf : 306 ≤ R.frames) (hRl : 18360 ≤ R.locals) {N : Nat} {rv : Int32} {g1 : Hg} {S : Hs} : ∀ (H : Heap) (locs : List Loc) (ls : Array Slot) (g : Hg) (a0 : Nat) (x1 : Int32) (x2 : Int32) (x3 : Int32) (x4 : Int32), Mm D cA lo S g s H locs → Rf lo S a0 12 → lv_has ls 5 [(0, .ref a0), (1, .int x1), (2, .int x2), (3, .int x3), (4, .int x4)] → b_X12_grown_0 N S g a0 x1 x2 x3 x4 = some (rv, g1) → W p l e R s m args below meth c H locs 0 0 (MQ below (Qcx D cA lo S (some (.int rv)) S g1 True) args s 0 0 (fun q : Nat => lo ≤ q)) (F0 m 0 ls []) := by
  intro H locs ls g a0 x1 x2 x3 x4 M ra0 hl q
  unfold b_X12_grown_0 at q
  refine lv_aload_n hx hb dX12_grown_0 rfl (lv_at hl 0 rfl) ?_
  refine lv_iload_n hx hb dX12_grown_1 rfl (lv_at hl 1 rfl) ?_
  replace q := c2_s q
  obtain ⟨x_2, g_1, qc, q⟩ := q
  refine x_callV hx hb hml hl.1 hown hX M (S1 := S) (As := [.int x1]) (rest := []) okX12 ra0 rfl kw_1357 kw_37 mok_X12_isSlot (c_X12_isSlot ra0 qc (Nat.le_refl 1)) kw_1355 rfl rfl dX12_grown_2 (Nat.le_of_ble_eq_true rfl) ⟨Nat.le_trans (by decide) hRf, Nat.le_trans (by decide) hRl⟩ (Nat.zero_le _) (Nat.zero_le _) (fun H locs M hEF => ?_)
  refine lv_if_eq (tgt := 28) hx hb dX12_grown_5 (by decide) (fun c_3 => ?_) (fun c_3 => ?_)
  · replace q := if_t c_3 q
    refine lv_iconst (v := -1) hx hb dX12_grown_28 (by decide) ?_
    cases q
    exact x_iret hx hb hr hlk M Ext.rf dX12_grown_29
  · replace q := if_f c_3 q
    refine lv_aload_n hx hb dX12_grown_8 rfl (lv_at hl 0 rfl) ?_
    refine lv_iload_n hx hb dX12_grown_9 rfl (lv_at hl 2 rfl) ?_
    refine lv_iload hx hb dX12_grown_10 (lv_at hl 4 rfl) ?_
    replace q := c2_s q
    obtain ⟨x_5, g_4, qc, q⟩ := q
    refine x_callV hx hb hml hl.1 hown hX M (S1 := S) (As := [.int x2, .int x4]) (rest := []) okX12 ra0 rfl kw_1233 kw_16 mok_X12_isCount (c_X12_isCount ra0 qc (Nat.le_refl 2)) kw_1231 rfl rfl dX12_grown_12 (Nat.le_of_ble_eq_true rfl) ⟨Nat.le_trans (by decide) hRf, Nat.le_trans (by decide) hRl⟩ (Nat.zero_le _) (Nat.zero_le _) (fun H locs M hEF => ?_)
    refine lv_if_eq (tgt := 28) hx hb dX12_grown_15 (by decide) (fun c_6 => ?_) (fun c_6 => ?_)
    · replace q := if_t c_6 q
      refine lv_iconst (v := -1) hx hb dX12_grown_28 (by decide) ?_
      cases q
      exact x_iret hx hb hr hlk M Ext.rf dX12_grown_29
    · replace q := if_f c_6 q
      refine lv_iload_n hx hb dX12_grown_18 rfl (lv_at hl 3 rfl) ?_
      refine lv_if_lt (tgt := 28) hx hb dX12_grown_19 (by decide) (fun c_7 => ?_) (fun c_7 => ?_)
      · replace q := if_t c_7 q
        refine lv_iconst (v := -1) hx hb dX12_grown_28 (by decide) ?_
        cases q
        exact x_iret hx hb hr hlk M Ext.rf dX12_grown_29
      · replace q := if_f c_7 q
        refine lv_iload_n hx hb dX12_grown_22 rfl (lv_at hl 3 rfl) ?_
        refine lv_iload hx hb dX12_grown_23 (lv_at hl 4 rfl) ?_
        refine lv_icmp_le (tgt := 30) hx hb dX12_grown_25 (by decide) (fun c_8 => ?_) (fun c_8 => ?_)
        · replace q := if_t c_8 q
          refine lv_aload_n hx hb dX12_grown_30 rfl (lv_at hl 0 rfl) ?_
          refine lv_iload_n hx hb dX12_grown_31 rfl (lv_at hl 1 rfl) ?_
          refine lv_iconst (v := 2) hx hb dX12_grown_32 (by decide) ?_
          refine lv_iload hx hb dX12_grown_33 (lv_at hl 4 rfl) ?_
          refine lv_iload_n hx hb dX12_grown_35 rfl (lv_at hl 3 rfl) ?_
          refine lv_iconst (v := 0) hx hb dX12_grown_36 (by decide) ?_
          replace q := c2_s q
          obtain ⟨u_10, g_9, qc, q⟩ := q
          refine x_callV hx hb hml hl.1 hown hX M (S1 := S) (As := [.int x1, .int (2 : Int32), .int x4, .int x3, .int (0 : Int32)]) (rest := []) okX12 ra0 rfl kw_1361 kw_38 mok_X12_begin (c_X12_begin ra0 qc (Nat.le_refl 1)) kw_1359 rfl rfl dX12_grown_37 (Nat.le_of_ble_eq_true rfl) ⟨Nat.le_trans (by decide) hRf, Nat.le_trans (by decide) hRl⟩ (Nat.zero_le _) (Nat.zero_le _) (fun H locs M hEF => ?_)
          refine lv_aload_n hx hb dX12_grown_40 rfl (lv_at hl 0 rfl) ?_
          refine lv_iload_n hx hb dX12_grown_41 rfl (lv_at hl 1 rfl) ?_
          refine lv_iload_n hx hb dX12_grown_42 rfl (lv_at hl 2 rfl) ?_
          refine lv_iconst (v := 0) hx hb dX12_grown_43 (by decide) ?_
          refine lv_iload_n hx hb dX12_grown_44 rfl (lv_at hl 3 rfl) ?_
          replace q := c2_s q
          obtain ⟨u_12, g_11, qc, q⟩ := q
          refine x_callV hx hb hml hl.1 hown hX M (S1 := S) (As := [.int x1, .int x2, .int (0 : Int32), .int x3]) (rest := []) okX12 ra0 rfl kw_1365 kw_39 mok_X12_stepLog (c_X12_stepLog ra0 qc (Nat.le_refl 305)) kw_1363 rfl rfl dX12_grown_45 (Nat.le_of_ble_eq_true rfl) ⟨Nat.le_trans (by decide) hRf, Nat.le_trans (by decide) hRl⟩ (Nat.zero_le _) (Nat.zero_le _) (fun H locs M hEF => ?_)
          refine lv_aload_n hx hb dX12_grown_48 rfl (lv_at hl 0 rfl) ?_
          refine lv_iload_n hx hb dX12_grown_49 rfl (lv_at hl 1 rfl) ?_
          refine lv_iload_n hx hb dX12_grown_50 rfl (lv_at hl 2 rfl) ?_
          refine lv_iload_n hx hb dX12_grown_51 rfl (lv_at hl 3 rfl) ?_
          refine lv_iload hx hb dX12_grown_52 (lv_at hl 4 rfl) ?_
          replace q := c2_s q
          obtain ⟨u_14, g_13, qc, q⟩ := q
          refine x_callV hx hb hml hl.1 hown hX M (S1 := S) (As := [.int x1, .int x2, .int x3, .int x4]) (rest := []) okX12 ra0 rfl kw_1365 kw_39 mok_X12_stepLog (c_X12_stepLog ra0 qc (Nat.le_refl 305)) kw_1363 rfl rfl dX12_grown_54 (Nat.le_of_ble_eq_true rfl) ⟨Nat.le_trans (by decide) hRf, Nat.le_trans (by decide) hRl⟩ (Nat.zero_le _) (Nat.zero_le _) (fun H locs M hEF => ?_)
          refine lv_aload_n hx hb dX12_grown_57 rfl (lv_at hl 0 rfl) ?_
          replace q := nn_s q
          obtain ⟨a_15, e_a_15, q⟩ := q
          refine x_getR hx hb hown hX M e_a_15 okX12 ra0 (by decide) rfl kw_1021 dX12_grown_58 (fun ra_15 => ?_)
          refine lv_bipush (v := 8) hx hb dX12_grown_61 (by decide) ?_
          refine lv_iload_n hx hb dX12_grown_63 rfl (lv_at hl 1 rfl) ?_
          refine lv_imul hx hb dX12_grown_64 ?_
          refine lv_iconst (v := 1) hx hb dX12_grown_65 (by decide) ?_
          refine lv_iadd hx hb dX12_grown_66 ?_
          replace q := ck_s q
          obtain ⟨hin, q⟩ := q
          refine x_iald hx hb hX M ra_15 (inb_in hin) dX12_grown_67 ?_
          cases q
          exact x_iret hx hb hr hlk M Ext.rf dX12_grown_68
        · replace q := if_f c_8 q
          refine lv_iconst (v := -1) hx hb dX12_grown_28 (by decide) ?_
          cases q
          exact x_iret hx hb hr hlk M Ext.rf dX12_grown_29
set_option maxRecDepth 100000 in
theorem c_X12_grown {l : Launch} {D : va_G} {cA : Nat → ClassId} {lo tS N : Nat} {S : Hs} {g g1 : Hg} {rv : Int32} {a0 : Nat} {x1 : Int32} {x2 : Int32} {x3 : Int32} {x4 : Int32} (ra0 : Rf lo S a0 12) (q : f_X12_grown N S g a0 x1 x2 x3 x4 = some (rv, g1)) {d : Nat} (hd : 306 ≤ d) : Ctr l yX12_grown cX12_grown 5 (some .int) D cA lo tS [.ref a0, .int x1, .int x2, .int x3, .int x4] S g d (some (.int rv)) S g1 True 0 0 := by
  refine x_met (by decide) (Nat.le_of_ble_eq_true rfl) ?_
  intro p e s m below meth c ls hx hb hml hr hlk hown hnm hX M hl
  exact w_X12_grown_0 hx hb hml hr hlk hown hX hd (Nat.mul_le_mul_left 60 hd) (N := N) _ _ _ _ _ _ _ _ _ M ra0 (lv_sub hl [0, 1, 2, 3, 4] rfl) q
def b_X12_layLog_3 (N : Nat) (S : Hs) (k3 : Hg → Nat → Int32 → Int32 → Int32 → Option (Unit × Hg)) (g : Hg) (a0 : Nat) (x1 : Int32) (x3 : Int32) (x4 : Int32) : Option (Unit × Hg) :=
if x3 ≤ x4 then (
some ((), g)) else (
c2 (f_X12_blockAt N S g x4 x3) (fun x_3 g_2 =>
nn (rdR g_2 a0 51) (fun a_4 =>
c2 (f_X12_blockSum N S 300 g_2 a0 x1 x4 x_3 (0 : Int32) a_4 (0 : Int32)) (fun u_6 g_5 =>
nn (rdR g_5 a0 51) (fun a_7 =>
c2 (f_X12_lay N S g_5 a0 x4 x_3 a_7 (0 : Int32)) (fun u_9 g_8 =>
nm (x4 + x_3) (fun x_10 =>
k3 g_8 a0 x1 x3 x_10)))))))
def n_X12_layLog_3 (N : Nat) (S : Hs) : Nat → Hg → Nat → Int32 → Int32 → Int32 → Option (Unit × Hg)
  | 0 => fun _ _ _ _ _ => none
  | n + 1 => fun g a0 x1 x3 x4 => b_X12_layLog_3 N S (n_X12_layLog_3 N S n) g a0 x1 x3 x4
def b_X12_layLog_0 (N : Nat) (S : Hs) (g : Hg) (a0 : Nat) (x1 : Int32) (x2 : Int32) (x3 : Int32) : Option (Unit × Hg) :=
n_X12_layLog_3 N S N g a0 x1 x3 x2
def f_X12_layLog (N : Nat) (S : Hs) (g : Hg) (a0 : Nat) (x1 : Int32) (x2 : Int32) (x3 : Int32) : Option (Unit × Hg) := b_X12_layLog_0 N S g a0 x1 x2 x3
set_option maxHeartbeats 4000000 in
set_option maxRecDepth 100000 in
theorem w_X12_layLog_3 (hx : p.tables.exec = Jvm.exec) (hb : c.code = cX12_layLog) (hml : c.maxLocals = 6) (hr : meth.sig.returnType = none) (hlk : meth.locks = false) (hown : s.vm.findClass RX12 = some m.cls) (hX : Kx D cA lo tS s) (hRf : 305 ≤ R.frames) (hRl : 18300 ≤ R.locals) {N : Nat} {rv : Unit} {g1 : Hg} {S : Hs} {k3 : Hg → Nat → Int32 → Int32 → Int32 → Option (Unit × Hg)} (hk3 : ∀ (H : Heap) (locs : List Loc) (ls : Array Slot) (g : Hg) (a0 : Nat) (x1 : Int32) (x3 : Int32) (x4 : Int32), Mm D cA lo S g s H locs → Rf lo S a0 12 → lv_has ls 6 [(0, .ref a0), (1, .int x1), (3, .int x3), (4, .int x4)] → k3 g a0 x1 x3 x4 = some (rv, g1) → W p l e R s m args below meth c H locs 0 0 (MQ below (Qcx D cA lo S none S g1 True) args s 0 0 (fun q : Nat => lo ≤ q)) (F0 m 3 ls [])) : ∀ (H : Heap) (locs : List Loc) (ls : Array Slot) (g : Hg) (a0 : Nat) (x1 : Int32) (x3 : Int32) (x4 : Int32), Mm D cA lo S g s H locs → Rf lo S a0 12 → lv_has ls 6 [(0, .ref a0), (1, .int x1), (3, .int x3), (4, .int x4)] → b_X12_layLog_3 N S k3 g a0 x1 x3 x4 = some (rv, g1) → W p l e R s m args below meth c H locs 0 0 (MQ below (Qcx D cA lo S none S g1 True) args s 0 0 (fun q : Nat => lo ≤ q)) (F0 m 3 ls []) := by
  intro H locs ls g a0 x1 x3 x4 M ra0 hl q
  unfold b_X12_layLog_3 at q
  refine lv_iload hx hb dX12_layLog_3 (lv_at hl 3 rfl) ?_
  refine lv_iload_n hx hb dX12_layLog_5 rfl (lv_at hl 2 rfl) ?_
  refine lv_icmp_ge (tgt := 55) hx hb dX12_layLog_6 (by decide) (fun c_1 => ?_) (fun c_1 => ?_)
  · replace q := if_t c_1 q
    cases q
    exact x_vret hx hb hr hlk M Ext.rf dX12_layLog_55
  · replace q := if_f c_1 q
    refine lv_iload hx hb dX12_layLog_9 (lv_at hl 3 rfl) ?_
    refine lv_iload_n hx hb dX12_layLog_11 rfl (lv_at hl 2 rfl) ?_
    replace q := c2_s q
    obtain ⟨x_3, g_2, qc, q⟩ := q
    refine x_callS hx hb hml hl.1 hown hX M (S1 := S) (As := [.int x4, .int x3]) (rest := []) kw_1309 mok_X12_blockAt (c_X12_blockAt  qc (Nat.le_refl 1)) kw_1308 rfl rfl dX12_layLog_12 (Nat.le_of_ble_eq_true rfl) ⟨Nat.le_trans (by decide) hRf, Nat.le_trans (by decide) hRl⟩ (Nat.zero_le _) (Nat.zero_le _) (fun H locs M hEF => ?_)
    refine lv_istore (lv' := [(5, .int x_3), (0, .ref a0), (1, .int x1), (3, .int x3), (4, .int x4)]) hx hb dX12_layLog_15 hl (by decide) rfl (fun ls hl => ?_)
    refine lv_aload_n hx hb dX12_layLog_17 rfl (lv_at hl 1 rfl) ?_
    refine lv_iload_n hx hb dX12_layLog_18 rfl (lv_at hl 2 rfl) ?_
    refine lv_iload hx hb dX12_layLog_19 (lv_at hl 4 rfl) ?_
    refine lv_iload hx hb dX12_layLog_21 (lv_at hl 0 rfl) ?_
    refine lv_iconst (v := 0) hx hb dX12_layLog_23 (by decide) ?_
    refine lv_aload_n hx hb dX12_layLog_24 rfl (lv_at hl 1 rfl) ?_
    replace q := nn_s q
    obtain ⟨a_4, e_a_4, q⟩ := q
    refine x_getR hx hb hown hX M e_a_4 okX12 ra0 (by decide) rfl kw_1063 dX12_layLog_25 (fun ra_4 => ?_)
    refine lv_iconst (v := 0) hx hb dX12_layLog_28 (by decide) ?_
    replace q := c2_s q
    obtain ⟨u_6, g_5, qc, q⟩ := q
    refine x_callV hx hb hml hl.1 hown hX M (S1 := S) (As := [.int x1, .int x4, .int x_3, .int (0 : Int32), .ref a_4, .int (0 : Int32)]) (rest := []) okX12 ra0 rfl kw_1313 kw_28 mok_X12_blockSum (c_X12_blockSum ra0 ra_4 qc (Nat.le_refl 304)) kw_1311 rfl rfl dX12_layLog_29 (Nat.le_of_ble_eq_true rfl) ⟨Nat.le_trans (by decide) hRf, Nat.le_trans (by decide) hRl⟩ (Nat.zero_le _) (Nat.zero_le _) (fun H locs M hEF => ?_)
    refine lv_aload_n hx hb dX12_layLog_32 rfl (lv_at hl 1 rfl) ?_
    refine lv_iload hx hb dX12_layLog_33 (lv_at hl 4 rfl) ?_
    refine lv_iload hx hb dX12_layLog_35 (lv_at hl 0 rfl) ?_
    refine lv_aload_n hx hb dX12_layLog_37 rfl (lv_at hl 1 rfl) ?_
    replace q := nn_s q
    obtain ⟨a_7, e_a_7, q⟩ := q
    refine x_getR hx hb hown hX M e_a_7 okX12 ra0 (by decide) rfl kw_1063 dX12_layLog_38 (fun ra_7 => ?_)
    refine lv_iconst (v := 0) hx hb dX12_layLog_41 (by decide) ?_
    replace q := c2_s q
    obtain ⟨u_9, g_8, qc, q⟩ := q
    refine x_callV hx hb hml hl.1 hown hX M (S1 := S) (As := [.int x4, .int x_3, .ref a_7, .int (0 : Int32)]) (rest := []) okX12 ra0 rfl kw_1325 kw_31 mok_X12_lay (c_X12_lay ra0 ra_7 qc (Nat.le_refl 4)) kw_1323 rfl rfl dX12_layLog_42 (Nat.le_of_ble_eq_true rfl) ⟨Nat.le_trans (by decide) hRf, Nat.le_trans (by decide) hRl⟩ (Nat.zero_le _) (Nat.zero_le _) (fun H locs M hEF => ?_)
    refine lv_iload hx hb dX12_layLog_45 (lv_at hl 4 rfl) ?_
    refine lv_iload hx hb dX12_layLog_47 (lv_at hl 0 rfl) ?_
    refine lv_iadd hx hb dX12_layLog_49 ?_
    refine lv_topi (fun x_10 e_x_10 => ?_)
    replace q := nm_s q e_x_10
    refine lv_istore (lv' := [(4, .int x_10), (5, .int x_3), (0, .ref a0), (1, .int x1), (3, .int x3)]) hx hb dX12_layLog_50 hl (by decide) rfl (fun ls hl => ?_)
    refine lv_goto (tgt := 3) hx hb dX12_layLog_52 (by decide) ?_
    exact hk3 _ _ _ _ _ _ _ _ M ra0 (lv_sub hl [2, 3, 4, 0] rfl) q
set_option maxRecDepth 100000 in
theorem l_X12_layLog_3 (hx : p.tables.exec = Jvm.exec) (hb : c.code = cX12_layLog) (hml : c.maxLocals = 6) (hr : meth.sig.returnType = none) (hlk : meth.locks = false) (hown : s.vm.findClass RX12 = some m.cls) (hX : Kx D cA lo tS s) (hRf : 305 ≤ R.frames) (hRl : 18300 ≤ R.locals) {N : Nat} {rv : Unit} {g1 : Hg} {S : Hs} : ∀ (n : Nat), ∀ (H : Heap) (locs : List Loc) (ls : Array Slot) (g : Hg) (a0 : Nat) (x1 : Int32) (x3 : Int32) (x4 : Int32), Mm D cA lo S g s H locs → Rf lo S a0 12 → lv_has ls 6 [(0, .ref a0), (1, .int x1), (3, .int x3), (4, .int x4)] → n_X12_layLog_3 N S n g a0 x1 x3 x4 = some (rv, g1) → W p l e R s m args below meth c H locs 0 0 (MQ below (Qcx D cA lo S none S g1 True) args s 0 0 (fun q : Nat => lo ≤ q)) (F0 m 3 ls []) := by
  intro n
  induction n with
  | zero =>
    intro H locs ls g a0 x1 x3 x4 M ra0 hl q
    exact absurd q (by simp [n_X12_layLog_3])
  | succ n ih => exact w_X12_layLog_3 hx hb hml hr hlk hown hX hRf hRl (N := N)  ih
set_option maxHeartbeats 4000000 in
set_option maxRecDepth 100000 in
theorem w_X12_layLog_0 (hx : p.tables.exec = Jvm.exec) (hb : c.code = cX12_layLog) (hml : c.maxLocals = 6) (hr : meth.sig.returnType = none) (hlk : meth.locks = false) (hown : s.vm.findClass RX12 = some m.cls) (hX : Kx D cA lo tS s) (hRf : 305 ≤ R.frames) (hRl : 18300 ≤ R.locals) {N : Nat} {rv : Unit} {g1 : Hg} {S : Hs} : ∀ (H : Heap) (locs : List Loc) (ls : Array Slot) (g : Hg) (a0 : Nat) (x1 : Int32) (x2 : Int32) (x3 : Int32), Mm D cA lo S g s H locs → Rf lo S a0 12 → lv_has ls 6 [(0, .ref a0), (1, .int x1), (2, .int x2), (3, .int x3)] → b_X12_layLog_0 N S g a0 x1 x2 x3 = some (rv, g1) → W p l e R s m args below meth c H locs 0 0 (MQ below (Qcx D cA lo S none S g1 True) args s 0 0 (fun q : Nat => lo ≤ q)) (F0 m 0 ls []) := by
  intro H locs ls g a0 x1 x2 x3 M ra0 hl q
  unfold b_X12_layLog_0 at q
  refine lv_iload_n hx hb dX12_layLog_0 rfl (lv_at hl 2 rfl) ?_
  refine lv_istore (lv' := [(4, .int x2), (0, .ref a0), (1, .int x1), (2, .int x2), (3, .int x3)]) hx hb dX12_layLog_1 hl (by decide) rfl (fun ls hl => ?_)
  exact l_X12_layLog_3 hx hb hml hr hlk hown hX hRf hRl (N := N)  N _ _ _ _ _ _ _ _ M ra0 (lv_sub hl [1, 2, 4, 0] rfl) q
set_option maxRecDepth 100000 in
theorem c_X12_layLog {l : Launch} {D : va_G} {cA : Nat → ClassId} {lo tS N : Nat} {S : Hs} {g g1 : Hg} {rv : Unit} {a0 : Nat} {x1 : Int32} {x2 : Int32} {x3 : Int32} (ra0 : Rf lo S a0 12) (q : f_X12_layLog N S g a0 x1 x2 x3 = some (rv, g1)) {d : Nat} (hd : 305 ≤ d) : Ctr l yX12_layLog cX12_layLog 6 none D cA lo tS [.ref a0, .int x1, .int x2, .int x3] S g d none S g1 True 0 0 := by
  refine x_met (by decide) (Nat.le_of_ble_eq_true rfl) ?_
  intro p e s m below meth c ls hx hb hml hr hlk hown hnm hX M hl
  exact w_X12_layLog_0 hx hb hml hr hlk hown hX hd (Nat.mul_le_mul_left 60 hd) (N := N) _ _ _ _ _ _ _ _ M ra0 (lv_sub hl [0, 1, 2, 3] rfl) q
def b_X12_head_0 (N : Nat) (S : Hs) (g : Hg) (a0 : Nat) (x1 : Int32) (x2 : Int32) (a3 : Nat) (x4 : Int32) : Option (Unit × Hg) :=
ck (inb x4 (hpL S a3)) (
nm (wrI g a3 x4.toNatClampNeg x2) (fun g_1 =>
ck (inb (x4 + (1 : Int32)) (hpL S a3)) (
nm (wrI g_1 a3 (x4 + (1 : Int32)).toNatClampNeg x1) (fun g_2 =>
nn (rdR g_2 a0 0) (fun a_3 =>
ck (inb ((4 : Int32) * x1) (hpL S a_3)) (
ck (inb (x4 + (2 : Int32)) (hpL S a3)) (
nm (wrI g_2 a3 (x4 + (2 : Int32)).toNatClampNeg (rdI g_2 a_3 ((4 : Int32) * x1).toNatClampNeg)) (fun g_4 =>
nm (wrI g_4 a0 49 (0 : Int32)) (fun g_5 =>
c2 (f_X12_layLog N S g_5 a0 x1 (0 : Int32) x2) (fun u_7 g_6 =>
c2 (f_X12_top N S g_6 a0 a3 (x4 + (4 : Int32))) (fun u_9 g_8 =>
c2 (f_X12_map N S g_8 a0 x1 x2) (fun u_11 g_10 =>
c2 (f_X12_tree N S 300 g_10 a0 (0 : Int32) (rdI g_10 a0 57) (0 : Int32) a3 (x4 + (12 : Int32))) (fun u_13 g_12 =>
nn (rdR g_12 a0 0) (fun a_14 =>
ck (inb ((4 : Int32) * x1) (hpL S a_14)) (
c2 (f_X12_mark N S g_12 a0 (rdI g_12 a_14 ((4 : Int32) * x1).toNatClampNeg) x2 a3 (x4 + (4 : Int32)) (x4 + (12 : Int32))) (fun u_16 g_15 =>
c2 (f_X12_toRow N S g_15 a0 a3 (x4 + (20 : Int32))) (fun u_18 g_17 =>
some ((), g_17))))))))))))))))))
def f_X12_head (N : Nat) (S : Hs) (g : Hg) (a0 : Nat) (x1 : Int32) (x2 : Int32) (a3 : Nat) (x4 : Int32) : Option (Unit × Hg) := b_X12_head_0 N S g a0 x1 x2 a3 x4
set_option maxHeartbeats 4000000 in
set_option maxRecDepth 100000 in
theorem w_X12_head_0 (hx : p.tables.exec = Jvm.exec) (hb : c.code = cX12_head) (hml : c.maxLocals = 5) (hr : meth.sig.returnType = none) (hlk : meth.locks = false) (hown : s.vm.findClass RX12 = some m.cls) (hX : Kx D cA lo tS s) (hRf : 306 ≤ R.frames) (hRl : 18360 ≤ R.locals) {N : Nat} {rv : Unit} {g1 : Hg} {S : Hs} : ∀ (H : Heap) (locs : List Loc) (ls : Array Slot) (g : Hg) (a0 : Nat) (x1 : Int32) (x2 : Int32) (a3 : Nat) (x4 : Int32), Mm D cA lo S g s H locs → Rf lo S a0 12 → Rf lo S a3 20 → lv_has ls 5 [(0, .ref a0), (1, .int x1), (2, .int x2), (3, .ref a3), (4, .int x4)] → b_X12_head_0 N S g a0 x1 x2 a3 x4 = some (rv, g1) → W p l e R s m args below meth c H locs 0 0 (MQ below (Qcx D cA lo S none S g1 True) args s 0 0 (fun q : Nat => lo ≤ q)) (F0 m 0 ls []) := by
  intro H locs ls g a0 x1 x2 a3 x4 M ra0 ra3 hl q
  unfold b_X12_head_0 at q
  refine lv_aload_n hx hb dX12_head_0 rfl (lv_at hl 3 rfl) ?_
  refine lv_iload hx hb dX12_head_1 (lv_at hl 4 rfl) ?_
  refine lv_iload_n hx hb dX12_head_3 rfl (lv_at hl 2 rfl) ?_
  replace q := ck_s q
  obtain ⟨hin, q⟩ := q
  refine x_iast hx hb hX M ra3 (inb_in hin) dX12_head_4 (fun H locs M => ?_)
  replace q := gen_g M q
  obtain ⟨g_1, -, M, q⟩ := q
  refine lv_aload_n hx hb dX12_head_5 rfl (lv_at hl 3 rfl) ?_
  refine lv_iload hx hb dX12_head_6 (lv_at hl 4 rfl) ?_
  refine lv_iconst (v := 1) hx hb dX12_head_8 (by decide) ?_
  refine lv_iadd hx hb dX12_head_9 ?_
  refine lv_iload_n hx hb dX12_head_10 rfl (lv_at hl 1 rfl) ?_
  replace q := ck_s q
  obtain ⟨hin, q⟩ := q
  refine x_iast hx hb hX M ra3 (inb_in hin) dX12_head_11 (fun H locs M => ?_)
  replace q := gen_g M q
  obtain ⟨g_2, -, M, q⟩ := q
  refine lv_aload_n hx hb dX12_head_12 rfl (lv_at hl 3 rfl) ?_
  refine lv_iload hx hb dX12_head_13 (lv_at hl 4 rfl) ?_
  refine lv_iconst (v := 2) hx hb dX12_head_15 (by decide) ?_
  refine lv_iadd hx hb dX12_head_16 ?_
  refine lv_aload_n hx hb dX12_head_17 rfl (lv_at hl 0 rfl) ?_
  replace q := nn_s q
  obtain ⟨a_3, e_a_3, q⟩ := q
  refine x_getR hx hb hown hX M e_a_3 okX12 ra0 (by decide) rfl kw_1012 dX12_head_18 (fun ra_3 => ?_)
  refine lv_iconst (v := 4) hx hb dX12_head_21 (by decide) ?_
  refine lv_iload_n hx hb dX12_head_22 rfl (lv_at hl 1 rfl) ?_
  refine lv_imul hx hb dX12_head_23 ?_
  replace q := ck_s q
  obtain ⟨hin, q⟩ := q
  refine x_iald hx hb hX M ra_3 (inb_in hin) dX12_head_24 ?_
  replace q := ck_s q
  obtain ⟨hin, q⟩ := q
  refine x_iast hx hb hX M ra3 (inb_in hin) dX12_head_25 (fun H locs M => ?_)
  replace q := gen_g M q
  obtain ⟨g_4, -, M, q⟩ := q
  refine lv_aload_n hx hb dX12_head_26 rfl (lv_at hl 0 rfl) ?_
  refine lv_iconst (v := 0) hx hb dX12_head_27 (by decide) ?_
  refine x_putI hx hb hown hX M (k := 49) okX12 ra0 (by decide) rfl (Or.inl rfl) rfl rfl kw_1061 dX12_head_28 (fun H locs M => ?_)
  replace q := gen_g M q
  obtain ⟨g_5, -, M, q⟩ := q
  refine lv_aload_n hx hb dX12_head_31 rfl (lv_at hl 0 rfl) ?_
  refine lv_iload_n hx hb dX12_head_32 rfl (lv_at hl 1 rfl) ?_
  refine lv_iconst (v := 0) hx hb dX12_head_33 (by decide) ?_
  refine lv_iload_n hx hb dX12_head_34 rfl (lv_at hl 2 rfl) ?_
  replace q := c2_s q
  obtain ⟨u_7, g_6, qc, q⟩ := q
  refine x_callV hx hb hml hl.1 hown hX M (S1 := S) (As := [.int x1, .int (0 : Int32), .int x2]) (rest := []) okX12 ra0 rfl kw_1306 kw_27 mok_X12_layLog (c_X12_layLog ra0 qc (Nat.le_refl 305)) kw_1304 rfl rfl dX12_head_35 (Nat.le_of_ble_eq_true rfl) ⟨Nat.le_trans (by decide) hRf, Nat.le_trans (by decide) hRl⟩ (Nat.zero_le _) (Nat.zero_le _) (fun H locs M hEF => ?_)
  refine lv_aload_n hx hb dX12_head_38 rfl (lv_at hl 0 rfl) ?_
  refine lv_aload_n hx hb dX12_head_39 rfl (lv_at hl 3 rfl) ?_
  refine lv_iload hx hb dX12_head_40 (lv_at hl 4 rfl) ?_
  refine lv_iconst (v := 4) hx hb dX12_head_42 (by decide) ?_
  refine lv_iadd hx hb dX12_head_43 ?_
  replace q := c2_s q
  obtain ⟨u_9, g_8, qc, q⟩ := q
  refine x_callV hx hb hml hl.1 hown hX M (S1 := S) (As := [.ref a3, .int (x4 + (4 : Int32))]) (rest := []) okX12 ra0 rfl kw_1329 kw_32 mok_X12_top (c_X12_top ra0 ra3 qc (Nat.le_refl 4)) kw_1327 rfl rfl dX12_head_44 (Nat.le_of_ble_eq_true rfl) ⟨Nat.le_trans (by decide) hRf, Nat.le_trans (by decide) hRl⟩ (Nat.zero_le _) (Nat.zero_le _) (fun H locs M hEF => ?_)
  refine lv_aload_n hx hb dX12_head_47 rfl (lv_at hl 0 rfl) ?_
  refine lv_iload_n hx hb dX12_head_48 rfl (lv_at hl 1 rfl) ?_
  refine lv_iload_n hx hb dX12_head_49 rfl (lv_at hl 2 rfl) ?_
  replace q := c2_s q
  obtain ⟨u_11, g_10, qc, q⟩ := q
  refine x_callV hx hb hml hl.1 hown hX M (S1 := S) (As := [.int x1, .int x2]) (rest := []) okX12 ra0 rfl kw_1265 kw_19 mok_X12_map (c_X12_map ra0 qc (Nat.le_refl 4)) kw_1263 rfl rfl dX12_head_50 (Nat.le_of_ble_eq_true rfl) ⟨Nat.le_trans (by decide) hRf, Nat.le_trans (by decide) hRl⟩ (Nat.zero_le _) (Nat.zero_le _) (fun H locs M hEF => ?_)
  refine lv_aload_n hx hb dX12_head_53 rfl (lv_at hl 0 rfl) ?_
  refine lv_iconst (v := 0) hx hb dX12_head_54 (by decide) ?_
  refine lv_aload_n hx hb dX12_head_55 rfl (lv_at hl 0 rfl) ?_
  refine x_getI hx hb hown hX M (k := 57) okX12 ra0 (by decide) rfl kw_1069 dX12_head_56 ?_
  refine lv_iconst (v := 0) hx hb dX12_head_59 (by decide) ?_
  refine lv_aload_n hx hb dX12_head_60 rfl (lv_at hl 3 rfl) ?_
  refine lv_iload hx hb dX12_head_61 (lv_at hl 4 rfl) ?_
  refine lv_bipush (v := 12) hx hb dX12_head_63 (by decide) ?_
  refine lv_iadd hx hb dX12_head_65 ?_
  replace q := c2_s q
  obtain ⟨u_13, g_12, qc, q⟩ := q
  refine x_callV hx hb hml hl.1 hown hX M (S1 := S) (As := [.int (0 : Int32), .int (rdI g_10 a0 57), .int (0 : Int32), .ref a3, .int (x4 + (12 : Int32))]) (rest := []) okX12 ra0 rfl kw_1333 kw_33 mok_X12_tree (c_X12_tree ra0 ra3 qc (Nat.le_refl 304)) kw_1331 rfl rfl dX12_head_66 (Nat.le_of_ble_eq_true rfl) ⟨Nat.le_trans (by decide) hRf, Nat.le_trans (by decide) hRl⟩ (Nat.zero_le _) (Nat.zero_le _) (fun H locs M hEF => ?_)
  refine lv_aload_n hx hb dX12_head_69 rfl (lv_at hl 0 rfl) ?_
  refine lv_aload_n hx hb dX12_head_70 rfl (lv_at hl 0 rfl) ?_
  replace q := nn_s q
  obtain ⟨a_14, e_a_14, q⟩ := q
  refine x_getR hx hb hown hX M e_a_14 okX12 ra0 (by decide) rfl kw_1012 dX12_head_71 (fun ra_14 => ?_)
  refine lv_iconst (v := 4) hx hb dX12_head_74 (by decide) ?_
  refine lv_iload_n hx hb dX12_head_75 rfl (lv_at hl 1 rfl) ?_
  refine lv_imul hx hb dX12_head_76 ?_
  replace q := ck_s q
  obtain ⟨hin, q⟩ := q
  refine x_iald hx hb hX M ra_14 (inb_in hin) dX12_head_77 ?_
  refine lv_iload_n hx hb dX12_head_78 rfl (lv_at hl 2 rfl) ?_
  refine lv_aload_n hx hb dX12_head_79 rfl (lv_at hl 3 rfl) ?_
  refine lv_iload hx hb dX12_head_80 (lv_at hl 4 rfl) ?_
  refine lv_iconst (v := 4) hx hb dX12_head_82 (by decide) ?_
  refine lv_iadd hx hb dX12_head_83 ?_
  refine lv_iload hx hb dX12_head_84 (lv_at hl 4 rfl) ?_
  refine lv_bipush (v := 12) hx hb dX12_head_86 (by decide) ?_
  refine lv_iadd hx hb dX12_head_88 ?_
  replace q := c2_s q
  obtain ⟨u_16, g_15, qc, q⟩ := q
  refine x_callV hx hb hml hl.1 hown hX M (S1 := S) (As := [.int (rdI g_12 a_14 ((4 : Int32) * x1).toNatClampNeg), .int x2, .ref a3, .int (x4 + (4 : Int32)), .int (x4 + (12 : Int32))]) (rest := []) okX12 ra0 rfl kw_1348 kw_36 mok_X12_mark (c_X12_mark ra0 ra3 qc (Nat.le_refl 3)) kw_1346 rfl rfl dX12_head_89 (Nat.le_of_ble_eq_true rfl) ⟨Nat.le_trans (by decide) hRf, Nat.le_trans (by decide) hRl⟩ (Nat.zero_le _) (Nat.zero_le _) (fun H locs M hEF => ?_)
  refine lv_aload_n hx hb dX12_head_92 rfl (lv_at hl 0 rfl) ?_
  refine lv_aload_n hx hb dX12_head_93 rfl (lv_at hl 3 rfl) ?_
  refine lv_iload hx hb dX12_head_94 (lv_at hl 4 rfl) ?_
  refine lv_bipush (v := 20) hx hb dX12_head_96 (by decide) ?_
  refine lv_iadd hx hb dX12_head_98 ?_
  replace q := c2_s q
  obtain ⟨u_18, g_17, qc, q⟩ := q
  refine x_callV hx hb hml hl.1 hown hX M (S1 := S) (As := [.ref a3, .int (x4 + (20 : Int32))]) (rest := []) okX12 ra0 rfl kw_1290 kw_25 mok_X12_toRow (c_X12_toRow ra0 ra3 qc (Nat.le_refl 1)) kw_1288 rfl rfl dX12_head_99 (Nat.le_of_ble_eq_true rfl) ⟨Nat.le_trans (by decide) hRf, Nat.le_trans (by decide) hRl⟩ (Nat.zero_le _) (Nat.zero_le _) (fun H locs M hEF => ?_)
  cases q
  exact x_vret hx hb hr hlk M Ext.rf dX12_head_102
set_option maxRecDepth 100000 in
theorem c_X12_head {l : Launch} {D : va_G} {cA : Nat → ClassId} {lo tS N : Nat} {S : Hs} {g g1 : Hg} {rv : Unit} {a0 : Nat} {x1 : Int32} {x2 : Int32} {a3 : Nat} {x4 : Int32} (ra0 : Rf lo S a0 12) (ra3 : Rf lo S a3 20) (q : f_X12_head N S g a0 x1 x2 a3 x4 = some (rv, g1)) {d : Nat} (hd : 306 ≤ d) : Ctr l yX12_head cX12_head 5 none D cA lo tS [.ref a0, .int x1, .int x2, .ref a3, .int x4] S g d none S g1 True 0 0 := by
  refine x_met (by decide) (Nat.le_of_ble_eq_true rfl) ?_
  intro p e s m below meth c ls hx hb hml hr hlk hown hnm hX M hl
  exact w_X12_head_0 hx hb hml hr hlk hown hX hd (Nat.mul_le_mul_left 60 hd) (N := N) _ _ _ _ _ _ _ _ _ M ra0 ra3 (lv_sub hl [0, 1, 2, 3, 4] rfl) q
def b_X12_head__0 (N : Nat) (S : Hs) (g : Hg) (a0 : Nat) (x1 : Int32) (x2 : Int32) (x3 : Int32) (x4 : Int32) : Option (Int32 × Hg) :=
c2 (f_X12_isCount N S g a0 x1 x2) (fun x_2 g_1 =>
if x_2 = 0 then (
some ((0 : Int32), g_1)) else (
if x3 < 0 then (
some ((0 : Int32), g_1)) else (
if (2 : Int32) < x3 then (
some ((0 : Int32), g_1)) else (
if x4 < 0 then (
some ((0 : Int32), g_1)) else (
if x4 ≤ (7 : Int32) then (
nn (rdR g_1 a0 59) (fun a_8 =>
c2 (f_X12_head N S g_1 a0 x1 x2 a_8 (0 : Int32)) (fun u_10 g_9 =>
nn (rdR g_9 a0 59) (fun a_11 =>
ck (inb (((4 : Int32) + ((8 : Int32) * x3)) + x4) (hpL S a_11)) (
some ((rdI g_9 a_11 (((4 : Int32) + ((8 : Int32) * x3)) + x4).toNatClampNeg), g_9)))))) else (
some ((0 : Int32), g_1)))))))
def f_X12_head_ (N : Nat) (S : Hs) (g : Hg) (a0 : Nat) (x1 : Int32) (x2 : Int32) (x3 : Int32) (x4 : Int32) : Option (Int32 × Hg) := b_X12_head__0 N S g a0 x1 x2 x3 x4
set_option maxHeartbeats 4000000 in
set_option maxRecDepth 100000 in
theorem w_X12_head__0 (hx : p.tables.exec = Jvm.exec) (hb : c.code = cX12_head_) (hml : c.maxLocals = 5) (hr : meth.sig.returnType = (some .int)) (hlk : meth.locks = false) (hown : s.vm.findClass RX12 = some m.cls) (hX : Kx D cA lo tS s) (hRf : 307 ≤ R.frames) (hRl : 18420 ≤ R.locals) {N : Nat} {rv : Int32} {g1 : Hg} {S : Hs} : ∀ (H : Heap) (locs : List Loc) (ls : Array Slot) (g : Hg) (a0 : Nat) (x1 : Int32) (x2 : Int32) (x3 : Int32) (x4 : Int32), Mm D cA lo S g s H locs → Rf lo S a0 12 → lv_has ls 5 [(0, .ref a0), (1, .int x1), (2, .int x2), (3, .int x3), (4, .int x4)] → b_X12_head__0 N S g a0 x1 x2 x3 x4 = some (rv, g1) → W p l e R s m args below meth c H locs 0 0 (MQ below (Qcx D cA lo S (some (.int rv)) S g1 True) args s 0 0 (fun q : Nat => lo ≤ q)) (F0 m 0 ls []) := by
  intro H locs ls g a0 x1 x2 x3 x4 M ra0 hl q
  unfold b_X12_head__0 at q
  refine lv_aload_n hx hb dX12_head__0 rfl (lv_at hl 0 rfl) ?_
  refine lv_iload_n hx hb dX12_head__1 rfl (lv_at hl 1 rfl) ?_
  refine lv_iload_n hx hb dX12_head__2 rfl (lv_at hl 2 rfl) ?_
  replace q := c2_s q
  obtain ⟨x_2, g_1, qc, q⟩ := q
  refine x_callV hx hb hml hl.1 hown hX M (S1 := S) (As := [.int x1, .int x2]) (rest := []) okX12 ra0 rfl kw_1233 kw_16 mok_X12_isCount (c_X12_isCount ra0 qc (Nat.le_refl 2)) kw_1231 rfl rfl dX12_head__3 (Nat.le_of_ble_eq_true rfl) ⟨Nat.le_trans (by decide) hRf, Nat.le_trans (by decide) hRl⟩ (Nat.zero_le _) (Nat.zero_le _) (fun H locs M hEF => ?_)
  refine lv_if_eq (tgt := 30) hx hb dX12_head__6 (by decide) (fun c_3 => ?_) (fun c_3 => ?_)
  · replace q := if_t c_3 q
    refine lv_iconst (v := 0) hx hb dX12_head__30 (by decide) ?_
    cases q
    exact x_iret hx hb hr hlk M Ext.rf dX12_head__31
  · replace q := if_f c_3 q
    refine lv_iload_n hx hb dX12_head__9 rfl (lv_at hl 3 rfl) ?_
    refine lv_if_lt (tgt := 30) hx hb dX12_head__10 (by decide) (fun c_4 => ?_) (fun c_4 => ?_)
    · replace q := if_t c_4 q
      refine lv_iconst (v := 0) hx hb dX12_head__30 (by decide) ?_
      cases q
      exact x_iret hx hb hr hlk M Ext.rf dX12_head__31
    · replace q := if_f c_4 q
      refine lv_iload_n hx hb dX12_head__13 rfl (lv_at hl 3 rfl) ?_
      refine lv_iconst (v := 2) hx hb dX12_head__14 (by decide) ?_
      refine lv_icmp_gt (tgt := 30) hx hb dX12_head__15 (by decide) (fun c_5 => ?_) (fun c_5 => ?_)
      · replace q := if_t c_5 q
        refine lv_iconst (v := 0) hx hb dX12_head__30 (by decide) ?_
        cases q
        exact x_iret hx hb hr hlk M Ext.rf dX12_head__31
      · replace q := if_f c_5 q
        refine lv_iload hx hb dX12_head__18 (lv_at hl 4 rfl) ?_
        refine lv_if_lt (tgt := 30) hx hb dX12_head__20 (by decide) (fun c_6 => ?_) (fun c_6 => ?_)
        · replace q := if_t c_6 q
          refine lv_iconst (v := 0) hx hb dX12_head__30 (by decide) ?_
          cases q
          exact x_iret hx hb hr hlk M Ext.rf dX12_head__31
        · replace q := if_f c_6 q
          refine lv_iload hx hb dX12_head__23 (lv_at hl 4 rfl) ?_
          refine lv_bipush (v := 7) hx hb dX12_head__25 (by decide) ?_
          refine lv_icmp_le (tgt := 32) hx hb dX12_head__27 (by decide) (fun c_7 => ?_) (fun c_7 => ?_)
          · replace q := if_t c_7 q
            refine lv_aload_n hx hb dX12_head__32 rfl (lv_at hl 0 rfl) ?_
            refine lv_iload_n hx hb dX12_head__33 rfl (lv_at hl 1 rfl) ?_
            refine lv_iload_n hx hb dX12_head__34 rfl (lv_at hl 2 rfl) ?_
            refine lv_aload_n hx hb dX12_head__35 rfl (lv_at hl 0 rfl) ?_
            replace q := nn_s q
            obtain ⟨a_8, e_a_8, q⟩ := q
            refine x_getR hx hb hown hX M e_a_8 okX12 ra0 (by decide) rfl kw_1071 dX12_head__36 (fun ra_8 => ?_)
            refine lv_iconst (v := 0) hx hb dX12_head__39 (by decide) ?_
            replace q := c2_s q
            obtain ⟨u_10, g_9, qc, q⟩ := q
            refine x_callV hx hb hml hl.1 hown hX M (S1 := S) (As := [.int x1, .int x2, .ref a_8, .int (0 : Int32)]) (rest := []) okX12 ra0 rfl kw_1302 kw_26 mok_X12_head (c_X12_head ra0 ra_8 qc (Nat.le_refl 306)) kw_1300 rfl rfl dX12_head__40 (Nat.le_of_ble_eq_true rfl) ⟨Nat.le_trans (by decide) hRf, Nat.le_trans (by decide) hRl⟩ (Nat.zero_le _) (Nat.zero_le _) (fun H locs M hEF => ?_)
            refine lv_aload_n hx hb dX12_head__43 rfl (lv_at hl 0 rfl) ?_
            replace q := nn_s q
            obtain ⟨a_11, e_a_11, q⟩ := q
            refine x_getR hx hb hown hX M e_a_11 okX12 ra0 (by decide) rfl kw_1071 dX12_head__44 (fun ra_11 => ?_)
            refine lv_iconst (v := 4) hx hb dX12_head__47 (by decide) ?_
            refine lv_bipush (v := 8) hx hb dX12_head__48 (by decide) ?_
            refine lv_iload_n hx hb dX12_head__50 rfl (lv_at hl 3 rfl) ?_
            refine lv_imul hx hb dX12_head__51 ?_
            refine lv_iadd hx hb dX12_head__52 ?_
            refine lv_iload hx hb dX12_head__53 (lv_at hl 4 rfl) ?_
            refine lv_iadd hx hb dX12_head__55 ?_
            replace q := ck_s q
            obtain ⟨hin, q⟩ := q
            refine x_iald hx hb hX M ra_11 (inb_in hin) dX12_head__56 ?_
            cases q
            exact x_iret hx hb hr hlk M Ext.rf dX12_head__57
          · replace q := if_f c_7 q
            refine lv_iconst (v := 0) hx hb dX12_head__30 (by decide) ?_
            cases q
            exact x_iret hx hb hr hlk M Ext.rf dX12_head__31
set_option maxRecDepth 100000 in
theorem c_X12_head_ {l : Launch} {D : va_G} {cA : Nat → ClassId} {lo tS N : Nat} {S : Hs} {g g1 : Hg} {rv : Int32} {a0 : Nat} {x1 : Int32} {x2 : Int32} {x3 : Int32} {x4 : Int32} (ra0 : Rf lo S a0 12) (q : f_X12_head_ N S g a0 x1 x2 x3 x4 = some (rv, g1)) {d : Nat} (hd : 307 ≤ d) : Ctr l yX12_head_ cX12_head_ 5 (some .int) D cA lo tS [.ref a0, .int x1, .int x2, .int x3, .int x4] S g d (some (.int rv)) S g1 True 0 0 := by
  refine x_met (by decide) (Nat.le_of_ble_eq_true rfl) ?_
  intro p e s m below meth c ls hx hb hml hr hlk hown hnm hX M hl
  exact w_X12_head__0 hx hb hml hr hlk hown hX hd (Nat.mul_le_mul_left 60 hd) (N := N) _ _ _ _ _ _ _ _ _ M ra0 (lv_sub hl [0, 1, 2, 3, 4] rfl) q
end W16
