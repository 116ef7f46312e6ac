section W21
variable {p : Program} {l : Launch} {e : Env} {R : Room} {s : State} {m : MethodId} {args : Array Value} {below : List Frame} {meth : Method} {c : Code} {D : va_G} {cA : Nat → ClassId} {lo tS : Nat}
def b_X12_within_0 (N : Nat) (S : Hs) (g : Hg) (a0 : Nat) (x1 : Int32) (x2 : Int32) (x3 : Int32) (x4 : Int32) : Option (Int32 × Hg) :=
c2 (f_X12_isSlot N S g a0 x1) (fun x_2 g_1 =>
if x_2 = 0 then (
some ((-1 : Int32), g_1)) else (
c2 (f_X12_isCount N S g_1 a0 x2 x3) (fun x_5 g_4 =>
if x_5 = 0 then (
some ((-1 : Int32), g_4)) else (
if x4 < 0 then (
some ((-1 : Int32), g_4)) else (
if x3 ≤ x4 then (
some ((-1 : Int32), g_4)) else (
nn (rdR g_4 a0 4) (fun a_9 =>
ck (inb (((400 : Int32) * x2) + x4) (hpL S a_9)) (
if (rdI g_4 a_9 (((400 : Int32) * x2) + x4).toNatClampNeg) = 0 then (
c2 (f_X12_begin N S g_4 a0 x1 (1 : Int32) x3 x4 (0 : Int32)) (fun u_12 g_11 =>
nn (rdR g_11 a0 10) (fun a_13 =>
nn (rdR g_11 a0 2) (fun a_14 =>
ck (inb (((400 : Int32) * x2) + x4) (hpL S a_14)) (
ck (inb ((40 : Int32) * x1) (hpL S a_13)) (
nm (wrI g_11 a_13 ((40 : Int32) * x1).toNatClampNeg (rdI g_11 a_14 (((400 : Int32) * x2) + x4).toNatClampNeg)) (fun g_15 =>
nn (rdR g_15 a0 11) (fun a_16 =>
nn (rdR g_15 a0 3) (fun a_17 =>
ck (inb (((400 : Int32) * x2) + x4) (hpL S a_17)) (
ck (inb ((40 : Int32) * x1) (hpL S a_16)) (
nm (wrL g_15 a_16 ((40 : Int32) * x1).toNatClampNeg (rdL g_15 a_17 (((400 : Int32) * x2) + x4).toNatClampNeg)) (fun g_18 =>
c2 (f_X12_stepLog N S g_18 a0 x1 x2 (0 : Int32) x4) (fun u_20 g_19 =>
c2 (f_X12_stepLog N S g_19 a0 x1 x2 (x4 + (1 : Int32)) x3) (fun u_22 g_21 =>
nn (rdR g_21 a0 9) (fun a_23 =>
ck (inb (((8 : Int32) * x1) + (1 : Int32)) (hpL S a_23)) (
some ((rdI g_21 a_23 (((8 : Int32) * x1) + (1 : Int32)).toNatClampNeg), g_21))))))))))))))))) else (
some ((-1 : Int32), g_4))))))))))
def f_X12_within (N : Nat) (S : Hs) (g : Hg) (a0 : Nat) (x1 : Int32) (x2 : Int32) (x3 : Int32) (x4 : Int32) : Option (Int32 × Hg) := b_X12_within_0 N S g a0 x1 x2 x3 x4
set_option maxHeartbeats 4000000 in
set_option maxRecDepth 100000 in
theorem w_X12_within_0 (hx : p.tables.exec = Jvm.exec) (hb : c.code = cX12_within) (hml : c.maxLocals = 5) (hr : meth.sig.returnType = (some .int)) (hlk : meth.locks = false) (hown : s.vm.findClass RX12 = some m.cls) (hX : Kx D cA lo tS s) (hRf : 306 ≤ R.frames) (hRl : 18360 ≤ R.locals) {N : Nat} {rv : Int32} {g1 : Hg} {S : Hs} : ∀ (H : Heap) (locs : List Loc) (ls : Array Slot) (g : Hg) (a0 : Nat) (x1 : Int32) (x2 : Int32) (x3 : Int32) (x4 : Int32), Mm D cA lo S g s H locs → Rf lo S a0 12 → lv_has ls 5 [(0, .ref a0), (1, .int x1), (2, .int x2), (3, .int x3), (4, .int x4)] → b_X12_within_0 N S g a0 x1 x2 x3 x4 = some (rv, g1) → W p l e R s m args below meth c H locs 0 0 (MQ below (Qcx D cA lo S (some (.int rv)) S g1 True) args s 0 0 (fun q : Nat => lo ≤ q)) (F0 m 0 ls []) := by
  intro H locs ls g a0 x1 x2 x3 x4 M ra0 hl q
  unfold b_X12_within_0 at q
  refine lv_aload_n hx hb dX12_within_0 rfl (lv_at hl 0 rfl) ?_
  refine lv_iload_n hx hb dX12_within_1 rfl (lv_at hl 1 rfl) ?_
  replace q := c2_s q
  obtain ⟨x_2, g_1, qc, q⟩ := q
  refine x_callV hx hb hml hl.1 hown hX M (S1 := S) (As := [.int x1]) (rest := []) okX12 ra0 rfl kw_1357 kw_37 mok_X12_isSlot (c_X12_isSlot ra0 qc (Nat.le_refl 1)) kw_1355 rfl rfl dX12_within_2 (Nat.le_of_ble_eq_true rfl) ⟨Nat.le_trans (by decide) hRf, Nat.le_trans (by decide) hRl⟩ (Nat.zero_le _) (Nat.zero_le _) (fun H locs M hEF => ?_)
  refine lv_if_eq (tgt := 44) hx hb dX12_within_5 (by decide) (fun c_3 => ?_) (fun c_3 => ?_)
  · replace q := if_t c_3 q
    refine lv_iconst (v := -1) hx hb dX12_within_44 (by decide) ?_
    cases q
    exact x_iret hx hb hr hlk M Ext.rf dX12_within_45
  · replace q := if_f c_3 q
    refine lv_aload_n hx hb dX12_within_8 rfl (lv_at hl 0 rfl) ?_
    refine lv_iload_n hx hb dX12_within_9 rfl (lv_at hl 2 rfl) ?_
    refine lv_iload_n hx hb dX12_within_10 rfl (lv_at hl 3 rfl) ?_
    replace q := c2_s q
    obtain ⟨x_5, g_4, qc, q⟩ := q
    refine x_callV hx hb hml hl.1 hown hX M (S1 := S) (As := [.int x2, .int x3]) (rest := []) okX12 ra0 rfl kw_1233 kw_16 mok_X12_isCount (c_X12_isCount ra0 qc (Nat.le_refl 2)) kw_1231 rfl rfl dX12_within_11 (Nat.le_of_ble_eq_true rfl) ⟨Nat.le_trans (by decide) hRf, Nat.le_trans (by decide) hRl⟩ (Nat.zero_le _) (Nat.zero_le _) (fun H locs M hEF => ?_)
    refine lv_if_eq (tgt := 44) hx hb dX12_within_14 (by decide) (fun c_6 => ?_) (fun c_6 => ?_)
    · replace q := if_t c_6 q
      refine lv_iconst (v := -1) hx hb dX12_within_44 (by decide) ?_
      cases q
      exact x_iret hx hb hr hlk M Ext.rf dX12_within_45
    · replace q := if_f c_6 q
      refine lv_iload hx hb dX12_within_17 (lv_at hl 4 rfl) ?_
      refine lv_if_lt (tgt := 44) hx hb dX12_within_19 (by decide) (fun c_7 => ?_) (fun c_7 => ?_)
      · replace q := if_t c_7 q
        refine lv_iconst (v := -1) hx hb dX12_within_44 (by decide) ?_
        cases q
        exact x_iret hx hb hr hlk M Ext.rf dX12_within_45
      · replace q := if_f c_7 q
        refine lv_iload hx hb dX12_within_22 (lv_at hl 4 rfl) ?_
        refine lv_iload_n hx hb dX12_within_24 rfl (lv_at hl 3 rfl) ?_
        refine lv_icmp_ge (tgt := 44) hx hb dX12_within_25 (by decide) (fun c_8 => ?_) (fun c_8 => ?_)
        · replace q := if_t c_8 q
          refine lv_iconst (v := -1) hx hb dX12_within_44 (by decide) ?_
          cases q
          exact x_iret hx hb hr hlk M Ext.rf dX12_within_45
        · replace q := if_f c_8 q
          refine lv_aload_n hx hb dX12_within_28 rfl (lv_at hl 0 rfl) ?_
          replace q := nn_s q
          obtain ⟨a_9, e_a_9, q⟩ := q
          refine x_getR hx hb hown hX M e_a_9 okX12 ra0 (by decide) rfl kw_1016 dX12_within_29 (fun ra_9 => ?_)
          refine lv_sipush (v := 400) hx hb dX12_within_32 (by decide) ?_
          refine lv_iload_n hx hb dX12_within_35 rfl (lv_at hl 2 rfl) ?_
          refine lv_imul hx hb dX12_within_36 ?_
          refine lv_iload hx hb dX12_within_37 (lv_at hl 4 rfl) ?_
          refine lv_iadd hx hb dX12_within_39 ?_
          replace q := ck_s q
          obtain ⟨hin, q⟩ := q
          refine x_zald hx hb hX M ra_9 (inb_in hin) dX12_within_40 ?_
          refine lv_if_eq (tgt := 46) hx hb dX12_within_41 (by decide) (fun c_10 => ?_) (fun c_10 => ?_)
          · replace q := if_t c_10 q
            refine lv_aload_n hx hb dX12_within_46 rfl (lv_at hl 0 rfl) ?_
            refine lv_iload_n hx hb dX12_within_47 rfl (lv_at hl 1 rfl) ?_
            refine lv_iconst (v := 1) hx hb dX12_within_48 (by decide) ?_
            refine lv_iload_n hx hb dX12_within_49 rfl (lv_at hl 3 rfl) ?_
            refine lv_iload hx hb dX12_within_50 (lv_at hl 4 rfl) ?_
            refine lv_iconst (v := 0) hx hb dX12_within_52 (by decide) ?_
            replace q := c2_s q
            obtain ⟨u_12, g_11, qc, q⟩ := q
            refine x_callV hx hb hml hl.1 hown hX M (S1 := S) (As := [.int x1, .int (1 : Int32), .int x3, .int x4, .int (0 : Int32)]) (rest := []) okX12 ra0 rfl kw_1361 kw_38 mok_X12_begin (c_X12_begin ra0 qc (Nat.le_refl 1)) kw_1359 rfl rfl dX12_within_53 (Nat.le_of_ble_eq_true rfl) ⟨Nat.le_trans (by decide) hRf, Nat.le_trans (by decide) hRl⟩ (Nat.zero_le _) (Nat.zero_le _) (fun H locs M hEF => ?_)
            refine lv_aload_n hx hb dX12_within_56 rfl (lv_at hl 0 rfl) ?_
            replace q := nn_s q
            obtain ⟨a_13, e_a_13, q⟩ := q
            refine x_getR hx hb hown hX M e_a_13 okX12 ra0 (by decide) rfl kw_1022 dX12_within_57 (fun ra_13 => ?_)
            refine lv_bipush (v := 40) hx hb dX12_within_60 (by decide) ?_
            refine lv_iload_n hx hb dX12_within_62 rfl (lv_at hl 1 rfl) ?_
            refine lv_imul hx hb dX12_within_63 ?_
            refine lv_aload_n hx hb dX12_within_64 rfl (lv_at hl 0 rfl) ?_
            replace q := nn_s q
            obtain ⟨a_14, e_a_14, q⟩ := q
            refine x_getR hx hb hown hX M e_a_14 okX12 ra0 (by decide) rfl kw_1014 dX12_within_65 (fun ra_14 => ?_)
            refine lv_sipush (v := 400) hx hb dX12_within_68 (by decide) ?_
            refine lv_iload_n hx hb dX12_within_71 rfl (lv_at hl 2 rfl) ?_
            refine lv_imul hx hb dX12_within_72 ?_
            refine lv_iload hx hb dX12_within_73 (lv_at hl 4 rfl) ?_
            refine lv_iadd hx hb dX12_within_75 ?_
            replace q := ck_s q
            obtain ⟨hin, q⟩ := q
            refine x_iald hx hb hX M ra_14 (inb_in hin) dX12_within_76 ?_
            replace q := ck_s q
            obtain ⟨hin, q⟩ := q
            refine x_iast hx hb hX M ra_13 (inb_in hin) dX12_within_77 (fun H locs M => ?_)
            replace q := gen_g M q
            obtain ⟨g_15, -, M, q⟩ := q
            refine lv_aload_n hx hb dX12_within_78 rfl (lv_at hl 0 rfl) ?_
            replace q := nn_s q
            obtain ⟨a_16, e_a_16, q⟩ := q
            refine x_getR hx hb hown hX M e_a_16 okX12 ra0 (by decide) rfl kw_1023 dX12_within_79 (fun ra_16 => ?_)
            refine lv_bipush (v := 40) hx hb dX12_within_82 (by decide) ?_
            refine lv_iload_n hx hb dX12_within_84 rfl (lv_at hl 1 rfl) ?_
            refine lv_imul hx hb dX12_within_85 ?_
            refine lv_aload_n hx hb dX12_within_86 rfl (lv_at hl 0 rfl) ?_
            replace q := nn_s q
            obtain ⟨a_17, e_a_17, q⟩ := q
            refine x_getR hx hb hown hX M e_a_17 okX12 ra0 (by decide) rfl kw_1015 dX12_within_87 (fun ra_17 => ?_)
            refine lv_sipush (v := 400) hx hb dX12_within_90 (by decide) ?_
            refine lv_iload_n hx hb dX12_within_93 rfl (lv_at hl 2 rfl) ?_
            refine lv_imul hx hb dX12_within_94 ?_
            refine lv_iload hx hb dX12_within_95 (lv_at hl 4 rfl) ?_
            refine lv_iadd hx hb dX12_within_97 ?_
            replace q := ck_s q
            obtain ⟨hin, q⟩ := q
            refine x_lald hx hb hX M ra_17 (inb_in hin) dX12_within_98 ?_
            replace q := ck_s q
            obtain ⟨hin, q⟩ := q
            refine x_last hx hb hX M ra_16 (inb_in hin) dX12_within_99 (fun H locs M => ?_)
            replace q := gen_g M q
            obtain ⟨g_18, -, M, q⟩ := q
            refine lv_aload_n hx hb dX12_within_100 rfl (lv_at hl 0 rfl) ?_
            refine lv_iload_n hx hb dX12_within_101 rfl (lv_at hl 1 rfl) ?_
            refine lv_iload_n hx hb dX12_within_102 rfl (lv_at hl 2 rfl) ?_
            refine lv_iconst (v := 0) hx hb dX12_within_103 (by decide) ?_
            refine lv_iload hx hb dX12_within_104 (lv_at hl 4 rfl) ?_
            replace q := c2_s q
            obtain ⟨u_20, g_19, qc, q⟩ := q
            refine x_callV hx hb hml hl.1 hown hX M (S1 := S) (As := [.int x1, .int x2, .int (0 : Int32), .int x4]) (rest := []) okX12 ra0 rfl kw_1365 kw_39 mok_X12_stepLog (c_X12_stepLog ra0 qc (Nat.le_refl 305)) kw_1363 rfl rfl dX12_within_106 (Nat.le_of_ble_eq_true rfl) ⟨Nat.le_trans (by decide) hRf, Nat.le_trans (by decide) hRl⟩ (Nat.zero_le _) (Nat.zero_le _) (fun H locs M hEF => ?_)
            refine lv_aload_n hx hb dX12_within_109 rfl (lv_at hl 0 rfl) ?_
            refine lv_iload_n hx hb dX12_within_110 rfl (lv_at hl 1 rfl) ?_
            refine lv_iload_n hx hb dX12_within_111 rfl (lv_at hl 2 rfl) ?_
            refine lv_iload hx hb dX12_within_112 (lv_at hl 4 rfl) ?_
            refine lv_iconst (v := 1) hx hb dX12_within_114 (by decide) ?_
            refine lv_iadd hx hb dX12_within_115 ?_
            refine lv_iload_n hx hb dX12_within_116 rfl (lv_at hl 3 rfl) ?_
            replace q := c2_s q
            obtain ⟨u_22, g_21, qc, q⟩ := q
            refine x_callV hx hb hml hl.1 hown hX M (S1 := S) (As := [.int x1, .int x2, .int (x4 + (1 : Int32)), .int x3]) (rest := []) okX12 ra0 rfl kw_1365 kw_39 mok_X12_stepLog (c_X12_stepLog ra0 qc (Nat.le_refl 305)) kw_1363 rfl rfl dX12_within_117 (Nat.le_of_ble_eq_true rfl) ⟨Nat.le_trans (by decide) hRf, Nat.le_trans (by decide) hRl⟩ (Nat.zero_le _) (Nat.zero_le _) (fun H locs M hEF => ?_)
            refine lv_aload_n hx hb dX12_within_120 rfl (lv_at hl 0 rfl) ?_
            replace q := nn_s q
            obtain ⟨a_23, e_a_23, q⟩ := q
            refine x_getR hx hb hown hX M e_a_23 okX12 ra0 (by decide) rfl kw_1021 dX12_within_121 (fun ra_23 => ?_)
            refine lv_bipush (v := 8) hx hb dX12_within_124 (by decide) ?_
            refine lv_iload_n hx hb dX12_within_126 rfl (lv_at hl 1 rfl) ?_
            refine lv_imul hx hb dX12_within_127 ?_
            refine lv_iconst (v := 1) hx hb dX12_within_128 (by decide) ?_
            refine lv_iadd hx hb dX12_within_129 ?_
            replace q := ck_s q
            obtain ⟨hin, q⟩ := q
            refine x_iald hx hb hX M ra_23 (inb_in hin) dX12_within_130 ?_
            cases q
            exact x_iret hx hb hr hlk M Ext.rf dX12_within_131
          · replace q := if_f c_10 q
            refine lv_iconst (v := -1) hx hb dX12_within_44 (by decide) ?_
            cases q
            exact x_iret hx hb hr hlk M Ext.rf dX12_within_45
set_option maxRecDepth 100000 in
theorem c_X12_within {l : Launch} {D : va_G} {cA : Nat → ClassId} {lo tS N : Nat} {S : Hs} {g g1 : Hg} {rv : Int32} {a0 : Nat} {x1 : Int32} {x2 : Int32} {x3 : Int32} {x4 : Int32} (ra0 : Rf lo S a0 12) (q : f_X12_within N S g a0 x1 x2 x3 x4 = some (rv, g1)) {d : Nat} (hd : 306 ≤ d) : Ctr l yX12_within cX12_within 5 (some .int) D cA lo tS [.ref a0, .int x1, .int x2, .int x3, .int x4] S g d (some (.int rv)) S g1 True 0 0 := by
  refine x_met (by decide) (Nat.le_of_ble_eq_true rfl) ?_
  intro p e s m below meth c ls hx hb hml hr hlk hown hnm hX M hl
  exact w_X12_within_0 hx hb hml hr hlk hown hX hd (Nat.mul_le_mul_left 60 hd) (N := N) _ _ _ _ _ _ _ _ _ M ra0 (lv_sub hl [0, 1, 2, 3, 4] rfl) q
end W21
