section W19
variable {p : Program} {l : Launch} {e : Env} {R : Room} {s : State} {m : MethodId} {args : Array Value} {below : List Frame} {meth : Method} {c : Code} {D : va_G} {cA : Nat → ClassId} {lo tS : Nat}
def b_X12_proof_127 (N : Nat) (S : Hs) (g : Hg) (a0 : Nat) (x1 : Int32) : Option (Int32 × Hg) :=
nn (rdR g a0 10) (fun a_1 =>
ck (inb ((40 : Int32) * x1) (hpL S a_1)) (
some ((rdI g a_1 ((40 : Int32) * x1).toNatClampNeg), g)))
def b_X12_proof_0 (N : Nat) (S : Hs) (g : Hg) (a0 : Nat) (x1 : Int32) (x2 : Int32) : Option (Int32 × Hg) :=
c2 (f_X12_isSlot N S g a0 x1) (fun x_2 g_1 =>
if x_2 = 0 then (
some ((-1 : Int32), g_1)) else (
nn (rdR g_1 a0 9) (fun a_4 =>
ck (inb ((8 : Int32) * x1) (hpL S a_4)) (
nm (rdI g_1 a_4 ((8 : Int32) * x1).toNatClampNeg) (fun x_5 =>
nm x2 (fun x_6 =>
if x_6 = 0 then (
some (x_5, g_1)) else (
if x_6 = 1 then (
nn (rdR g_1 a0 9) (fun a_7 =>
ck (inb (((8 : Int32) * x1) + x2) (hpL S a_7)) (
some ((rdI g_1 a_7 (((8 : Int32) * x1) + x2).toNatClampNeg), g_1)))) else (
if x_6 = 2 then (
nn (rdR g_1 a0 9) (fun a_8 =>
ck (inb (((8 : Int32) * x1) + x2) (hpL S a_8)) (
some ((rdI g_1 a_8 (((8 : Int32) * x1) + x2).toNatClampNeg), g_1)))) else (
if x_6 = 3 then (
nn (rdR g_1 a0 9) (fun a_9 =>
ck (inb (((8 : Int32) * x1) + x2) (hpL S a_9)) (
some ((rdI g_1 a_9 (((8 : Int32) * x1) + x2).toNatClampNeg), g_1)))) else (
if x_6 = 4 then (
nn (rdR g_1 a0 9) (fun a_10 =>
ck (inb (((8 : Int32) * x1) + x2) (hpL S a_10)) (
some ((rdI g_1 a_10 (((8 : Int32) * x1) + x2).toNatClampNeg), g_1)))) else (
if x_6 = 5 then (
if x_5 = (1 : Int32) then (
b_X12_proof_127 N S g_1 a0 x1) else (
if x_5 = (3 : Int32) then (
b_X12_proof_127 N S g_1 a0 x1) else (
if x_5 = (4 : Int32) then (
b_X12_proof_127 N S g_1 a0 x1) else (
if x_5 = (5 : Int32) then (
nn (rdR g_1 a0 9) (fun a_15 =>
ck (inb (((8 : Int32) * x1) + (4 : Int32)) (hpL S a_15)) (
nn (rdR g_1 a0 9) (fun a_16 =>
ck (inb (((8 : Int32) * x1) + (3 : Int32)) (hpL S a_16)) (
if (rdI g_1 a_15 (((8 : Int32) * x1) + (4 : Int32)).toNatClampNeg) ≤ (rdI g_1 a_16 (((8 : Int32) * x1) + (3 : Int32)).toNatClampNeg) then (
some ((0 : Int32), g_1)) else (
b_X12_proof_127 N S g_1 a0 x1)))))) else (
some ((0 : Int32), g_1)))))) else (
if x_6 = 6 then (
nn (rdR g_1 a0 9) (fun a_18 =>
ck (inb (((8 : Int32) * x1) + (5 : Int32)) (hpL S a_18)) (
some ((rdI g_1 a_18 (((8 : Int32) * x1) + (5 : Int32)).toNatClampNeg), g_1)))) else (
if x_6 = 7 then (
nn (rdR g_1 a0 9) (fun a_19 =>
ck (inb (((8 : Int32) * x1) + (6 : Int32)) (hpL S a_19)) (
some ((rdI g_1 a_19 (((8 : Int32) * x1) + (6 : Int32)).toNatClampNeg), g_1)))) else (
some ((-1 : Int32), g_1)))))))))))))))
def f_X12_proof (N : Nat) (S : Hs) (g : Hg) (a0 : Nat) (x1 : Int32) (x2 : Int32) : Option (Int32 × Hg) := b_X12_proof_0 N S g a0 x1 x2
set_option maxHeartbeats 4000000 in
set_option maxRecDepth 100000 in
theorem w_X12_proof_127 (hx : p.tables.exec = Jvm.exec) (hb : c.code = cX12_proof) (hml : c.maxLocals = 4) (hr : meth.sig.returnType = (some .int)) (hlk : meth.locks = false) (hown : s.vm.findClass RX12 = some m.cls) (hX : Kx D cA lo tS s) (hRf : 2 ≤ R.frames) (hRl : 120 ≤ R.locals) {N : Nat} {rv : Int32} {g1 : Hg} {S : Hs} : ∀ (H : Heap) (locs : List Loc) (ls : Array Slot) (g : Hg) (a0 : Nat) (x1 : Int32), Mm D cA lo S g s H locs → Rf lo S a0 12 → lv_has ls 4 [(0, .ref a0), (1, .int x1)] → b_X12_proof_127 N S g a0 x1 = some (rv, g1) → W p l e R s m args below meth c H locs 0 0 (MQ below (Qcx D cA lo S (some (.int rv)) S g1 True) args s 0 0 (fun q : Nat => lo ≤ q)) (F0 m 127 ls []) := by
  intro H locs ls g a0 x1 M ra0 hl q
  unfold b_X12_proof_127 at q
  refine lv_aload_n hx hb dX12_proof_127 rfl (lv_at hl 0 rfl) ?_
  replace q := nn_s q
  obtain ⟨a_1, e_a_1, q⟩ := q
  refine x_getR hx hb hown hX M e_a_1 okX12 ra0 (by decide) rfl kw_1022 dX12_proof_128 (fun ra_1 => ?_)
  refine lv_bipush (v := 40) hx hb dX12_proof_131 (by decide) ?_
  refine lv_iload_n hx hb dX12_proof_133 rfl (lv_at hl 1 rfl) ?_
  refine lv_imul hx hb dX12_proof_134 ?_
  replace q := ck_s q
  obtain ⟨hin, q⟩ := q
  refine x_iald hx hb hX M ra_1 (inb_in hin) dX12_proof_135 ?_
  refine lv_goto (tgt := 140) hx hb dX12_proof_136 (by decide) ?_
  cases q
  exact x_iret hx hb hr hlk M Ext.rf dX12_proof_140
set_option maxHeartbeats 4000000 in
set_option maxRecDepth 100000 in
theorem w_X12_proof_0 (hx : p.tables.exec = Jvm.exec) (hb : c.code = cX12_proof) (hml : c.maxLocals = 4) (hr : meth.sig.returnType = (some .int)) (hlk : meth.locks = false) (hown : s.vm.findClass RX12 = some m.cls) (hX : Kx D cA lo tS s) (hRf : 2 ≤ R.frames) (hRl : 120 ≤ R.locals) {N : Nat} {rv : Int32} {g1 : Hg} {S : Hs} : ∀ (H : Heap) (locs : List Loc) (ls : Array Slot) (g : Hg) (a0 : Nat) (x1 : Int32) (x2 : Int32), Mm D cA lo S g s H locs → Rf lo S a0 12 → lv_has ls 4 [(0, .ref a0), (1, .int x1), (2, .int x2)] → b_X12_proof_0 N S g a0 x1 x2 = some (rv, g1) → W p l e R s m args below meth c H locs 0 0 (MQ below (Qcx D cA lo S (some (.int rv)) S g1 True) args s 0 0 (fun q : Nat => lo ≤ q)) (F0 m 0 ls []) := by
  intro H locs ls g a0 x1 x2 M ra0 hl q
  unfold b_X12_proof_0 at q
  refine lv_aload_n hx hb dX12_proof_0 rfl (lv_at hl 0 rfl) ?_
  refine lv_iload_n hx hb dX12_proof_1 rfl (lv_at hl 1 rfl) ?_
  replace q := c2_s q
  obtain ⟨x_2, g_1, qc, q⟩ := q
  refine x_callV hx hb hml hl.1 hown hX M (S1 := S) (As := [.int x1]) (rest := []) okX12 ra0 rfl kw_1357 kw_37 mok_X12_isSlot (c_X12_isSlot ra0 qc (Nat.le_refl 1)) kw_1355 rfl rfl dX12_proof_2 (Nat.le_of_ble_eq_true rfl) ⟨Nat.le_trans (by decide) hRf, Nat.le_trans (by decide) hRl⟩ (Nat.zero_le _) (Nat.zero_le _) (fun H locs M hEF => ?_)
  refine lv_if_ne (tgt := 10) hx hb dX12_proof_5 (by decide) (fun c_3 => ?_) (fun c_3 => ?_)
  · replace q := if_f c_3 q
    refine lv_aload_n hx hb dX12_proof_10 rfl (lv_at hl 0 rfl) ?_
    replace q := nn_s q
    obtain ⟨a_4, e_a_4, q⟩ := q
    refine x_getR hx hb hown hX M e_a_4 okX12 ra0 (by decide) rfl kw_1021 dX12_proof_11 (fun ra_4 => ?_)
    refine lv_bipush (v := 8) hx hb dX12_proof_14 (by decide) ?_
    refine lv_iload_n hx hb dX12_proof_16 rfl (lv_at hl 1 rfl) ?_
    refine lv_imul hx hb dX12_proof_17 ?_
    replace q := ck_s q
    obtain ⟨hin, q⟩ := q
    refine x_iald hx hb hX M ra_4 (inb_in hin) dX12_proof_18 ?_
    refine lv_topi (fun x_5 e_x_5 => ?_)
    replace q := nm_s q e_x_5
    refine lv_istore_n (lv' := [(3, .int x_5), (0, .ref a0), (1, .int x1), (2, .int x2)]) hx hb dX12_proof_19 rfl hl (by decide) rfl (fun ls hl => ?_)
    refine lv_iload_n hx hb dX12_proof_20 rfl (lv_at hl 3 rfl) ?_
    refine lv_topi (fun x_6 e_x_6 => ?_)
    replace q := nm_s q e_x_6
    clear e_x_6
    by_cases cx_6_0 : x_6 = 0
    · replace q := if_t cx_6_0 q
      subst cx_6_0
      refine lv_tableIn (off := 47) (tgt := 68) hx hb dX12_proof_21 (by decide) (by decide) (by decide) (by decide) ?_
      refine lv_iload_n hx hb dX12_proof_68 rfl (lv_at hl 0 rfl) ?_
      cases q
      exact x_iret hx hb hr hlk M Ext.rf dX12_proof_69
    replace q := if_f cx_6_0 q
    by_cases cx_6_1 : x_6 = 1
    · replace q := if_t cx_6_1 q
      subst cx_6_1
      refine lv_tableIn (off := 49) (tgt := 70) hx hb dX12_proof_21 (by decide) (by decide) (by decide) (by decide) ?_
      refine lv_aload_n hx hb dX12_proof_70 rfl (lv_at hl 1 rfl) ?_
      replace q := nn_s q
      obtain ⟨a_7, e_a_7, q⟩ := q
      refine x_getR hx hb hown hX M e_a_7 okX12 ra0 (by decide) rfl kw_1021 dX12_proof_71 (fun ra_7 => ?_)
      refine lv_bipush (v := 8) hx hb dX12_proof_74 (by decide) ?_
      refine lv_iload_n hx hb dX12_proof_76 rfl (lv_at hl 2 rfl) ?_
      refine lv_imul hx hb dX12_proof_77 ?_
      refine lv_iload_n hx hb dX12_proof_78 rfl (lv_at hl 3 rfl) ?_
      refine lv_iadd hx hb dX12_proof_79 ?_
      replace q := ck_s q
      obtain ⟨hin, q⟩ := q
      refine x_iald hx hb hX M ra_7 (inb_in hin) dX12_proof_80 ?_
      cases q
      exact x_iret hx hb hr hlk M Ext.rf dX12_proof_81
    replace q := if_f cx_6_1 q
    by_cases cx_6_2 : x_6 = 2
    · replace q := if_t cx_6_2 q
      subst cx_6_2
      refine lv_tableIn (off := 49) (tgt := 70) hx hb dX12_proof_21 (by decide) (by decide) (by decide) (by decide) ?_
      refine lv_aload_n hx hb dX12_proof_70 rfl (lv_at hl 1 rfl) ?_
      replace q := nn_s q
      obtain ⟨a_8, e_a_8, q⟩ := q
      refine x_getR hx hb hown hX M e_a_8 okX12 ra0 (by decide) rfl kw_1021 dX12_proof_71 (fun ra_8 => ?_)
      refine lv_bipush (v := 8) hx hb dX12_proof_74 (by decide) ?_
      refine lv_iload_n hx hb dX12_proof_76 rfl (lv_at hl 2 rfl) ?_
      refine lv_imul hx hb dX12_proof_77 ?_
      refine lv_iload_n hx hb dX12_proof_78 rfl (lv_at hl 3 rfl) ?_
      refine lv_iadd hx hb dX12_proof_79 ?_
      replace q := ck_s q
      obtain ⟨hin, q⟩ := q
      refine x_iald hx hb hX M ra_8 (inb_in hin) dX12_proof_80 ?_
      cases q
      exact x_iret hx hb hr hlk M Ext.rf dX12_proof_81
    replace q := if_f cx_6_2 q
    by_cases cx_6_3 : x_6 = 3
    · replace q := if_t cx_6_3 q
      subst cx_6_3
      refine lv_tableIn (off := 49) (tgt := 70) hx hb dX12_proof_21 (by decide) (by decide) (by decide) (by decide) ?_
      refine lv_aload_n hx hb dX12_proof_70 rfl (lv_at hl 1 rfl) ?_
      replace q := nn_s q
      obtain ⟨a_9, e_a_9, q⟩ := q
      refine x_getR hx hb hown hX M e_a_9 okX12 ra0 (by decide) rfl kw_1021 dX12_proof_71 (fun ra_9 => ?_)
      refine lv_bipush (v := 8) hx hb dX12_proof_74 (by decide) ?_
      refine lv_iload_n hx hb dX12_proof_76 rfl (lv_at hl 2 rfl) ?_
      refine lv_imul hx hb dX12_proof_77 ?_
      refine lv_iload_n hx hb dX12_proof_78 rfl (lv_at hl 3 rfl) ?_
      refine lv_iadd hx hb dX12_proof_79 ?_
      replace q := ck_s q
      obtain ⟨hin, q⟩ := q
      refine x_iald hx hb hX M ra_9 (inb_in hin) dX12_proof_80 ?_
      cases q
      exact x_iret hx hb hr hlk M Ext.rf dX12_proof_81
    replace q := if_f cx_6_3 q
    by_cases cx_6_4 : x_6 = 4
    · replace q := if_t cx_6_4 q
      subst cx_6_4
      refine lv_tableIn (off := 49) (tgt := 70) hx hb dX12_proof_21 (by decide) (by decide) (by decide) (by decide) ?_
      refine lv_aload_n hx hb dX12_proof_70 rfl (lv_at hl 1 rfl) ?_
      replace q := nn_s q
      obtain ⟨a_10, e_a_10, q⟩ := q
      refine x_getR hx hb hown hX M e_a_10 okX12 ra0 (by decide) rfl kw_1021 dX12_proof_71 (fun ra_10 => ?_)
      refine lv_bipush (v := 8) hx hb dX12_proof_74 (by decide) ?_
      refine lv_iload_n hx hb dX12_proof_76 rfl (lv_at hl 2 rfl) ?_
      refine lv_imul hx hb dX12_proof_77 ?_
      refine lv_iload_n hx hb dX12_proof_78 rfl (lv_at hl 3 rfl) ?_
      refine lv_iadd hx hb dX12_proof_79 ?_
      replace q := ck_s q
      obtain ⟨hin, q⟩ := q
      refine x_iald hx hb hX M ra_10 (inb_in hin) dX12_proof_80 ?_
      cases q
      exact x_iret hx hb hr hlk M Ext.rf dX12_proof_81
    replace q := if_f cx_6_4 q
    by_cases cx_6_5 : x_6 = 5
    · replace q := if_t cx_6_5 q
      subst cx_6_5
      refine lv_tableIn (off := 61) (tgt := 82) hx hb dX12_proof_21 (by decide) (by decide) (by decide) (by decide) ?_
      refine lv_iload_n hx hb dX12_proof_82 rfl (lv_at hl 0 rfl) ?_
      refine lv_iconst (v := 1) hx hb dX12_proof_83 (by decide) ?_
      refine lv_icmp_eq (tgt := 127) hx hb dX12_proof_84 (by decide) (fun c_11 => ?_) (fun c_11 => ?_)
      · replace q := if_t c_11 q
        exact w_X12_proof_127 hx hb hml hr hlk hown hX hRf hRl (N := N)  _ _ _ _ _ _ M ra0 (lv_sub hl [1, 2] rfl) q
      · replace q := if_f c_11 q
        refine lv_iload_n hx hb dX12_proof_87 rfl (lv_at hl 0 rfl) ?_
        refine lv_iconst (v := 3) hx hb dX12_proof_88 (by decide) ?_
        refine lv_icmp_eq (tgt := 127) hx hb dX12_proof_89 (by decide) (fun c_12 => ?_) (fun c_12 => ?_)
        · replace q := if_t c_12 q
          exact w_X12_proof_127 hx hb hml hr hlk hown hX hRf hRl (N := N)  _ _ _ _ _ _ M ra0 (lv_sub hl [1, 2] rfl) q
        · replace q := if_f c_12 q
          refine lv_iload_n hx hb dX12_proof_92 rfl (lv_at hl 0 rfl) ?_
          refine lv_iconst (v := 4) hx hb dX12_proof_93 (by decide) ?_
          refine lv_icmp_eq (tgt := 127) hx hb dX12_proof_94 (by decide) (fun c_13 => ?_) (fun c_13 => ?_)
          · replace q := if_t c_13 q
            exact w_X12_proof_127 hx hb hml hr hlk hown hX hRf hRl (N := N)  _ _ _ _ _ _ M ra0 (lv_sub hl [1, 2] rfl) q
          · replace q := if_f c_13 q
            refine lv_iload_n hx hb dX12_proof_97 rfl (lv_at hl 0 rfl) ?_
            refine lv_iconst (v := 5) hx hb dX12_proof_98 (by decide) ?_
            refine lv_icmp_ne (tgt := 139) hx hb dX12_proof_99 (by decide) (fun c_14 => ?_) (fun c_14 => ?_)
            · replace q := if_f c_14 q
              refine lv_iconst (v := 0) hx hb dX12_proof_139 (by decide) ?_
              cases q
              exact x_iret hx hb hr hlk M Ext.rf dX12_proof_140
            · replace q := if_t c_14 q
              refine lv_aload_n hx hb dX12_proof_102 rfl (lv_at hl 1 rfl) ?_
              replace q := nn_s q
              obtain ⟨a_15, e_a_15, q⟩ := q
              refine x_getR hx hb hown hX M e_a_15 okX12 ra0 (by decide) rfl kw_1021 dX12_proof_103 (fun ra_15 => ?_)
              refine lv_bipush (v := 8) hx hb dX12_proof_106 (by decide) ?_
              refine lv_iload_n hx hb dX12_proof_108 rfl (lv_at hl 2 rfl) ?_
              refine lv_imul hx hb dX12_proof_109 ?_
              refine lv_iconst (v := 4) hx hb dX12_proof_110 (by decide) ?_
              refine lv_iadd hx hb dX12_proof_111 ?_
              replace q := ck_s q
              obtain ⟨hin, q⟩ := q
              refine x_iald hx hb hX M ra_15 (inb_in hin) dX12_proof_112 ?_
              refine lv_aload_n hx hb dX12_proof_113 rfl (lv_at hl 1 rfl) ?_
              replace q := nn_s q
              obtain ⟨a_16, e_a_16, q⟩ := q
              refine x_getR hx hb hown hX M e_a_16 okX12 ra0 (by decide) rfl kw_1021 dX12_proof_114 (fun ra_16 => ?_)
              refine lv_bipush (v := 8) hx hb dX12_proof_117 (by decide) ?_
              refine lv_iload_n hx hb dX12_proof_119 rfl (lv_at hl 2 rfl) ?_
              refine lv_imul hx hb dX12_proof_120 ?_
              refine lv_iconst (v := 3) hx hb dX12_proof_121 (by decide) ?_
              refine lv_iadd hx hb dX12_proof_122 ?_
              replace q := ck_s q
              obtain ⟨hin, q⟩ := q
              refine x_iald hx hb hX M ra_16 (inb_in hin) dX12_proof_123 ?_
              refine lv_icmp_le (tgt := 139) hx hb dX12_proof_124 (by decide) (fun c_17 => ?_) (fun c_17 => ?_)
              · replace q := if_t c_17 q
                refine lv_iconst (v := 0) hx hb dX12_proof_139 (by decide) ?_
                cases q
                exact x_iret hx hb hr hlk M Ext.rf dX12_proof_140
              · replace q := if_f c_17 q
                exact w_X12_proof_127 hx hb hml hr hlk hown hX hRf hRl (N := N)  _ _ _ _ _ _ M ra0 (lv_sub hl [1, 2] rfl) q
    replace q := if_f cx_6_5 q
    by_cases cx_6_6 : x_6 = 6
    · replace q := if_t cx_6_6 q
      subst cx_6_6
      refine lv_tableIn (off := 120) (tgt := 141) hx hb dX12_proof_21 (by decide) (by decide) (by decide) (by decide) ?_
      refine lv_aload_n hx hb dX12_proof_141 rfl (lv_at hl 1 rfl) ?_
      replace q := nn_s q
      obtain ⟨a_18, e_a_18, q⟩ := q
      refine x_getR hx hb hown hX M e_a_18 okX12 ra0 (by decide) rfl kw_1021 dX12_proof_142 (fun ra_18 => ?_)
      refine lv_bipush (v := 8) hx hb dX12_proof_145 (by decide) ?_
      refine lv_iload_n hx hb dX12_proof_147 rfl (lv_at hl 2 rfl) ?_
      refine lv_imul hx hb dX12_proof_148 ?_
      refine lv_iconst (v := 5) hx hb dX12_proof_149 (by decide) ?_
      refine lv_iadd hx hb dX12_proof_150 ?_
      replace q := ck_s q
      obtain ⟨hin, q⟩ := q
      refine x_iald hx hb hX M ra_18 (inb_in hin) dX12_proof_151 ?_
      cases q
      exact x_iret hx hb hr hlk M Ext.rf dX12_proof_152
    replace q := if_f cx_6_6 q
    by_cases cx_6_7 : x_6 = 7
    · replace q := if_t cx_6_7 q
      subst cx_6_7
      refine lv_tableIn (off := 132) (tgt := 153) hx hb dX12_proof_21 (by decide) (by decide) (by decide) (by decide) ?_
      refine lv_aload_n hx hb dX12_proof_153 rfl (lv_at hl 1 rfl) ?_
      replace q := nn_s q
      obtain ⟨a_19, e_a_19, q⟩ := q
      refine x_getR hx hb hown hX M e_a_19 okX12 ra0 (by decide) rfl kw_1021 dX12_proof_154 (fun ra_19 => ?_)
      refine lv_bipush (v := 8) hx hb dX12_proof_157 (by decide) ?_
      refine lv_iload_n hx hb dX12_proof_159 rfl (lv_at hl 2 rfl) ?_
      refine lv_imul hx hb dX12_proof_160 ?_
      refine lv_bipush (v := 6) hx hb dX12_proof_161 (by decide) ?_
      refine lv_iadd hx hb dX12_proof_163 ?_
      replace q := ck_s q
      obtain ⟨hin, q⟩ := q
      refine x_iald hx hb hX M ra_19 (inb_in hin) dX12_proof_164 ?_
      cases q
      exact x_iret hx hb hr hlk M Ext.rf dX12_proof_165
    replace q := if_f cx_6_7 q
    refine lv_tableOut (tgt := 166) hx hb dX12_proof_21 (sw_def (fun z h1 h2 => ?_)) (by decide) ?_
    · have hz : z = 0 ∨ z = 1 ∨ z = 2 ∨ z = 3 ∨ z = 4 ∨ z = 5 ∨ z = 6 ∨ z = 7 := by omega
      rcases hz with rfl | rfl | rfl | rfl | rfl | rfl | rfl | rfl
      · exact cx_6_0
      · exact cx_6_1
      · exact cx_6_2
      · exact cx_6_3
      · exact cx_6_4
      · exact cx_6_5
      · exact cx_6_6
      · exact cx_6_7
    · refine lv_iconst (v := -1) hx hb dX12_proof_166 (by decide) ?_
      cases q
      exact x_iret hx hb hr hlk M Ext.rf dX12_proof_167
  · replace q := if_t c_3 q
    refine lv_iconst (v := -1) hx hb dX12_proof_8 (by decide) ?_
    cases q
    exact x_iret hx hb hr hlk M Ext.rf dX12_proof_9
set_option maxRecDepth 100000 in
theorem c_X12_proof {l : Launch} {D : va_G} {cA : Nat → ClassId} {lo tS N : Nat} {S : Hs} {g g1 : Hg} {rv : Int32} {a0 : Nat} {x1 : Int32} {x2 : Int32} (ra0 : Rf lo S a0 12) (q : f_X12_proof N S g a0 x1 x2 = some (rv, g1)) {d : Nat} (hd : 2 ≤ d) : Ctr l yX12_proof cX12_proof 4 (some .int) D cA lo tS [.ref a0, .int x1, .int x2] S g d (some (.int rv)) S g1 True 0 0 := by
  refine x_met (by decide) (Nat.le_of_ble_eq_true rfl) ?_
  intro p e s m below meth c ls hx hb hml hr hlk hown hnm hX M hl
  exact w_X12_proof_0 hx hb hml hr hlk hown hX hd (Nat.mul_le_mul_left 60 hd) (N := N) _ _ _ _ _ _ _ M ra0 (lv_sub hl [0, 1, 2] rfl) q
def b_X12_prune_16 (N : Nat) (S : Hs) (k16 : Hg → Nat → Int32 → Int32 → Int32 → Int32 → Option (Int32 × Hg)) (g : Hg) (a0 : Nat) (x1 : Int32) (x2 : Int32) (x3 : Int32) (x4 : Int32) : Option (Int32 × Hg) :=
if x2 ≤ x4 then (
some (x3, g)) else (
nm (((400 : Int32) * x1) + x4) (fun x_2 =>
nn (rdR g a0 4) (fun a_3 =>
ck (inb x_2 (hpL S a_3)) (
if (rdI g a_3 x_2.toNatClampNeg) = 0 then (
nn (rdR g a0 5) (fun a_6 =>
ck (inb x_2 (hpL S a_6)) (
if (rdI g a_6 x_2.toNatClampNeg) = 0 then (
nn (rdR g a0 4) (fun a_8 =>
ck (inb x_2 (hpL S a_8)) (
nm (wrI g a_8 x_2.toNatClampNeg (1 : Int32)) (fun g_9 =>
nm (x3 + 1) (fun x_10 =>
nm (x4 + 1) (fun x_11 =>
k16 g_9 a0 x1 x2 x_10 x_11)))))) else (
nm (x4 + 1) (fun x_12 =>
k16 g a0 x1 x2 x3 x_12))))) else (
nm (x4 + 1) (fun x_5 =>
k16 g a0 x1 x2 x3 x_5))))))
def n_X12_prune_16 (N : Nat) (S : Hs) : Nat → Hg → Nat → Int32 → Int32 → Int32 → Int32 → Option (Int32 × Hg)
  | 0 => fun _ _ _ _ _ _ => none
  | n + 1 => fun g a0 x1 x2 x3 x4 => b_X12_prune_16 N S (n_X12_prune_16 N S n) g a0 x1 x2 x3 x4
def b_X12_prune_0 (N : Nat) (S : Hs) (g : Hg) (a0 : Nat) (x1 : Int32) (x2 : Int32) : Option (Int32 × Hg) :=
c2 (f_X12_isCount N S g a0 x1 x2) (fun x_2 g_1 =>
if x_2 = 0 then (
some ((-1 : Int32), g_1)) else (
n_X12_prune_16 N S N g_1 a0 x1 x2 (0 : Int32) (0 : Int32)))
def f_X12_prune (N : Nat) (S : Hs) (g : Hg) (a0 : Nat) (x1 : Int32) (x2 : Int32) : Option (Int32 × Hg) := b_X12_prune_0 N S g a0 x1 x2
set_option maxHeartbeats 4000000 in
set_option maxRecDepth 100000 in
theorem w_X12_prune_16 (hx : p.tables.exec = Jvm.exec) (hb : c.code = cX12_prune) (hml : c.maxLocals = 6) (hr : meth.sig.returnType = (some .int)) (hlk : meth.locks = false) (hown : s.vm.findClass RX12 = some m.cls) (hX : Kx D cA lo tS s) (hRf : 3 ≤ R.frames) (hRl : 180 ≤ R.locals) {N : Nat} {rv : Int32} {g1 : Hg} {S : Hs} {k16 : Hg → Nat → Int32 → Int32 → Int32 → Int32 → Option (Int32 × Hg)} (hk16 : ∀ (H : Heap) (locs : List Loc) (ls : Array Slot) (g : Hg) (a0 : Nat) (x1 : Int32) (x2 : Int32) (x3 : Int32) (x4 : Int32), Mm D cA lo S g s H locs → Rf lo S a0 12 → lv_has ls 6 [(0, .ref a0), (1, .int x1), (2, .int x2), (3, .int x3), (4, .int x4)] → k16 g a0 x1 x2 x3 x4 = some (rv, g1) → W p l e R s m args below meth c H locs 0 0 (MQ below (Qcx D cA lo S (some (.int rv)) S g1 True) args s 0 0 (fun q : Nat => lo ≤ q)) (F0 m 16 ls [])) : ∀ (H : Heap) (locs : List Loc) (ls : Array Slot) (g : Hg) (a0 : Nat) (x1 : Int32) (x2 : Int32) (x3 : Int32) (x4 : Int32), Mm D cA lo S g s H locs → Rf lo S a0 12 → lv_has ls 6 [(0, .ref a0), (1, .int x1), (2, .int x2), (3, .int x3), (4, .int x4)] → b_X12_prune_16 N S k16 g a0 x1 x2 x3 x4 = some (rv, g1) → W p l e R s m args below meth c H locs 0 0 (MQ below (Qcx D cA lo S (some (.int rv)) S g1 True) args s 0 0 (fun q : Nat => lo ≤ q)) (F0 m 16 ls []) := by
  intro H locs ls g a0 x1 x2 x3 x4 M ra0 hl q
  unfold b_X12_prune_16 at q
  refine lv_iload hx hb dX12_prune_16 (lv_at hl 4 rfl) ?_
  refine lv_iload_n hx hb dX12_prune_18 rfl (lv_at hl 2 rfl) ?_
  refine lv_icmp_ge (tgt := 72) hx hb dX12_prune_19 (by decide) (fun c_1 => ?_) (fun c_1 => ?_)
  · replace q := if_t c_1 q
    refine lv_iload_n hx hb dX12_prune_72 rfl (lv_at hl 3 rfl) ?_
    cases q
    exact x_iret hx hb hr hlk M Ext.rf dX12_prune_73
  · replace q := if_f c_1 q
    refine lv_sipush (v := 400) hx hb dX12_prune_22 (by decide) ?_
    refine lv_iload_n hx hb dX12_prune_25 rfl (lv_at hl 1 rfl) ?_
    refine lv_imul hx hb dX12_prune_26 ?_
    refine lv_iload hx hb dX12_prune_27 (lv_at hl 4 rfl) ?_
    refine lv_iadd hx hb dX12_prune_29 ?_
    refine lv_topi (fun x_2 e_x_2 => ?_)
    replace q := nm_s q e_x_2
    refine lv_istore (lv' := [(5, .int x_2), (0, .ref a0), (1, .int x1), (2, .int x2), (3, .int x3), (4, .int x4)]) hx hb dX12_prune_30 hl (by decide) rfl (fun ls hl => ?_)
    refine lv_aload_n hx hb dX12_prune_32 rfl (lv_at hl 1 rfl) ?_
    replace q := nn_s q
    obtain ⟨a_3, e_a_3, q⟩ := q
    refine x_getR hx hb hown hX M e_a_3 okX12 ra0 (by decide) rfl kw_1016 dX12_prune_33 (fun ra_3 => ?_)
    refine lv_iload hx hb dX12_prune_36 (lv_at hl 0 rfl) ?_
    replace q := ck_s q
    obtain ⟨hin, q⟩ := q
    refine x_zald hx hb hX M ra_3 (inb_in hin) dX12_prune_38 ?_
    refine lv_if_ne (tgt := 66) hx hb dX12_prune_39 (by decide) (fun c_4 => ?_) (fun c_4 => ?_)
    · replace q := if_f c_4 q
      obtain ⟨x_5, e_x_5⟩ : ∃ y : Int32, y = x4 + 1 := ⟨_, rfl⟩
      replace q := nm_s q e_x_5
      refine lv_iinc (v := x_5) (lv' := [(4, .int x_5), (5, .int x_2), (0, .ref a0), (1, .int x1), (2, .int x2), (3, .int x3)]) hx hb dX12_prune_66 hl (k := 5) rfl (by rw [e_x_5]; rfl) (by decide) rfl (fun ls hl => ?_)
      refine lv_goto (tgt := 16) hx hb dX12_prune_69 (by decide) ?_
      exact hk16 _ _ _ _ _ _ _ _ _ M ra0 (lv_sub hl [2, 3, 4, 5, 0] rfl) q
    · replace q := if_t c_4 q
      refine lv_aload_n hx hb dX12_prune_42 rfl (lv_at hl 1 rfl) ?_
      replace q := nn_s q
      obtain ⟨a_6, e_a_6, q⟩ := q
      refine x_getR hx hb hown hX M e_a_6 okX12 ra0 (by decide) rfl kw_1017 dX12_prune_43 (fun ra_6 => ?_)
      refine lv_iload hx hb dX12_prune_46 (lv_at hl 0 rfl) ?_
      replace q := ck_s q
      obtain ⟨hin, q⟩ := q
      refine x_zald hx hb hX M ra_6 (inb_in hin) dX12_prune_48 ?_
      refine lv_if_eq (tgt := 55) hx hb dX12_prune_49 (by decide) (fun c_7 => ?_) (fun c_7 => ?_)
      · replace q := if_t c_7 q
        refine lv_aload_n hx hb dX12_prune_55 rfl (lv_at hl 1 rfl) ?_
        replace q := nn_s q
        obtain ⟨a_8, e_a_8, q⟩ := q
        refine x_getR hx hb hown hX M e_a_8 okX12 ra0 (by decide) rfl kw_1016 dX12_prune_56 (fun ra_8 => ?_)
        refine lv_iload hx hb dX12_prune_59 (lv_at hl 0 rfl) ?_
        refine lv_iconst (v := 1) hx hb dX12_prune_61 (by decide) ?_
        replace q := ck_s q
        obtain ⟨hin, q⟩ := q
        refine x_zast hx hb hX M ra_8 rfl (inb_in hin) dX12_prune_62 (fun H locs M => ?_)
        replace q := gen_g M q
        obtain ⟨g_9, -, M, q⟩ := q
        obtain ⟨x_10, e_x_10⟩ : ∃ y : Int32, y = x3 + 1 := ⟨_, rfl⟩
        replace q := nm_s q e_x_10
        refine lv_iinc (v := x_10) (lv' := [(3, .int x_10), (5, .int x_2), (0, .ref a0), (1, .int x1), (2, .int x2), (4, .int x4)]) hx hb dX12_prune_63 hl (k := 4) rfl (by rw [e_x_10]; rfl) (by decide) rfl (fun ls hl => ?_)
        obtain ⟨x_11, e_x_11⟩ : ∃ y : Int32, y = x4 + 1 := ⟨_, rfl⟩
        replace q := nm_s q e_x_11
        refine lv_iinc (v := x_11) (lv' := [(4, .int x_11), (3, .int x_10), (5, .int x_2), (0, .ref a0), (1, .int x1), (2, .int x2)]) hx hb dX12_prune_66 hl (k := 5) rfl (by rw [e_x_11]; rfl) (by decide) rfl (fun ls hl => ?_)
        refine lv_goto (tgt := 16) hx hb dX12_prune_69 (by decide) ?_
        exact hk16 _ _ _ _ _ _ _ _ _ M ra0 (lv_sub hl [3, 4, 5, 1, 0] rfl) q
      · replace q := if_f c_7 q
        refine lv_goto (tgt := 66) hx hb dX12_prune_52 (by decide) ?_
        obtain ⟨x_12, e_x_12⟩ : ∃ y : Int32, y = x4 + 1 := ⟨_, rfl⟩
        replace q := nm_s q e_x_12
        refine lv_iinc (v := x_12) (lv' := [(4, .int x_12), (5, .int x_2), (0, .ref a0), (1, .int x1), (2, .int x2), (3, .int x3)]) hx hb dX12_prune_66 hl (k := 5) rfl (by rw [e_x_12]; rfl) (by decide) rfl (fun ls hl => ?_)
        refine lv_goto (tgt := 16) hx hb dX12_prune_69 (by decide) ?_
        exact hk16 _ _ _ _ _ _ _ _ _ M ra0 (lv_sub hl [2, 3, 4, 5, 0] rfl) q
set_option maxRecDepth 100000 in
theorem l_X12_prune_16 (hx : p.tables.exec = Jvm.exec) (hb : c.code = cX12_prune) (hml : c.maxLocals = 6) (hr : meth.sig.returnType = (some .int)) (hlk : meth.locks = false) (hown : s.vm.findClass RX12 = some m.cls) (hX : Kx D cA lo tS s) (hRf : 3 ≤ R.frames) (hRl : 180 ≤ R.locals) {N : Nat} {rv : Int32} {g1 : Hg} {S : Hs} : ∀ (n : Nat), ∀ (H : Heap) (locs : List Loc) (ls : Array Slot) (g : Hg) (a0 : Nat) (x1 : Int32) (x2 : Int32) (x3 : Int32) (x4 : Int32), Mm D cA lo S g s H locs → Rf lo S a0 12 → lv_has ls 6 [(0, .ref a0), (1, .int x1), (2, .int x2), (3, .int x3), (4, .int x4)] → n_X12_prune_16 N S n g a0 x1 x2 x3 x4 = some (rv, g1) → W p l e R s m args below meth c H locs 0 0 (MQ below (Qcx D cA lo S (some (.int rv)) S g1 True) args s 0 0 (fun q : Nat => lo ≤ q)) (F0 m 16 ls []) := by
  intro n
  induction n with
  | zero =>
    intro H locs ls g a0 x1 x2 x3 x4 M ra0 hl q
    exact absurd q (by simp [n_X12_prune_16])
  | succ n ih => exact w_X12_prune_16 hx hb hml hr hlk hown hX hRf hRl (N := N)  ih
set_option maxHeartbeats 4000000 in
set_option maxRecDepth 100000 in
theorem w_X12_prune_0 (hx : p.tables.exec = Jvm.exec) (hb : c.code = cX12_prune) (hml : c.maxLocals = 6) (hr : meth.sig.returnType = (some .int)) (hlk : meth.locks = false) (hown : s.vm.findClass RX12 = some m.cls) (hX : Kx D cA lo tS s) (hRf : 3 ≤ R.frames) (hRl : 180 ≤ R.locals) {N : Nat} {rv : Int32} {g1 : Hg} {S : Hs} : ∀ (H : Heap) (locs : List Loc) (ls : Array Slot) (g : Hg) (a0 : Nat) (x1 : Int32) (x2 : Int32), Mm D cA lo S g s H locs → Rf lo S a0 12 → lv_has ls 6 [(0, .ref a0), (1, .int x1), (2, .int x2)] → b_X12_prune_0 N S g a0 x1 x2 = some (rv, g1) → W p l e R s m args below meth c H locs 0 0 (MQ below (Qcx D cA lo S (some (.int rv)) S g1 True) args s 0 0 (fun q : Nat => lo ≤ q)) (F0 m 0 ls []) := by
  intro H locs ls g a0 x1 x2 M ra0 hl q
  unfold b_X12_prune_0 at q
  refine lv_aload_n hx hb dX12_prune_0 rfl (lv_at hl 0 rfl) ?_
  refine lv_iload_n hx hb dX12_prune_1 rfl (lv_at hl 1 rfl) ?_
  refine lv_iload_n hx hb dX12_prune_2 rfl (lv_at hl 2 rfl) ?_
  replace q := c2_s q
  obtain ⟨x_2, g_1, qc, q⟩ := q
  refine x_callV hx hb hml hl.1 hown hX M (S1 := S) (As := [.int x1, .int x2]) (rest := []) okX12 ra0 rfl kw_1233 kw_16 mok_X12_isCount (c_X12_isCount ra0 qc (Nat.le_refl 2)) kw_1231 rfl rfl dX12_prune_3 (Nat.le_of_ble_eq_true rfl) ⟨Nat.le_trans (by decide) hRf, Nat.le_trans (by decide) hRl⟩ (Nat.zero_le _) (Nat.zero_le _) (fun H locs M hEF => ?_)
  refine lv_if_ne (tgt := 11) hx hb dX12_prune_6 (by decide) (fun c_3 => ?_) (fun c_3 => ?_)
  · replace q := if_f c_3 q
    refine lv_iconst (v := 0) hx hb dX12_prune_11 (by decide) ?_
    refine lv_istore_n (lv' := [(3, .int (0 : Int32)), (0, .ref a0), (1, .int x1), (2, .int x2)]) hx hb dX12_prune_12 rfl hl (by decide) rfl (fun ls hl => ?_)
    refine lv_iconst (v := 0) hx hb dX12_prune_13 (by decide) ?_
    refine lv_istore (lv' := [(4, .int (0 : Int32)), (3, .int (0 : Int32)), (0, .ref a0), (1, .int x1), (2, .int x2)]) hx hb dX12_prune_14 hl (by decide) rfl (fun ls hl => ?_)
    exact l_X12_prune_16 hx hb hml hr hlk hown hX hRf hRl (N := N)  N _ _ _ _ _ _ _ _ _ M ra0 (lv_sub hl [2, 3, 4, 1, 0] rfl) q
  · replace q := if_t c_3 q
    refine lv_iconst (v := -1) hx hb dX12_prune_9 (by decide) ?_
    cases q
    exact x_iret hx hb hr hlk M Ext.rf dX12_prune_10
set_option maxRecDepth 100000 in
theorem c_X12_prune {l : Launch} {D : va_G} {cA : Nat → ClassId} {lo tS N : Nat} {S : Hs} {g g1 : Hg} {rv : Int32} {a0 : Nat} {x1 : Int32} {x2 : Int32} (ra0 : Rf lo S a0 12) (q : f_X12_prune N S g a0 x1 x2 = some (rv, g1)) {d : Nat} (hd : 3 ≤ d) : Ctr l yX12_prune cX12_prune 6 (some .int) D cA lo tS [.ref a0, .int x1, .int x2] S g d (some (.int rv)) S g1 True 0 0 := by
  refine x_met (by decide) (Nat.le_of_ble_eq_true rfl) ?_
  intro p e s m below meth c ls hx hb hml hr hlk hown hnm hX M hl
  exact w_X12_prune_0 hx hb hml hr hlk hown hX hd (Nat.mul_le_mul_left 60 hd) (N := N) _ _ _ _ _ _ _ M ra0 (lv_sub hl [0, 1, 2] rfl) q
def b_X12_reader_0 (N : Nat) (S : Hs) (g : Hg) (a0 : Nat) (x1 : Int32) (x2 : Int32) : Option (Int32 × Hg) :=
c2 (f_X12_isReader N S g a0 x1) (fun x_2 g_1 =>
if x_2 = 0 then (
some ((-1 : Int32), g_1)) else (
if x2 = (3 : Int32) then (
nn (rdR g_1 a0 13) (fun a_10 =>
ck (inb (((28 : Int32) * x1) + (3 : Int32)) (hpL S a_10)) (
some ((rdI g_1 a_10 (((28 : Int32) * x1) + (3 : Int32)).toNatClampNeg), g_1)))) else (
if x2 < 0 then (
some ((-1 : Int32), g_1)) else (
if (3 : Int32) ≤ x2 then (
some ((-1 : Int32), g_1)) else (
nn (rdR g_1 a0 14) (fun a_7 =>
ck (inb x1 (hpL S a_7)) (
if (rdI g_1 a_7 x1.toNatClampNeg) = 0 then (
some ((-1 : Int32), g_1)) else (
nn (rdR g_1 a0 13) (fun a_9 =>
ck (inb (((28 : Int32) * x1) + x2) (hpL S a_9)) (
some ((rdI g_1 a_9 (((28 : Int32) * x1) + x2).toNatClampNeg), g_1)))))))))))
def f_X12_reader (N : Nat) (S : Hs) (g : Hg) (a0 : Nat) (x1 : Int32) (x2 : Int32) : Option (Int32 × Hg) := b_X12_reader_0 N S g a0 x1 x2
set_option maxHeartbeats 4000000 in
set_option maxRecDepth 100000 in
theorem w_X12_reader_0 (hx : p.tables.exec = Jvm.exec) (hb : c.code = cX12_reader) (hml : c.maxLocals = 3) (hr : meth.sig.returnType = (some .int)) (hlk : meth.locks = false) (hown : s.vm.findClass RX12 = some m.cls) (hX : Kx D cA lo tS s) (hRf : 2 ≤ R.frames) (hRl : 120 ≤ R.locals) {N : Nat} {rv : Int32} {g1 : Hg} {S : Hs} : ∀ (H : Heap) (locs : List Loc) (ls : Array Slot) (g : Hg) (a0 : Nat) (x1 : Int32) (x2 : Int32), Mm D cA lo S g s H locs → Rf lo S a0 12 → lv_has ls 3 [(0, .ref a0), (1, .int x1), (2, .int x2)] → b_X12_reader_0 N S g a0 x1 x2 = some (rv, g1) → W p l e R s m args below meth c H locs 0 0 (MQ below (Qcx D cA lo S (some (.int rv)) S g1 True) args s 0 0 (fun q : Nat => lo ≤ q)) (F0 m 0 ls []) := by
  intro H locs ls g a0 x1 x2 M ra0 hl q
  unfold b_X12_reader_0 at q
  refine lv_aload_n hx hb dX12_reader_0 rfl (lv_at hl 0 rfl) ?_
  refine lv_iload_n hx hb dX12_reader_1 rfl (lv_at hl 1 rfl) ?_
  replace q := c2_s q
  obtain ⟨x_2, g_1, qc, q⟩ := q
  refine x_callV hx hb hml hl.1 hown hX M (S1 := S) (As := [.int x1]) (rest := []) okX12 ra0 rfl kw_1421 kw_43 mok_X12_isReader (c_X12_isReader ra0 qc (Nat.le_refl 1)) kw_1419 rfl rfl dX12_reader_2 (Nat.le_of_ble_eq_true rfl) ⟨Nat.le_trans (by decide) hRf, Nat.le_trans (by decide) hRl⟩ (Nat.zero_le _) (Nat.zero_le _) (fun H locs M hEF => ?_)
  refine lv_if_ne (tgt := 10) hx hb dX12_reader_5 (by decide) (fun c_3 => ?_) (fun c_3 => ?_)
  · replace q := if_f c_3 q
    refine lv_iload_n hx hb dX12_reader_10 rfl (lv_at hl 2 rfl) ?_
    refine lv_iconst (v := 3) hx hb dX12_reader_11 (by decide) ?_
    refine lv_icmp_ne (tgt := 27) hx hb dX12_reader_12 (by decide) (fun c_4 => ?_) (fun c_4 => ?_)
    · replace q := if_f c_4 q
      refine lv_iload_n hx hb dX12_reader_27 rfl (lv_at hl 2 rfl) ?_
      refine lv_if_lt (tgt := 59) hx hb dX12_reader_28 (by decide) (fun c_5 => ?_) (fun c_5 => ?_)
      · replace q := if_t c_5 q
        refine lv_iconst (v := -1) hx hb dX12_reader_59 (by decide) ?_
        cases q
        exact x_iret hx hb hr hlk M Ext.rf dX12_reader_60
      · replace q := if_f c_5 q
        refine lv_iload_n hx hb dX12_reader_31 rfl (lv_at hl 2 rfl) ?_
        refine lv_iconst (v := 3) hx hb dX12_reader_32 (by decide) ?_
        refine lv_icmp_ge (tgt := 59) hx hb dX12_reader_33 (by decide) (fun c_6 => ?_) (fun c_6 => ?_)
        · replace q := if_t c_6 q
          refine lv_iconst (v := -1) hx hb dX12_reader_59 (by decide) ?_
          cases q
          exact x_iret hx hb hr hlk M Ext.rf dX12_reader_60
        · replace q := if_f c_6 q
          refine lv_aload_n hx hb dX12_reader_36 rfl (lv_at hl 0 rfl) ?_
          replace q := nn_s q
          obtain ⟨a_7, e_a_7, q⟩ := q
          refine x_getR hx hb hown hX M e_a_7 okX12 ra0 (by decide) rfl kw_1026 dX12_reader_37 (fun ra_7 => ?_)
          refine lv_iload_n hx hb dX12_reader_40 rfl (lv_at hl 1 rfl) ?_
          replace q := ck_s q
          obtain ⟨hin, q⟩ := q
          refine x_zald hx hb hX M ra_7 (inb_in hin) dX12_reader_41 ?_
          refine lv_if_eq (tgt := 59) hx hb dX12_reader_42 (by decide) (fun c_8 => ?_) (fun c_8 => ?_)
          · replace q := if_t c_8 q
            refine lv_iconst (v := -1) hx hb dX12_reader_59 (by decide) ?_
            cases q
            exact x_iret hx hb hr hlk M Ext.rf dX12_reader_60
          · replace q := if_f c_8 q
            refine lv_aload_n hx hb dX12_reader_45 rfl (lv_at hl 0 rfl) ?_
            replace q := nn_s q
            obtain ⟨a_9, e_a_9, q⟩ := q
            refine x_getR hx hb hown hX M e_a_9 okX12 ra0 (by decide) rfl kw_1025 dX12_reader_46 (fun ra_9 => ?_)
            refine lv_bipush (v := 28) hx hb dX12_reader_49 (by decide) ?_
            refine lv_iload_n hx hb dX12_reader_51 rfl (lv_at hl 1 rfl) ?_
            refine lv_imul hx hb dX12_reader_52 ?_
            refine lv_iload_n hx hb dX12_reader_53 rfl (lv_at hl 2 rfl) ?_
            refine lv_iadd hx hb dX12_reader_54 ?_
            replace q := ck_s q
            obtain ⟨hin, q⟩ := q
            refine x_iald hx hb hX M ra_9 (inb_in hin) dX12_reader_55 ?_
            refine lv_goto (tgt := 60) hx hb dX12_reader_56 (by decide) ?_
            cases q
            exact x_iret hx hb hr hlk M Ext.rf dX12_reader_60
    · replace q := if_t c_4 q
      refine lv_aload_n hx hb dX12_reader_15 rfl (lv_at hl 0 rfl) ?_
      replace q := nn_s q
      obtain ⟨a_10, e_a_10, q⟩ := q
      refine x_getR hx hb hown hX M e_a_10 okX12 ra0 (by decide) rfl kw_1025 dX12_reader_16 (fun ra_10 => ?_)
      refine lv_bipush (v := 28) hx hb dX12_reader_19 (by decide) ?_
      refine lv_iload_n hx hb dX12_reader_21 rfl (lv_at hl 1 rfl) ?_
      refine lv_imul hx hb dX12_reader_22 ?_
      refine lv_iconst (v := 3) hx hb dX12_reader_23 (by decide) ?_
      refine lv_iadd hx hb dX12_reader_24 ?_
      replace q := ck_s q
      obtain ⟨hin, q⟩ := q
      refine x_iald hx hb hX M ra_10 (inb_in hin) dX12_reader_25 ?_
      cases q
      exact x_iret hx hb hr hlk M Ext.rf dX12_reader_26
  · replace q := if_t c_3 q
    refine lv_iconst (v := -1) hx hb dX12_reader_8 (by decide) ?_
    cases q
    exact x_iret hx hb hr hlk M Ext.rf dX12_reader_9
set_option maxRecDepth 100000 in
theorem c_X12_reader {l : Launch} {D : va_G} {cA : Nat → ClassId} {lo tS N : Nat} {S : Hs} {g g1 : Hg} {rv : Int32} {a0 : Nat} {x1 : Int32} {x2 : Int32} (ra0 : Rf lo S a0 12) (q : f_X12_reader N S g a0 x1 x2 = some (rv, g1)) {d : Nat} (hd : 2 ≤ d) : Ctr l yX12_reader cX12_reader 3 (some .int) D cA lo tS [.ref a0, .int x1, .int x2] S g d (some (.int rv)) S g1 True 0 0 := by
  refine x_met (by decide) (Nat.le_of_ble_eq_true rfl) ?_
  intro p e s m below meth c ls hx hb hml hr hlk hown hnm hX M hl
  exact w_X12_reader_0 hx hb hml hr hlk hown hX hd (Nat.mul_le_mul_left 60 hd) (N := N) _ _ _ _ _ _ _ M ra0 (lv_sub hl [0, 1, 2] rfl) q
def b_X12_smear_0 (N : Nat) (S : Hs) (g : Hg) (a0 : Nat) (x1 : Int32) (x2 : Int32) (x3 : Int32) : Option (Int32 × Hg) :=
if x1 < 0 then (
some ((0 : Int32), g)) else (
if (rdI g a0 16) ≤ x1 then (
some ((0 : Int32), g)) else (
if x2 < 0 then (
some ((0 : Int32), g)) else (
if x2 ≤ (7 : Int32) then (
nn (rdR g a0 15) (fun a_5 =>
ck (inb (((((56 : Int32) * x1) + (28 : Int32)) + (20 : Int32)) + x2) (hpL S a_5)) (
ck (inb (((((56 : Int32) * x1) + (28 : Int32)) + (20 : Int32)) + x2) (hpL S a_5)) (
nm (wrI g a_5 (((((56 : Int32) * x1) + (28 : Int32)) + (20 : Int32)) + x2).toNatClampNeg ((rdI g a_5 (((((56 : Int32) * x1) + (28 : Int32)) + (20 : Int32)) + x2).toNatClampNeg) ^^^ x3)) (fun g_6 =>
some ((1 : Int32), g_6)))))) else (
some ((0 : Int32), g)))))
def f_X12_smear (N : Nat) (S : Hs) (g : Hg) (a0 : Nat) (x1 : Int32) (x2 : Int32) (x3 : Int32) : Option (Int32 × Hg) := b_X12_smear_0 N S g a0 x1 x2 x3
set_option maxHeartbeats 4000000 in
set_option maxRecDepth 100000 in
theorem w_X12_smear_0 (hx : p.tables.exec = Jvm.exec) (hb : c.code = cX12_smear) (hml : c.maxLocals = 4) (hr : meth.sig.returnType = (some .boolean)) (hlk : meth.locks = false) (hown : s.vm.findClass RX12 = some m.cls) (hX : Kx D cA lo tS s) (hRf : 1 ≤ R.frames) (hRl : 60 ≤ R.locals) {N : Nat} {rv : Int32} {g1 : Hg} {S : Hs} : ∀ (H : Heap) (locs : List Loc) (ls : Array Slot) (g : Hg) (a0 : Nat) (x1 : Int32) (x2 : Int32) (x3 : Int32), Mm D cA lo S g s H locs → Rf lo S a0 12 → lv_has ls 4 [(0, .ref a0), (1, .int x1), (2, .int x2), (3, .int x3)] → b_X12_smear_0 N S g a0 x1 x2 x3 = some (rv, g1) → W p l e R s m args below meth c H locs 0 0 (MQ below (Qcx D cA lo S (some (.int rv)) S g1 True) args s 0 0 (fun q : Nat => lo ≤ q)) (F0 m 0 ls []) := by
  intro H locs ls g a0 x1 x2 x3 M ra0 hl q
  unfold b_X12_smear_0 at q
  refine lv_iload_n hx hb dX12_smear_0 rfl (lv_at hl 1 rfl) ?_
  refine lv_if_lt (tgt := 22) hx hb dX12_smear_1 (by decide) (fun c_1 => ?_) (fun c_1 => ?_)
  · replace q := if_t c_1 q
    refine lv_iconst (v := 0) hx hb dX12_smear_22 (by decide) ?_
    cases q
    exact x_zret hx hb hr hlk rfl M Ext.rf dX12_smear_23
  · replace q := if_f c_1 q
    refine lv_iload_n hx hb dX12_smear_4 rfl (lv_at hl 1 rfl) ?_
    refine lv_aload_n hx hb dX12_smear_5 rfl (lv_at hl 0 rfl) ?_
    refine x_getI hx hb hown hX M (k := 16) okX12 ra0 (by decide) rfl kw_1028 dX12_smear_6 ?_
    refine lv_icmp_ge (tgt := 22) hx hb dX12_smear_9 (by decide) (fun c_2 => ?_) (fun c_2 => ?_)
    · replace q := if_t c_2 q
      refine lv_iconst (v := 0) hx hb dX12_smear_22 (by decide) ?_
      cases q
      exact x_zret hx hb hr hlk rfl M Ext.rf dX12_smear_23
    · replace q := if_f c_2 q
      refine lv_iload_n hx hb dX12_smear_12 rfl (lv_at hl 2 rfl) ?_
      refine lv_if_lt (tgt := 22) hx hb dX12_smear_13 (by decide) (fun c_3 => ?_) (fun c_3 => ?_)
      · replace q := if_t c_3 q
        refine lv_iconst (v := 0) hx hb dX12_smear_22 (by decide) ?_
        cases q
        exact x_zret hx hb hr hlk rfl M Ext.rf dX12_smear_23
      · replace q := if_f c_3 q
        refine lv_iload_n hx hb dX12_smear_16 rfl (lv_at hl 2 rfl) ?_
        refine lv_bipush (v := 7) hx hb dX12_smear_17 (by decide) ?_
        refine lv_icmp_le (tgt := 24) hx hb dX12_smear_19 (by decide) (fun c_4 => ?_) (fun c_4 => ?_)
        · replace q := if_t c_4 q
          refine lv_aload_n hx hb dX12_smear_24 rfl (lv_at hl 0 rfl) ?_
          replace q := nn_s q
          obtain ⟨a_5, e_a_5, q⟩ := q
          refine x_getR hx hb hown hX M e_a_5 okX12 ra0 (by decide) rfl kw_1027 dX12_smear_25 (fun ra_5 => ?_)
          refine lv_bipush (v := 56) hx hb dX12_smear_28 (by decide) ?_
          refine lv_iload_n hx hb dX12_smear_30 rfl (lv_at hl 1 rfl) ?_
          refine lv_imul hx hb dX12_smear_31 ?_
          refine lv_bipush (v := 28) hx hb dX12_smear_32 (by decide) ?_
          refine lv_iadd hx hb dX12_smear_34 ?_
          refine lv_bipush (v := 20) hx hb dX12_smear_35 (by decide) ?_
          refine lv_iadd hx hb dX12_smear_37 ?_
          refine lv_iload_n hx hb dX12_smear_38 rfl (lv_at hl 2 rfl) ?_
          refine lv_iadd hx hb dX12_smear_39 ?_
          refine lv_dup2_11 hx hb dX12_smear_40 rfl rfl ?_
          replace q := ck_s q
          obtain ⟨hin, q⟩ := q
          refine x_iald hx hb hX M ra_5 (inb_in hin) dX12_smear_41 ?_
          refine lv_iload_n hx hb dX12_smear_42 rfl (lv_at hl 3 rfl) ?_
          refine lv_ixor hx hb dX12_smear_43 ?_
          replace q := ck_s q
          obtain ⟨hin, q⟩ := q
          refine x_iast hx hb hX M ra_5 (inb_in hin) dX12_smear_44 (fun H locs M => ?_)
          replace q := gen_g M q
          obtain ⟨g_6, -, M, q⟩ := q
          refine lv_iconst (v := 1) hx hb dX12_smear_45 (by decide) ?_
          cases q
          exact x_zret hx hb hr hlk rfl M Ext.rf dX12_smear_46
        · replace q := if_f c_4 q
          refine lv_iconst (v := 0) hx hb dX12_smear_22 (by decide) ?_
          cases q
          exact x_zret hx hb hr hlk rfl M Ext.rf dX12_smear_23
set_option maxRecDepth 100000 in
theorem c_X12_smear {l : Launch} {D : va_G} {cA : Nat → ClassId} {lo tS N : Nat} {S : Hs} {g g1 : Hg} {rv : Int32} {a0 : Nat} {x1 : Int32} {x2 : Int32} {x3 : Int32} (ra0 : Rf lo S a0 12) (q : f_X12_smear N S g a0 x1 x2 x3 = some (rv, g1)) {d : Nat} (hd : 1 ≤ d) : Ctr l yX12_smear cX12_smear 4 (some .boolean) D cA lo tS [.ref a0, .int x1, .int x2, .int x3] S g d (some (.int rv)) S g1 True 0 0 := by
  refine x_met (by decide) (Nat.le_of_ble_eq_true rfl) ?_
  intro p e s m below meth c ls hx hb hml hr hlk hown hnm hX M hl
  exact w_X12_smear_0 hx hb hml hr hlk hown hX hd (Nat.mul_le_mul_left 60 hd) (N := N) _ _ _ _ _ _ _ _ M ra0 (lv_sub hl [0, 1, 2, 3] rfl) q
def b_X12_span_97 (N : Nat) (S : Hs) (k97 : Hg → Nat → Int32 → Int32 → Int32 → Int32 → Int32 → Int32 → Option (Int32 × Hg)) (g : Hg) (a0 : Nat) (x1 : Int32) (x2 : Int32) (x3 : Int32) (x4 : Int32) (x5 : Int32) (x6 : Int32) : Option (Int32 × Hg) :=
if x5 ≤ x6 then (
c2 (f_X12_stepLog N S g a0 x1 x2 (0 : Int32) x4) (fun u_3 g_2 =>
c2 (f_X12_stepLog N S g_2 a0 x1 x2 x5 x3) (fun u_5 g_4 =>
nn (rdR g_4 a0 9) (fun a_6 =>
ck (inb (((8 : Int32) * x1) + (1 : Int32)) (hpL S a_6)) (
some ((rdI g_4 a_6 (((8 : Int32) * x1) + (1 : Int32)).toNatClampNeg), g_4)))))) else (
nn (rdR g a0 10) (fun a_7 =>
nn (rdR g a0 2) (fun a_8 =>
ck (inb (((400 : Int32) * x2) + x6) (hpL S a_8)) (
ck (inb ((((40 : Int32) * x1) + x6) - x4) (hpL S a_7)) (
nm (wrI g a_7 ((((40 : Int32) * x1) + x6) - x4).toNatClampNeg (rdI g a_8 (((400 : Int32) * x2) + x6).toNatClampNeg)) (fun g_9 =>
nn (rdR g_9 a0 11) (fun a_10 =>
nn (rdR g_9 a0 3) (fun a_11 =>
ck (inb (((400 : Int32) * x2) + x6) (hpL S a_11)) (
ck (inb ((((40 : Int32) * x1) + x6) - x4) (hpL S a_10)) (
nm (wrL g_9 a_10 ((((40 : Int32) * x1) + x6) - x4).toNatClampNeg (rdL g_9 a_11 (((400 : Int32) * x2) + x6).toNatClampNeg)) (fun g_12 =>
nm (x6 + 1) (fun x_13 =>
k97 g_12 a0 x1 x2 x3 x4 x5 x_13))))))))))))
def n_X12_span_97 (N : Nat) (S : Hs) : Nat → Hg → Nat → Int32 → Int32 → Int32 → Int32 → Int32 → Int32 → Option (Int32 × Hg)
  | 0 => fun _ _ _ _ _ _ _ _ => none
  | n + 1 => fun g a0 x1 x2 x3 x4 x5 x6 => b_X12_span_97 N S (n_X12_span_97 N S n) g a0 x1 x2 x3 x4 x5 x6
def b_X12_span_51 (N : Nat) (S : Hs) (k51 : Hg → Nat → Int32 → Int32 → Int32 → Int32 → Int32 → Int32 → Option (Int32 × Hg)) (g : Hg) (a0 : Nat) (x1 : Int32) (x2 : Int32) (x3 : Int32) (x4 : Int32) (x5 : Int32) (x6 : Int32) : Option (Int32 × Hg) :=
if x5 ≤ x6 then (
c2 (f_X12_begin N S g a0 x1 (5 : Int32) x3 x4 x5) (fun u_3 g_2 =>
n_X12_span_97 N S N g_2 a0 x1 x2 x3 x4 x5 x4)) else (
nn (rdR g a0 4) (fun a_4 =>
ck (inb (((400 : Int32) * x2) + x6) (hpL S a_4)) (
if (rdI g a_4 (((400 : Int32) * x2) + x6).toNatClampNeg) = 0 then (
nm (x6 + 1) (fun x_6 =>
k51 g a0 x1 x2 x3 x4 x5 x_6)) else (
some ((-1 : Int32), g)))))
def n_X12_span_51 (N : Nat) (S : Hs) : Nat → Hg → Nat → Int32 → Int32 → Int32 → Int32 → Int32 → Int32 → Option (Int32 × Hg)
  | 0 => fun _ _ _ _ _ _ _ _ => none
  | n + 1 => fun g a0 x1 x2 x3 x4 x5 x6 => b_X12_span_51 N S (n_X12_span_51 N S n) g a0 x1 x2 x3 x4 x5 x6
def b_X12_span_0 (N : Nat) (S : Hs) (g : Hg) (a0 : Nat) (x1 : Int32) (x2 : Int32) (x3 : Int32) (x4 : Int32) (x5 : Int32) : Option (Int32 × Hg) :=
c2 (f_X12_isSlot N S g a0 x1) (fun x_2 g_1 =>
if x_2 = 0 then (
some ((-1 : Int32), g_1)) else (
c2 (f_X12_isCount N S g_1 a0 x2 x3) (fun x_5 g_4 =>
if x_5 = 0 then (
some ((-1 : Int32), g_4)) else (
if x4 < 0 then (
some ((-1 : Int32), g_4)) else (
if x5 < x4 then (
some ((-1 : Int32), g_4)) else (
if x3 < x5 then (
some ((-1 : Int32), g_4)) else (
if (x5 - x4) ≤ (40 : Int32) then (
n_X12_span_51 N S N g_4 a0 x1 x2 x3 x4 x5 x4) else (
some ((-1 : Int32), g_4)))))))))
def f_X12_span (N : Nat) (S : Hs) (g : Hg) (a0 : Nat) (x1 : Int32) (x2 : Int32) (x3 : Int32) (x4 : Int32) (x5 : Int32) : Option (Int32 × Hg) := b_X12_span_0 N S g a0 x1 x2 x3 x4 x5
set_option maxHeartbeats 4000000 in
set_option maxRecDepth 100000 in
theorem w_X12_span_97 (hx : p.tables.exec = Jvm.exec) (hb : c.code = cX12_span) (hml : c.maxLocals = 7) (hr : meth.sig.returnType = (some .int)) (hlk : meth.locks = false) (hown : s.vm.findClass RX12 = some m.cls) (hX : Kx D cA lo tS s) (hRf : 306 ≤ R.frames) (hRl : 18360 ≤ R.locals) {N : Nat} {rv : Int32} {g1 : Hg} {S : Hs} {k97 : Hg → Nat → Int32 → Int32 → Int32 → Int32 → Int32 → Int32 → Option (Int32 × Hg)} (hk97 : ∀ (H : Heap) (locs : List Loc) (ls : Array Slot) (g : Hg) (a0 : Nat) (x1 : Int32) (x2 : Int32) (x3 : Int32) (x4 : Int32) (x5 : Int32) (x6 : Int32), Mm D cA lo S g s H locs → Rf lo S a0 12 → lv_has ls 7 [(0, .ref a0), (1, .int x1), (2, .int x2), (3, .int x3), (4, .int x4), (5, .int x5), (6, .int x6)] → k97 g a0 x1 x2 x3 x4 x5 x6 = some (rv, g1) → W p l e R s m args below meth c H locs 0 0 (MQ below (Qcx D cA lo S (some (.int rv)) S g1 True) args s 0 0 (fun q : Nat => lo ≤ q)) (F0 m 97 ls [])) : ∀ (H : Heap) (locs : List Loc) (ls : Array Slot) (g : Hg) (a0 : Nat) (x1 : Int32) (x2 : Int32) (x3 : Int32) (x4 : Int32) (x5 : Int32) (x6 : Int32), Mm D cA lo S g s H locs → Rf lo S a0 12 → lv_has ls 7 [(0, .ref a0), (1, .int x1), (2, .int x2), (3, .int x3), (4, .int x4), (5, .int x5), (6, .int x6)] → b_X12_span_97 N S k97 g a0 x1 x2 x3 x4 x5 x6 = some (rv, g1) → W p l e R s m args below meth c H locs 0 0 (MQ below (Qcx D cA lo S (some (.int rv)) S g1 True) args s 0 0 (fun q : Nat => lo ≤ q)) (F0 m 97 ls []) := by
  intro H locs ls g a0 x1 x2 x3 x4 x5 x6 M ra0 hl q
  unfold b_X12_span_97 at q
  refine lv_iload hx hb dX12_span_97 (lv_at hl 6 rfl) ?_
  refine lv_iload hx hb dX12_span_99 (lv_at hl 5 rfl) ?_
  refine lv_icmp_ge (tgt := 166) hx hb dX12_span_101 (by decide) (fun c_1 => ?_) (fun c_1 => ?_)
  · replace q := if_t c_1 q
    refine lv_aload_n hx hb dX12_span_166 rfl (lv_at hl 0 rfl) ?_
    refine lv_iload_n hx hb dX12_span_167 rfl (lv_at hl 1 rfl) ?_
    refine lv_iload_n hx hb dX12_span_168 rfl (lv_at hl 2 rfl) ?_
    refine lv_iconst (v := 0) hx hb dX12_span_169 (by decide) ?_
    refine lv_iload hx hb dX12_span_170 (lv_at hl 4 rfl) ?_
    replace q := c2_s q
    obtain ⟨u_3, g_2, qc, q⟩ := q
    refine x_callV hx hb hml hl.1 hown hX M (S1 := S) (As := [.int x1, .int x2, .int (0 : Int32), .int x4]) (rest := []) okX12 ra0 rfl kw_1365 kw_39 mok_X12_stepLog (c_X12_stepLog ra0 qc (Nat.le_refl 305)) kw_1363 rfl rfl dX12_span_172 (Nat.le_of_ble_eq_true rfl) ⟨Nat.le_trans (by decide) hRf, Nat.le_trans (by decide) hRl⟩ (Nat.zero_le _) (Nat.zero_le _) (fun H locs M hEF => ?_)
    refine lv_aload_n hx hb dX12_span_175 rfl (lv_at hl 0 rfl) ?_
    refine lv_iload_n hx hb dX12_span_176 rfl (lv_at hl 1 rfl) ?_
    refine lv_iload_n hx hb dX12_span_177 rfl (lv_at hl 2 rfl) ?_
    refine lv_iload hx hb dX12_span_178 (lv_at hl 5 rfl) ?_
    refine lv_iload_n hx hb dX12_span_180 rfl (lv_at hl 3 rfl) ?_
    replace q := c2_s q
    obtain ⟨u_5, g_4, qc, q⟩ := q
    refine x_callV hx hb hml hl.1 hown hX M (S1 := S) (As := [.int x1, .int x2, .int x5, .int x3]) (rest := []) okX12 ra0 rfl kw_1365 kw_39 mok_X12_stepLog (c_X12_stepLog ra0 qc (Nat.le_refl 305)) kw_1363 rfl rfl dX12_span_181 (Nat.le_of_ble_eq_true rfl) ⟨Nat.le_trans (by decide) hRf, Nat.le_trans (by decide) hRl⟩ (Nat.zero_le _) (Nat.zero_le _) (fun H locs M hEF => ?_)
    refine lv_aload_n hx hb dX12_span_184 rfl (lv_at hl 0 rfl) ?_
    replace q := nn_s q
    obtain ⟨a_6, e_a_6, q⟩ := q
    refine x_getR hx hb hown hX M e_a_6 okX12 ra0 (by decide) rfl kw_1021 dX12_span_185 (fun ra_6 => ?_)
    refine lv_bipush (v := 8) hx hb dX12_span_188 (by decide) ?_
    refine lv_iload_n hx hb dX12_span_190 rfl (lv_at hl 1 rfl) ?_
    refine lv_imul hx hb dX12_span_191 ?_
    refine lv_iconst (v := 1) hx hb dX12_span_192 (by decide) ?_
    refine lv_iadd hx hb dX12_span_193 ?_
    replace q := ck_s q
    obtain ⟨hin, q⟩ := q
    refine x_iald hx hb hX M ra_6 (inb_in hin) dX12_span_194 ?_
    cases q
    exact x_iret hx hb hr hlk M Ext.rf dX12_span_195
  · replace q := if_f c_1 q
    refine lv_aload_n hx hb dX12_span_104 rfl (lv_at hl 0 rfl) ?_
    replace q := nn_s q
    obtain ⟨a_7, e_a_7, q⟩ := q
    refine x_getR hx hb hown hX M e_a_7 okX12 ra0 (by decide) rfl kw_1022 dX12_span_105 (fun ra_7 => ?_)
    refine lv_bipush (v := 40) hx hb dX12_span_108 (by decide) ?_
    refine lv_iload_n hx hb dX12_span_110 rfl (lv_at hl 1 rfl) ?_
    refine lv_imul hx hb dX12_span_111 ?_
    refine lv_iload hx hb dX12_span_112 (lv_at hl 6 rfl) ?_
    refine lv_iadd hx hb dX12_span_114 ?_
    refine lv_iload hx hb dX12_span_115 (lv_at hl 4 rfl) ?_
    refine lv_isub hx hb dX12_span_117 ?_
    refine lv_aload_n hx hb dX12_span_118 rfl (lv_at hl 0 rfl) ?_
    replace q := nn_s q
    obtain ⟨a_8, e_a_8, q⟩ := q
    refine x_getR hx hb hown hX M e_a_8 okX12 ra0 (by decide) rfl kw_1014 dX12_span_119 (fun ra_8 => ?_)
    refine lv_sipush (v := 400) hx hb dX12_span_122 (by decide) ?_
    refine lv_iload_n hx hb dX12_span_125 rfl (lv_at hl 2 rfl) ?_
    refine lv_imul hx hb dX12_span_126 ?_
    refine lv_iload hx hb dX12_span_127 (lv_at hl 6 rfl) ?_
    refine lv_iadd hx hb dX12_span_129 ?_
    replace q := ck_s q
    obtain ⟨hin, q⟩ := q
    refine x_iald hx hb hX M ra_8 (inb_in hin) dX12_span_130 ?_
    replace q := ck_s q
    obtain ⟨hin, q⟩ := q
    refine x_iast hx hb hX M ra_7 (inb_in hin) dX12_span_131 (fun H locs M => ?_)
    replace q := gen_g M q
    obtain ⟨g_9, -, M, q⟩ := q
    refine lv_aload_n hx hb dX12_span_132 rfl (lv_at hl 0 rfl) ?_
    replace q := nn_s q
    obtain ⟨a_10, e_a_10, q⟩ := q
    refine x_getR hx hb hown hX M e_a_10 okX12 ra0 (by decide) rfl kw_1023 dX12_span_133 (fun ra_10 => ?_)
    refine lv_bipush (v := 40) hx hb dX12_span_136 (by decide) ?_
    refine lv_iload_n hx hb dX12_span_138 rfl (lv_at hl 1 rfl) ?_
    refine lv_imul hx hb dX12_span_139 ?_
    refine lv_iload hx hb dX12_span_140 (lv_at hl 6 rfl) ?_
    refine lv_iadd hx hb dX12_span_142 ?_
    refine lv_iload hx hb dX12_span_143 (lv_at hl 4 rfl) ?_
    refine lv_isub hx hb dX12_span_145 ?_
    refine lv_aload_n hx hb dX12_span_146 rfl (lv_at hl 0 rfl) ?_
    replace q := nn_s q
    obtain ⟨a_11, e_a_11, q⟩ := q
    refine x_getR hx hb hown hX M e_a_11 okX12 ra0 (by decide) rfl kw_1015 dX12_span_147 (fun ra_11 => ?_)
    refine lv_sipush (v := 400) hx hb dX12_span_150 (by decide) ?_
    refine lv_iload_n hx hb dX12_span_153 rfl (lv_at hl 2 rfl) ?_
    refine lv_imul hx hb dX12_span_154 ?_
    refine lv_iload hx hb dX12_span_155 (lv_at hl 6 rfl) ?_
    refine lv_iadd hx hb dX12_span_157 ?_
    replace q := ck_s q
    obtain ⟨hin, q⟩ := q
    refine x_lald hx hb hX M ra_11 (inb_in hin) dX12_span_158 ?_
    replace q := ck_s q
    obtain ⟨hin, q⟩ := q
    refine x_last hx hb hX M ra_10 (inb_in hin) dX12_span_159 (fun H locs M => ?_)
    replace q := gen_g M q
    obtain ⟨g_12, -, M, q⟩ := q
    obtain ⟨x_13, e_x_13⟩ : ∃ y : Int32, y = x6 + 1 := ⟨_, rfl⟩
    replace q := nm_s q e_x_13
    refine lv_iinc (v := x_13) (lv' := [(6, .int x_13), (0, .ref a0), (1, .int x1), (2, .int x2), (3, .int x3), (4, .int x4), (5, .int x5)]) hx hb dX12_span_160 hl (k := 6) rfl (by rw [e_x_13]; rfl) (by decide) rfl (fun ls hl => ?_)
    refine lv_goto (tgt := 97) hx hb dX12_span_163 (by decide) ?_
    exact hk97 _ _ _ _ _ _ _ _ _ _ _ M ra0 (lv_sub hl [1, 2, 3, 4, 5, 6, 0] rfl) q
set_option maxRecDepth 100000 in
theorem l_X12_span_97 (hx : p.tables.exec = Jvm.exec) (hb : c.code = cX12_span) (hml : c.maxLocals = 7) (hr : meth.sig.returnType = (some .int)) (hlk : meth.locks = false) (hown : s.vm.findClass RX12 = some m.cls) (hX : Kx D cA lo tS s) (hRf : 306 ≤ R.frames) (hRl : 18360 ≤ R.locals) {N : Nat} {rv : Int32} {g1 : Hg} {S : Hs} : ∀ (n : Nat), ∀ (H : Heap) (locs : List Loc) (ls : Array Slot) (g : Hg) (a0 : Nat) (x1 : Int32) (x2 : Int32) (x3 : Int32) (x4 : Int32) (x5 : Int32) (x6 : Int32), Mm D cA lo S g s H locs → Rf lo S a0 12 → lv_has ls 7 [(0, .ref a0), (1, .int x1), (2, .int x2), (3, .int x3), (4, .int x4), (5, .int x5), (6, .int x6)] → n_X12_span_97 N S n g a0 x1 x2 x3 x4 x5 x6 = some (rv, g1) → W p l e R s m args below meth c H locs 0 0 (MQ below (Qcx D cA lo S (some (.int rv)) S g1 True) args s 0 0 (fun q : Nat => lo ≤ q)) (F0 m 97 ls []) := by
  intro n
  induction n with
  | zero =>
    intro H locs ls g a0 x1 x2 x3 x4 x5 x6 M ra0 hl q
    exact absurd q (by simp [n_X12_span_97])
  | succ n ih => exact w_X12_span_97 hx hb hml hr hlk hown hX hRf hRl (N := N)  ih
set_option maxHeartbeats 4000000 in
set_option maxRecDepth 100000 in
theorem w_X12_span_51 (hx : p.tables.exec = Jvm.exec) (hb : c.code = cX12_span) (hml : c.maxLocals = 7) (hr : meth.sig.returnType = (some .int)) (hlk : meth.locks = false) (hown : s.vm.findClass RX12 = some m.cls) (hX : Kx D cA lo tS s) (hRf : 306 ≤ R.frames) (hRl : 18360 ≤ R.locals) {N : Nat} {rv : Int32} {g1 : Hg} {S : Hs} {k51 : Hg → Nat → Int32 → Int32 → Int32 → Int32 → Int32 → Int32 → Option (Int32 × Hg)} (hk51 : ∀ (H : Heap) (locs : List Loc) (ls : Array Slot) (g : Hg) (a0 : Nat) (x1 : Int32) (x2 : Int32) (x3 : Int32) (x4 : Int32) (x5 : Int32) (x6 : Int32), Mm D cA lo S g s H locs → Rf lo S a0 12 → lv_has ls 7 [(0, .ref a0), (1, .int x1), (2, .int x2), (3, .int x3), (4, .int x4), (5, .int x5), (6, .int x6)] → k51 g a0 x1 x2 x3 x4 x5 x6 = some (rv, g1) → W p l e R s m args below meth c H locs 0 0 (MQ below (Qcx D cA lo S (some (.int rv)) S g1 True) args s 0 0 (fun q : Nat => lo ≤ q)) (F0 m 51 ls [])) : ∀ (H : Heap) (locs : List Loc) (ls : Array Slot) (g : Hg) (a0 : Nat) (x1 : Int32) (x2 : Int32) (x3 : Int32) (x4 : Int32) (x5 : Int32) (x6 : Int32), Mm D cA lo S g s H locs → Rf lo S a0 12 → lv_has ls 7 [(0, .ref a0), (1, .int x1), (2, .int x2), (3, .int x3), (4, .int x4), (5, .int x5), (6, .int x6)] → b_X12_span_51 N S k51 g a0 x1 x2 x3 x4 x5 x6 = some (rv, g1) → W p l e R s m args below meth c H locs 0 0 (MQ below (Qcx D cA lo S (some (.int rv)) S g1 True) args s 0 0 (fun q : Nat => lo ≤ q)) (F0 m 51 ls []) := by
  intro H locs ls g a0 x1 x2 x3 x4 x5 x6 M ra0 hl q
  unfold b_X12_span_51 at q
  refine lv_iload hx hb dX12_span_51 (lv_at hl 6 rfl) ?_
  refine lv_iload hx hb dX12_span_53 (lv_at hl 5 rfl) ?_
  refine lv_icmp_ge (tgt := 82) hx hb dX12_span_55 (by decide) (fun c_1 => ?_) (fun c_1 => ?_)
  · replace q := if_t c_1 q
    refine lv_aload_n hx hb dX12_span_82 rfl (lv_at hl 0 rfl) ?_
    refine lv_iload_n hx hb dX12_span_83 rfl (lv_at hl 1 rfl) ?_
    refine lv_iconst (v := 5) hx hb dX12_span_84 (by decide) ?_
    refine lv_iload_n hx hb dX12_span_85 rfl (lv_at hl 3 rfl) ?_
    refine lv_iload hx hb dX12_span_86 (lv_at hl 4 rfl) ?_
    refine lv_iload hx hb dX12_span_88 (lv_at hl 5 rfl) ?_
    replace q := c2_s q
    obtain ⟨u_3, g_2, qc, q⟩ := q
    refine x_callV hx hb hml hl.1 hown hX M (S1 := S) (As := [.int x1, .int (5 : Int32), .int x3, .int x4, .int x5]) (rest := []) okX12 ra0 rfl kw_1361 kw_38 mok_X12_begin (c_X12_begin ra0 qc (Nat.le_refl 1)) kw_1359 rfl rfl dX12_span_90 (Nat.le_of_ble_eq_true rfl) ⟨Nat.le_trans (by decide) hRf, Nat.le_trans (by decide) hRl⟩ (Nat.zero_le _) (Nat.zero_le _) (fun H locs M hEF => ?_)
    refine lv_iload hx hb dX12_span_93 (lv_at hl 4 rfl) ?_
    refine lv_istore (lv' := [(6, .int x4), (0, .ref a0), (1, .int x1), (2, .int x2), (3, .int x3), (4, .int x4), (5, .int x5)]) hx hb dX12_span_95 hl (by decide) rfl (fun ls hl => ?_)
    exact l_X12_span_97 hx hb hml hr hlk hown hX hRf hRl (N := N)  N _ _ _ _ _ _ _ _ _ _ _ M ra0 (lv_sub hl [1, 2, 3, 4, 5, 6, 0] rfl) q
  · replace q := if_f c_1 q
    refine lv_aload_n hx hb dX12_span_58 rfl (lv_at hl 0 rfl) ?_
    replace q := nn_s q
    obtain ⟨a_4, e_a_4, q⟩ := q
    refine x_getR hx hb hown hX M e_a_4 okX12 ra0 (by decide) rfl kw_1016 dX12_span_59 (fun ra_4 => ?_)
    refine lv_sipush (v := 400) hx hb dX12_span_62 (by decide) ?_
    refine lv_iload_n hx hb dX12_span_65 rfl (lv_at hl 2 rfl) ?_
    refine lv_imul hx hb dX12_span_66 ?_
    refine lv_iload hx hb dX12_span_67 (lv_at hl 6 rfl) ?_
    refine lv_iadd hx hb dX12_span_69 ?_
    replace q := ck_s q
    obtain ⟨hin, q⟩ := q
    refine x_zald hx hb hX M ra_4 (inb_in hin) dX12_span_70 ?_
    refine lv_if_eq (tgt := 76) hx hb dX12_span_71 (by decide) (fun c_5 => ?_) (fun c_5 => ?_)
    · replace q := if_t c_5 q
      obtain ⟨x_6, e_x_6⟩ : ∃ y : Int32, y = x6 + 1 := ⟨_, rfl⟩
      replace q := nm_s q e_x_6
      refine lv_iinc (v := x_6) (lv' := [(6, .int x_6), (0, .ref a0), (1, .int x1), (2, .int x2), (3, .int x3), (4, .int x4), (5, .int x5)]) hx hb dX12_span_76 hl (k := 6) rfl (by rw [e_x_6]; rfl) (by decide) rfl (fun ls hl => ?_)
      refine lv_goto (tgt := 51) hx hb dX12_span_79 (by decide) ?_
      exact hk51 _ _ _ _ _ _ _ _ _ _ _ M ra0 (lv_sub hl [1, 2, 3, 4, 5, 6, 0] rfl) q
    · replace q := if_f c_5 q
      refine lv_iconst (v := -1) hx hb dX12_span_74 (by decide) ?_
      cases q
      exact x_iret hx hb hr hlk M Ext.rf dX12_span_75
set_option maxRecDepth 100000 in
theorem l_X12_span_51 (hx : p.tables.exec = Jvm.exec) (hb : c.code = cX12_span) (hml : c.maxLocals = 7) (hr : meth.sig.returnType = (some .int)) (hlk : meth.locks = false) (hown : s.vm.findClass RX12 = some m.cls) (hX : Kx D cA lo tS s) (hRf : 306 ≤ R.frames) (hRl : 18360 ≤ R.locals) {N : Nat} {rv : Int32} {g1 : Hg} {S : Hs} : ∀ (n : Nat), ∀ (H : Heap) (locs : List Loc) (ls : Array Slot) (g : Hg) (a0 : Nat) (x1 : Int32) (x2 : Int32) (x3 : Int32) (x4 : Int32) (x5 : Int32) (x6 : Int32), Mm D cA lo S g s H locs → Rf lo S a0 12 → lv_has ls 7 [(0, .ref a0), (1, .int x1), (2, .int x2), (3, .int x3), (4, .int x4), (5, .int x5), (6, .int x6)] → n_X12_span_51 N S n g a0 x1 x2 x3 x4 x5 x6 = some (rv, g1) → W p l e R s m args below meth c H locs 0 0 (MQ below (Qcx D cA lo S (some (.int rv)) S g1 True) args s 0 0 (fun q : Nat => lo ≤ q)) (F0 m 51 ls []) := by
  intro n
  induction n with
  | zero =>
    intro H locs ls g a0 x1 x2 x3 x4 x5 x6 M ra0 hl q
    exact absurd q (by simp [n_X12_span_51])
  | succ n ih => exact w_X12_span_51 hx hb hml hr hlk hown hX hRf hRl (N := N)  ih
set_option maxHeartbeats 4000000 in
set_option maxRecDepth 100000 in
theorem w_X12_span_0 (hx : p.tables.exec = Jvm.exec) (hb : c.code = cX12_span) (hml : c.maxLocals = 7) (hr : meth.sig.returnType = (some .int)) (hlk : meth.locks = false) (hown : s.vm.findClass RX12 = some m.cls) (hX : Kx D cA lo tS s) (hRf : 306 ≤ R.frames) (hRl : 18360 ≤ R.locals) {N : Nat} {rv : Int32} {g1 : Hg} {S : Hs} : ∀ (H : Heap) (locs : List Loc) (ls : Array Slot) (g : Hg) (a0 : Nat) (x1 : Int32) (x2 : Int32) (x3 : Int32) (x4 : Int32) (x5 : Int32), Mm D cA lo S g s H locs → Rf lo S a0 12 → lv_has ls 7 [(0, .ref a0), (1, .int x1), (2, .int x2), (3, .int x3), (4, .int x4), (5, .int x5)] → b_X12_span_0 N S g a0 x1 x2 x3 x4 x5 = some (rv, g1) → W p l e R s m args below meth c H locs 0 0 (MQ below (Qcx D cA lo S (some (.int rv)) S g1 True) args s 0 0 (fun q : Nat => lo ≤ q)) (F0 m 0 ls []) := by
  intro H locs ls g a0 x1 x2 x3 x4 x5 M ra0 hl q
  unfold b_X12_span_0 at q
  refine lv_aload_n hx hb dX12_span_0 rfl (lv_at hl 0 rfl) ?_
  refine lv_iload_n hx hb dX12_span_1 rfl (lv_at hl 1 rfl) ?_
  replace q := c2_s q
  obtain ⟨x_2, g_1, qc, q⟩ := q
  refine x_callV hx hb hml hl.1 hown hX M (S1 := S) (As := [.int x1]) (rest := []) okX12 ra0 rfl kw_1357 kw_37 mok_X12_isSlot (c_X12_isSlot ra0 qc (Nat.le_refl 1)) kw_1355 rfl rfl dX12_span_2 (Nat.le_of_ble_eq_true rfl) ⟨Nat.le_trans (by decide) hRf, Nat.le_trans (by decide) hRl⟩ (Nat.zero_le _) (Nat.zero_le _) (fun H locs M hEF => ?_)
  refine lv_if_eq (tgt := 45) hx hb dX12_span_5 (by decide) (fun c_3 => ?_) (fun c_3 => ?_)
  · replace q := if_t c_3 q
    refine lv_iconst (v := -1) hx hb dX12_span_45 (by decide) ?_
    cases q
    exact x_iret hx hb hr hlk M Ext.rf dX12_span_46
  · replace q := if_f c_3 q
    refine lv_aload_n hx hb dX12_span_8 rfl (lv_at hl 0 rfl) ?_
    refine lv_iload_n hx hb dX12_span_9 rfl (lv_at hl 2 rfl) ?_
    refine lv_iload_n hx hb dX12_span_10 rfl (lv_at hl 3 rfl) ?_
    replace q := c2_s q
    obtain ⟨x_5, g_4, qc, q⟩ := q
    refine x_callV hx hb hml hl.1 hown hX M (S1 := S) (As := [.int x2, .int x3]) (rest := []) okX12 ra0 rfl kw_1233 kw_16 mok_X12_isCount (c_X12_isCount ra0 qc (Nat.le_refl 2)) kw_1231 rfl rfl dX12_span_11 (Nat.le_of_ble_eq_true rfl) ⟨Nat.le_trans (by decide) hRf, Nat.le_trans (by decide) hRl⟩ (Nat.zero_le _) (Nat.zero_le _) (fun H locs M hEF => ?_)
    refine lv_if_eq (tgt := 45) hx hb dX12_span_14 (by decide) (fun c_6 => ?_) (fun c_6 => ?_)
    · replace q := if_t c_6 q
      refine lv_iconst (v := -1) hx hb dX12_span_45 (by decide) ?_
      cases q
      exact x_iret hx hb hr hlk M Ext.rf dX12_span_46
    · replace q := if_f c_6 q
      refine lv_iload hx hb dX12_span_17 (lv_at hl 4 rfl) ?_
      refine lv_if_lt (tgt := 45) hx hb dX12_span_19 (by decide) (fun c_7 => ?_) (fun c_7 => ?_)
      · replace q := if_t c_7 q
        refine lv_iconst (v := -1) hx hb dX12_span_45 (by decide) ?_
        cases q
        exact x_iret hx hb hr hlk M Ext.rf dX12_span_46
      · replace q := if_f c_7 q
        refine lv_iload hx hb dX12_span_22 (lv_at hl 4 rfl) ?_
        refine lv_iload hx hb dX12_span_24 (lv_at hl 5 rfl) ?_
        refine lv_icmp_gt (tgt := 45) hx hb dX12_span_26 (by decide) (fun c_8 => ?_) (fun c_8 => ?_)
        · replace q := if_t c_8 q
          refine lv_iconst (v := -1) hx hb dX12_span_45 (by decide) ?_
          cases q
          exact x_iret hx hb hr hlk M Ext.rf dX12_span_46
        · replace q := if_f c_8 q
          refine lv_iload hx hb dX12_span_29 (lv_at hl 5 rfl) ?_
          refine lv_iload_n hx hb dX12_span_31 rfl (lv_at hl 3 rfl) ?_
          refine lv_icmp_gt (tgt := 45) hx hb dX12_span_32 (by decide) (fun c_9 => ?_) (fun c_9 => ?_)
          · replace q := if_t c_9 q
            refine lv_iconst (v := -1) hx hb dX12_span_45 (by decide) ?_
            cases q
            exact x_iret hx hb hr hlk M Ext.rf dX12_span_46
          · replace q := if_f c_9 q
            refine lv_iload hx hb dX12_span_35 (lv_at hl 5 rfl) ?_
            refine lv_iload hx hb dX12_span_37 (lv_at hl 4 rfl) ?_
            refine lv_isub hx hb dX12_span_39 ?_
            refine lv_bipush (v := 40) hx hb dX12_span_40 (by decide) ?_
            refine lv_icmp_le (tgt := 47) hx hb dX12_span_42 (by decide) (fun c_10 => ?_) (fun c_10 => ?_)
            · replace q := if_t c_10 q
              refine lv_iload hx hb dX12_span_47 (lv_at hl 4 rfl) ?_
              refine lv_istore (lv' := [(6, .int x4), (0, .ref a0), (1, .int x1), (2, .int x2), (3, .int x3), (4, .int x4), (5, .int x5)]) hx hb dX12_span_49 hl (by decide) rfl (fun ls hl => ?_)
              exact l_X12_span_51 hx hb hml hr hlk hown hX hRf hRl (N := N)  N _ _ _ _ _ _ _ _ _ _ _ M ra0 (lv_sub hl [1, 2, 3, 4, 5, 6, 0] rfl) q
            · replace q := if_f c_10 q
              refine lv_iconst (v := -1) hx hb dX12_span_45 (by decide) ?_
              cases q
              exact x_iret hx hb hr hlk M Ext.rf dX12_span_46
set_option maxRecDepth 100000 in
theorem c_X12_span {l : Launch} {D : va_G} {cA : Nat → ClassId} {lo tS N : Nat} {S : Hs} {g g1 : Hg} {rv : Int32} {a0 : Nat} {x1 : Int32} {x2 : Int32} {x3 : Int32} {x4 : Int32} {x5 : Int32} (ra0 : Rf lo S a0 12) (q : f_X12_span N S g a0 x1 x2 x3 x4 x5 = some (rv, g1)) {d : Nat} (hd : 306 ≤ d) : Ctr l yX12_span cX12_span 7 (some .int) D cA lo tS [.ref a0, .int x1, .int x2, .int x3, .int x4, .int x5] S g d (some (.int rv)) S g1 True 0 0 := by
  refine x_met (by decide) (Nat.le_of_ble_eq_true rfl) ?_
  intro p e s m below meth c ls hx hb hml hr hlk hown hnm hX M hl
  exact w_X12_span_0 hx hb hml hr hlk hown hX hd (Nat.mul_le_mul_left 60 hd) (N := N) _ _ _ _ _ _ _ _ _ _ M ra0 (lv_sub hl [0, 1, 2, 3, 4, 5] rfl) q
def b_X12_step__0 (N : Nat) (S : Hs) (g : Hg) (a0 : Nat) (x1 : Int32) (x2 : Int32) (x3 : Int32) : Option (Int32 × Hg) :=
c2 (f_X12_isStep N S g a0 x1 x2 x3) (fun x_2 g_1 =>
if x_2 = 0 then (
some ((0 : Int32), g_1)) else (
nn (rdR g_1 a0 12) (fun a_4 =>
ck (inb (((8 : Int32) * (((256 : Int32) * x1) + x2)) + x3) (hpL S a_4)) (
some ((rdI g_1 a_4 (((8 : Int32) * (((256 : Int32) * x1) + x2)) + x3).toNatClampNeg), g_1)))))
def f_X12_step_ (N : Nat) (S : Hs) (g : Hg) (a0 : Nat) (x1 : Int32) (x2 : Int32) (x3 : Int32) : Option (Int32 × Hg) := b_X12_step__0 N S g a0 x1 x2 x3
set_option maxHeartbeats 4000000 in
set_option maxRecDepth 100000 in
theorem w_X12_step__0 (hx : p.tables.exec = Jvm.exec) (hb : c.code = cX12_step_) (hml : c.maxLocals = 4) (hr : meth.sig.returnType = (some .int)) (hlk : meth.locks = false) (hown : s.vm.findClass RX12 = some m.cls) (hX : Kx D cA lo tS s) (hRf : 3 ≤ R.frames) (hRl : 180 ≤ R.locals) {N : Nat} {rv : Int32} {g1 : Hg} {S : Hs} : ∀ (H : Heap) (locs : List Loc) (ls : Array Slot) (g : Hg) (a0 : Nat) (x1 : Int32) (x2 : Int32) (x3 : Int32), Mm D cA lo S g s H locs → Rf lo S a0 12 → lv_has ls 4 [(0, .ref a0), (1, .int x1), (2, .int x2), (3, .int x3)] → b_X12_step__0 N S g a0 x1 x2 x3 = some (rv, g1) → W p l e R s m args below meth c H locs 0 0 (MQ below (Qcx D cA lo S (some (.int rv)) S g1 True) args s 0 0 (fun q : Nat => lo ≤ q)) (F0 m 0 ls []) := by
  intro H locs ls g a0 x1 x2 x3 M ra0 hl q
  unfold b_X12_step__0 at q
  refine lv_aload_n hx hb dX12_step__0 rfl (lv_at hl 0 rfl) ?_
  refine lv_iload_n hx hb dX12_step__1 rfl (lv_at hl 1 rfl) ?_
  refine lv_iload_n hx hb dX12_step__2 rfl (lv_at hl 2 rfl) ?_
  refine lv_iload_n hx hb dX12_step__3 rfl (lv_at hl 3 rfl) ?_
  replace q := c2_s q
  obtain ⟨x_2, g_1, qc, q⟩ := q
  refine x_callV hx hb hml hl.1 hown hX M (S1 := S) (As := [.int x1, .int x2, .int x3]) (rest := []) okX12 ra0 rfl kw_1405 kw_42 mok_X12_isStep (c_X12_isStep ra0 qc (Nat.le_refl 2)) kw_1403 rfl rfl dX12_step__4 (Nat.le_of_ble_eq_true rfl) ⟨Nat.le_trans (by decide) hRf, Nat.le_trans (by decide) hRl⟩ (Nat.zero_le _) (Nat.zero_le _) (fun H locs M hEF => ?_)
  refine lv_if_eq (tgt := 30) hx hb dX12_step__7 (by decide) (fun c_3 => ?_) (fun c_3 => ?_)
  · replace q := if_t c_3 q
    refine lv_iconst (v := 0) hx hb dX12_step__30 (by decide) ?_
    cases q
    exact x_iret hx hb hr hlk M Ext.rf dX12_step__31
  · replace q := if_f c_3 q
    refine lv_aload_n hx hb dX12_step__10 rfl (lv_at hl 0 rfl) ?_
    replace q := nn_s q
    obtain ⟨a_4, e_a_4, q⟩ := q
    refine x_getR hx hb hown hX M e_a_4 okX12 ra0 (by decide) rfl kw_1024 dX12_step__11 (fun ra_4 => ?_)
    refine lv_bipush (v := 8) hx hb dX12_step__14 (by decide) ?_
    refine lv_sipush (v := 256) hx hb dX12_step__16 (by decide) ?_
    refine lv_iload_n hx hb dX12_step__19 rfl (lv_at hl 1 rfl) ?_
    refine lv_imul hx hb dX12_step__20 ?_
    refine lv_iload_n hx hb dX12_step__21 rfl (lv_at hl 2 rfl) ?_
    refine lv_iadd hx hb dX12_step__22 ?_
    refine lv_imul hx hb dX12_step__23 ?_
    refine lv_iload_n hx hb dX12_step__24 rfl (lv_at hl 3 rfl) ?_
    refine lv_iadd hx hb dX12_step__25 ?_
    replace q := ck_s q
    obtain ⟨hin, q⟩ := q
    refine x_iald hx hb hX M ra_4 (inb_in hin) dX12_step__26 ?_
    refine lv_goto (tgt := 31) hx hb dX12_step__27 (by decide) ?_
    cases q
    exact x_iret hx hb hr hlk M Ext.rf dX12_step__31
set_option maxRecDepth 100000 in
theorem c_X12_step_ {l : Launch} {D : va_G} {cA : Nat → ClassId} {lo tS N : Nat} {S : Hs} {g g1 : Hg} {rv : Int32} {a0 : Nat} {x1 : Int32} {x2 : Int32} {x3 : Int32} (ra0 : Rf lo S a0 12) (q : f_X12_step_ N S g a0 x1 x2 x3 = some (rv, g1)) {d : Nat} (hd : 3 ≤ d) : Ctr l yX12_step_ cX12_step_ 4 (some .int) D cA lo tS [.ref a0, .int x1, .int x2, .int x3] S g d (some (.int rv)) S g1 True 0 0 := by
  refine x_met (by decide) (Nat.le_of_ble_eq_true rfl) ?_
  intro p e s m below meth c ls hx hb hml hr hlk hown hnm hX M hl
  exact w_X12_step__0 hx hb hml hr hlk hown hX hd (Nat.mul_le_mul_left 60 hd) (N := N) _ _ _ _ _ _ _ _ M ra0 (lv_sub hl [0, 1, 2, 3] rfl) q
def b_X12_agree_113 (N : Nat) (S : Hs) (g : Hg) (a0 : Nat) (a6 : Nat) (x7 : Int32) (a8 : Nat) (sx0 : Int32) : Option (Int32 × Hg) :=
nm (wrI g a0 49 (0 : Int32)) (fun g_1 =>
ck (inb (sx0 + (1 : Int32)) (hpL S a8)) (
ck (inb x7 (hpL S a6)) (
c2 (f_X12_layLog N S g_1 a0 (rdI g_1 a8 (sx0 + (1 : Int32)).toNatClampNeg) (0 : Int32) (rdI g_1 a6 x7.toNatClampNeg)) (fun u_3 g_2 =>
nn (rdR g_2 a0 65) (fun a_4 =>
c2 (f_X12_top N S g_2 a0 a_4 (0 : Int32)) (fun u_6 g_5 =>
nn (rdR g_5 a0 65) (fun a_7 =>
c2 (f_X12_areLike N S g_5 a_7 (0 : Int32) a6 (x7 + (4 : Int32))) (fun x_9 g_8 =>
if x_9 = 0 then (
some ((0 : Int32), g_8)) else (
ck (inb (sx0 + (1 : Int32)) (hpL S a8)) (
ck (inb x7 (hpL S a6)) (
ck (inb sx0 (hpL S a8)) (
c2 (f_X12_layLog N S g_8 a0 (rdI g_8 a8 (sx0 + (1 : Int32)).toNatClampNeg) (rdI g_8 a6 x7.toNatClampNeg) (rdI g_8 a8 sx0.toNatClampNeg)) (fun u_12 g_11 =>
nn (rdR g_11 a0 65) (fun a_13 =>
c2 (f_X12_top N S g_11 a0 a_13 (0 : Int32)) (fun u_15 g_14 =>
nn (rdR g_14 a0 65) (fun a_16 =>
c2 (f_X12_areLike N S g_14 a_16 (0 : Int32) a8 (sx0 + (4 : Int32))) (fun x_18 g_17 =>
ck (zb x_18) (
some (x_18, g_17)))))))))))))))))))
def b_X12_agree_100 (N : Nat) (S : Hs) (g : Hg) (a0 : Nat) (x2 : Int32) (x4 : Int32) (x5 : Int32) (a6 : Nat) (x7 : Int32) (sa0 : Nat) : Option (Int32 × Hg) :=
if x5 = 0 then (
b_X12_agree_113 N S g a0 a6 x7 sa0 x2) else (
b_X12_agree_113 N S g a0 a6 x7 sa0 x4)
def b_X12_agree_88 (N : Nat) (S : Hs) (g : Hg) (a0 : Nat) (a1 : Nat) (x2 : Int32) (a3 : Nat) (x4 : Int32) (x5 : Int32) (a6 : Nat) (sx0 : Int32) : Option (Int32 × Hg) :=
if x5 = 0 then (
b_X12_agree_100 N S g a0 x2 x4 x5 a6 sx0 a1) else (
b_X12_agree_100 N S g a0 x2 x4 x5 a6 sx0 a3)
def b_X12_agree_75 (N : Nat) (S : Hs) (g : Hg) (a0 : Nat) (a1 : Nat) (x2 : Int32) (a3 : Nat) (x4 : Int32) (x5 : Int32) (sa0 : Nat) : Option (Int32 × Hg) :=
if x5 = 0 then (
b_X12_agree_88 N S g a0 a1 x2 a3 x4 x5 sa0 x4) else (
b_X12_agree_88 N S g a0 a1 x2 a3 x4 x5 sa0 x2)
def b_X12_agree_63 (N : Nat) (S : Hs) (g : Hg) (a0 : Nat) (a1 : Nat) (x2 : Int32) (a3 : Nat) (x4 : Int32) (sx0 : Int32) : Option (Int32 × Hg) :=
if sx0 = 0 then (
b_X12_agree_75 N S g a0 a1 x2 a3 x4 sx0 a3) else (
b_X12_agree_75 N S g a0 a1 x2 a3 x4 sx0 a1)
def b_X12_agree_0 (N : Nat) (S : Hs) (g : Hg) (a0 : Nat) (a1 : Nat) (x2 : Int32) (a3 : Nat) (x4 : Int32) : Option (Int32 × Hg) :=
ck (inb x2 (hpL S a1)) (
ck (inb x4 (hpL S a3)) (
if (rdI g a1 x2.toNatClampNeg) = (rdI g a3 x4.toNatClampNeg) then (
c2 (f_X12_areLike N S g a1 (x2 + (4 : Int32)) a3 (x4 + (4 : Int32))) (fun x_4 g_3 =>
if x_4 = 0 then (
some ((0 : Int32), g_3)) else (
c2 (f_X12_areLike N S g_3 a1 (x2 + (12 : Int32)) a3 (x4 + (12 : Int32))) (fun x_7 g_6 =>
if x_7 = 0 then (
some ((0 : Int32), g_6)) else (
some ((1 : Int32), g_6)))))) else (
ck (inb x2 (hpL S a1)) (
ck (inb x4 (hpL S a3)) (
if (rdI g a3 x4.toNatClampNeg) ≤ (rdI g a1 x2.toNatClampNeg) then (
b_X12_agree_63 N S g a0 a1 x2 a3 x4 (0 : Int32)) else (
b_X12_agree_63 N S g a0 a1 x2 a3 x4 (1 : Int32)))))))
def f_X12_agree (N : Nat) (S : Hs) (g : Hg) (a0 : Nat) (a1 : Nat) (x2 : Int32) (a3 : Nat) (x4 : Int32) : Option (Int32 × Hg) := b_X12_agree_0 N S g a0 a1 x2 a3 x4
set_option maxHeartbeats 4000000 in
set_option maxRecDepth 100000 in
theorem w_X12_agree_113 (hx : p.tables.exec = Jvm.exec) (hb : c.code = cX12_agree) (hml : c.maxLocals = 10) (hr : meth.sig.returnType = (some .boolean)) (hlk : meth.locks = false) (hown : s.vm.findClass RX12 = some m.cls) (hX : Kx D cA lo tS s) (hRf : 306 ≤ R.frames) (hRl : 18360 ≤ R.locals) {N : Nat} {rv : Int32} {g1 : Hg} {S : Hs} : ∀ (H : Heap) (locs : List Loc) (ls : Array Slot) (g : Hg) (a0 : Nat) (a6 : Nat) (x7 : Int32) (a8 : Nat) (sx0 : Int32), Mm D cA lo S g s H locs → Rf lo S a0 12 → Rf lo S a6 20 → Rf lo S a8 20 → lv_has ls 10 [(0, .ref a0), (6, .ref a6), (7, .int x7), (8, .ref a8)] → b_X12_agree_113 N S g a0 a6 x7 a8 sx0 = some (rv, g1) → W p l e R s m args below meth c H locs 0 0 (MQ below (Qcx D cA lo S (some (.int rv)) S g1 True) args s 0 0 (fun q : Nat => lo ≤ q)) (F0 m 113 ls [.int sx0]) := by
  intro H locs ls g a0 a6 x7 a8 sx0 M ra0 ra6 ra8 hl q
  unfold b_X12_agree_113 at q
  refine lv_istore (lv' := [(9, .int sx0), (0, .ref a0), (6, .ref a6), (7, .int x7), (8, .ref a8)]) hx hb dX12_agree_113 hl (by decide) rfl (fun ls hl => ?_)
  refine lv_aload_n hx hb dX12_agree_115 rfl (lv_at hl 1 rfl) ?_
  refine lv_iconst (v := 0) hx hb dX12_agree_116 (by decide) ?_
  refine x_putI hx hb hown hX M (k := 49) okX12 ra0 (by decide) rfl (Or.inl rfl) rfl rfl kw_1061 dX12_agree_117 (fun H locs M => ?_)
  replace q := gen_g M q
  obtain ⟨g_1, -, M, q⟩ := q
  refine lv_aload_n hx hb dX12_agree_120 rfl (lv_at hl 1 rfl) ?_
  refine lv_aload hx hb dX12_agree_121 (lv_at hl 4 rfl) ?_
  refine lv_iload hx hb dX12_agree_123 (lv_at hl 0 rfl) ?_
  refine lv_iconst (v := 1) hx hb dX12_agree_125 (by decide) ?_
  refine lv_iadd hx hb dX12_agree_126 ?_
  replace q := ck_s q
  obtain ⟨hin, q⟩ := q
  refine x_iald hx hb hX M ra8 (inb_in hin) dX12_agree_127 ?_
  refine lv_iconst (v := 0) hx hb dX12_agree_128 (by decide) ?_
  refine lv_aload hx hb dX12_agree_129 (lv_at hl 2 rfl) ?_
  refine lv_iload hx hb dX12_agree_131 (lv_at hl 3 rfl) ?_
  replace q := ck_s q
  obtain ⟨hin, q⟩ := q
  refine x_iald hx hb hX M ra6 (inb_in hin) dX12_agree_133 ?_
  replace q := c2_s q
  obtain ⟨u_3, g_2, qc, q⟩ := q
  refine x_callV hx hb hml hl.1 hown hX M (S1 := S) (As := [.int (rdI g_1 a8 (sx0 + (1 : Int32)).toNatClampNeg), .int (0 : Int32), .int (rdI g_1 a6 x7.toNatClampNeg)]) (rest := []) okX12 ra0 rfl kw_1306 kw_27 mok_X12_layLog (c_X12_layLog ra0 qc (Nat.le_refl 305)) kw_1304 rfl rfl dX12_agree_134 (Nat.le_of_ble_eq_true rfl) ⟨Nat.le_trans (by decide) hRf, Nat.le_trans (by decide) hRl⟩ (Nat.zero_le _) (Nat.zero_le _) (fun H locs M hEF => ?_)
  refine lv_aload_n hx hb dX12_agree_137 rfl (lv_at hl 1 rfl) ?_
  refine lv_aload_n hx hb dX12_agree_138 rfl (lv_at hl 1 rfl) ?_
  replace q := nn_s q
  obtain ⟨a_4, e_a_4, q⟩ := q
  refine x_getR hx hb hown hX M e_a_4 okX12 ra0 (by decide) rfl kw_1077 dX12_agree_139 (fun ra_4 => ?_)
  refine lv_iconst (v := 0) hx hb dX12_agree_142 (by decide) ?_
  replace q := c2_s q
  obtain ⟨u_6, g_5, qc, q⟩ := q
  refine x_callV hx hb hml hl.1 hown hX M (S1 := S) (As := [.ref a_4, .int (0 : Int32)]) (rest := []) okX12 ra0 rfl kw_1329 kw_32 mok_X12_top (c_X12_top ra0 ra_4 qc (Nat.le_refl 4)) kw_1327 rfl rfl dX12_agree_143 (Nat.le_of_ble_eq_true rfl) ⟨Nat.le_trans (by decide) hRf, Nat.le_trans (by decide) hRl⟩ (Nat.zero_le _) (Nat.zero_le _) (fun H locs M hEF => ?_)
  refine lv_aload_n hx hb dX12_agree_146 rfl (lv_at hl 1 rfl) ?_
  replace q := nn_s q
  obtain ⟨a_7, e_a_7, q⟩ := q
  refine x_getR hx hb hown hX M e_a_7 okX12 ra0 (by decide) rfl kw_1077 dX12_agree_147 (fun ra_7 => ?_)
  refine lv_iconst (v := 0) hx hb dX12_agree_150 (by decide) ?_
  refine lv_aload hx hb dX12_agree_151 (lv_at hl 2 rfl) ?_
  refine lv_iload hx hb dX12_agree_153 (lv_at hl 3 rfl) ?_
  refine lv_iconst (v := 4) hx hb dX12_agree_155 (by decide) ?_
  refine lv_iadd hx hb dX12_agree_156 ?_
  replace q := c2_s q
  obtain ⟨x_9, g_8, qc, q⟩ := q
  refine x_callS hx hb hml hl.1 hown hX M (S1 := S) (As := [.ref a_7, .int (0 : Int32), .ref a6, .int (x7 + (4 : Int32))]) (rest := []) kw_1432 mok_X12_areLike (c_X12_areLike ra_7 ra6 qc (Nat.le_refl 1)) kw_1431 rfl rfl dX12_agree_157 (Nat.le_of_ble_eq_true rfl) ⟨Nat.le_trans (by decide) hRf, Nat.le_trans (by decide) hRl⟩ (Nat.zero_le _) (Nat.zero_le _) (fun H locs M hEF => ?_)
  refine lv_if_ne (tgt := 165) hx hb dX12_agree_160 (by decide) (fun c_10 => ?_) (fun c_10 => ?_)
  · replace q := if_f c_10 q
    refine lv_aload_n hx hb dX12_agree_165 rfl (lv_at hl 1 rfl) ?_
    refine lv_aload hx hb dX12_agree_166 (lv_at hl 4 rfl) ?_
    refine lv_iload hx hb dX12_agree_168 (lv_at hl 0 rfl) ?_
    refine lv_iconst (v := 1) hx hb dX12_agree_170 (by decide) ?_
    refine lv_iadd hx hb dX12_agree_171 ?_
    replace q := ck_s q
    obtain ⟨hin, q⟩ := q
    refine x_iald hx hb hX M ra8 (inb_in hin) dX12_agree_172 ?_
    refine lv_aload hx hb dX12_agree_173 (lv_at hl 2 rfl) ?_
    refine lv_iload hx hb dX12_agree_175 (lv_at hl 3 rfl) ?_
    replace q := ck_s q
    obtain ⟨hin, q⟩ := q
    refine x_iald hx hb hX M ra6 (inb_in hin) dX12_agree_177 ?_
    refine lv_aload hx hb dX12_agree_178 (lv_at hl 4 rfl) ?_
    refine lv_iload hx hb dX12_agree_180 (lv_at hl 0 rfl) ?_
    replace q := ck_s q
    obtain ⟨hin, q⟩ := q
    refine x_iald hx hb hX M ra8 (inb_in hin) dX12_agree_182 ?_
    replace q := c2_s q
    obtain ⟨u_12, g_11, qc, q⟩ := q
    refine x_callV hx hb hml hl.1 hown hX M (S1 := S) (As := [.int (rdI g_8 a8 (sx0 + (1 : Int32)).toNatClampNeg), .int (rdI g_8 a6 x7.toNatClampNeg), .int (rdI g_8 a8 sx0.toNatClampNeg)]) (rest := []) okX12 ra0 rfl kw_1306 kw_27 mok_X12_layLog (c_X12_layLog ra0 qc (Nat.le_refl 305)) kw_1304 rfl rfl dX12_agree_183 (Nat.le_of_ble_eq_true rfl) ⟨Nat.le_trans (by decide) hRf, Nat.le_trans (by decide) hRl⟩ (Nat.zero_le _) (Nat.zero_le _) (fun H locs M hEF => ?_)
    refine lv_aload_n hx hb dX12_agree_186 rfl (lv_at hl 1 rfl) ?_
    refine lv_aload_n hx hb dX12_agree_187 rfl (lv_at hl 1 rfl) ?_
    replace q := nn_s q
    obtain ⟨a_13, e_a_13, q⟩ := q
    refine x_getR hx hb hown hX M e_a_13 okX12 ra0 (by decide) rfl kw_1077 dX12_agree_188 (fun ra_13 => ?_)
    refine lv_iconst (v := 0) hx hb dX12_agree_191 (by decide) ?_
    replace q := c2_s q
    obtain ⟨u_15, g_14, qc, q⟩ := q
    refine x_callV hx hb hml hl.1 hown hX M (S1 := S) (As := [.ref a_13, .int (0 : Int32)]) (rest := []) okX12 ra0 rfl kw_1329 kw_32 mok_X12_top (c_X12_top ra0 ra_13 qc (Nat.le_refl 4)) kw_1327 rfl rfl dX12_agree_192 (Nat.le_of_ble_eq_true rfl) ⟨Nat.le_trans (by decide) hRf, Nat.le_trans (by decide) hRl⟩ (Nat.zero_le _) (Nat.zero_le _) (fun H locs M hEF => ?_)
    refine lv_aload_n hx hb dX12_agree_195 rfl (lv_at hl 1 rfl) ?_
    replace q := nn_s q
    obtain ⟨a_16, e_a_16, q⟩ := q
    refine x_getR hx hb hown hX M e_a_16 okX12 ra0 (by decide) rfl kw_1077 dX12_agree_196 (fun ra_16 => ?_)
    refine lv_iconst (v := 0) hx hb dX12_agree_199 (by decide) ?_
    refine lv_aload hx hb dX12_agree_200 (lv_at hl 4 rfl) ?_
    refine lv_iload hx hb dX12_agree_202 (lv_at hl 0 rfl) ?_
    refine lv_iconst (v := 4) hx hb dX12_agree_204 (by decide) ?_
    refine lv_iadd hx hb dX12_agree_205 ?_
    replace q := c2_s q
    obtain ⟨x_18, g_17, qc, q⟩ := q
    refine x_callS hx hb hml hl.1 hown hX M (S1 := S) (As := [.ref a_16, .int (0 : Int32), .ref a8, .int (sx0 + (4 : Int32))]) (rest := []) kw_1432 mok_X12_areLike (c_X12_areLike ra_16 ra8 qc (Nat.le_refl 1)) kw_1431 rfl rfl dX12_agree_206 (Nat.le_of_ble_eq_true rfl) ⟨Nat.le_trans (by decide) hRf, Nat.le_trans (by decide) hRl⟩ (Nat.zero_le _) (Nat.zero_le _) (fun H locs M hEF => ?_)
    replace q := ck_s q
    obtain ⟨hz, q⟩ := q
    cases q
    exact x_zret hx hb hr hlk (zb_nar hz) M Ext.rf dX12_agree_209
  · replace q := if_t c_10 q
    refine lv_iconst (v := 0) hx hb dX12_agree_163 (by decide) ?_
    cases q
    exact x_zret hx hb hr hlk rfl M Ext.rf dX12_agree_164
set_option maxHeartbeats 4000000 in
set_option maxRecDepth 100000 in
theorem w_X12_agree_100 (hx : p.tables.exec = Jvm.exec) (hb : c.code = cX12_agree) (hml : c.maxLocals = 10) (hr : meth.sig.returnType = (some .boolean)) (hlk : meth.locks = false) (hown : s.vm.findClass RX12 = some m.cls) (hX : Kx D cA lo tS s) (hRf : 306 ≤ R.frames) (hRl : 18360 ≤ R.locals) {N : Nat} {rv : Int32} {g1 : Hg} {S : Hs} : ∀ (H : Heap) (locs : List Loc) (ls : Array Slot) (g : Hg) (a0 : Nat) (x2 : Int32) (x4 : Int32) (x5 : Int32) (a6 : Nat) (x7 : Int32) (sa0 : Nat), Mm D cA lo S g s H locs → Rf lo S a0 12 → Rf lo S a6 20 → Rf lo S sa0 20 → lv_has ls 10 [(0, .ref a0), (2, .int x2), (4, .int x4), (5, .int x5), (6, .ref a6), (7, .int x7)] → b_X12_agree_100 N S g a0 x2 x4 x5 a6 x7 sa0 = some (rv, g1) → W p l e R s m args below meth c H locs 0 0 (MQ below (Qcx D cA lo S (some (.int rv)) S g1 True) args s 0 0 (fun q : Nat => lo ≤ q)) (F0 m 100 ls [.ref sa0]) := by
  intro H locs ls g a0 x2 x4 x5 a6 x7 sa0 M ra0 ra6 rsa0 hl q
  unfold b_X12_agree_100 at q
  refine lv_astore (lv' := [(8, .ref sa0), (0, .ref a0), (2, .int x2), (4, .int x4), (5, .int x5), (6, .ref a6), (7, .int x7)]) hx hb dX12_agree_100 hl (by decide) rfl (fun ls hl => ?_)
  refine lv_iload hx hb dX12_agree_102 (lv_at hl 4 rfl) ?_
  refine lv_if_eq (tgt := 112) hx hb dX12_agree_104 (by decide) (fun c_1 => ?_) (fun c_1 => ?_)
  · replace q := if_t c_1 q
    refine lv_iload_n hx hb dX12_agree_112 rfl (lv_at hl 2 rfl) ?_
    exact w_X12_agree_113 hx hb hml hr hlk hown hX hRf hRl (N := N)  _ _ _ _ _ _ _ _ _ M ra0 ra6 rsa0 (lv_sub hl [1, 5, 6, 0] rfl) q
  · replace q := if_f c_1 q
    refine lv_iload hx hb dX12_agree_107 (lv_at hl 3 rfl) ?_
    refine lv_goto (tgt := 113) hx hb dX12_agree_109 (by decide) ?_
    exact w_X12_agree_113 hx hb hml hr hlk hown hX hRf hRl (N := N)  _ _ _ _ _ _ _ _ _ M ra0 ra6 rsa0 (lv_sub hl [1, 5, 6, 0] rfl) q
set_option maxHeartbeats 4000000 in
set_option maxRecDepth 100000 in
theorem w_X12_agree_88 (hx : p.tables.exec = Jvm.exec) (hb : c.code = cX12_agree) (hml : c.maxLocals = 10) (hr : meth.sig.returnType = (some .boolean)) (hlk : meth.locks = false) (hown : s.vm.findClass RX12 = some m.cls) (hX : Kx D cA lo tS s) (hRf : 306 ≤ R.frames) (hRl : 18360 ≤ R.locals) {N : Nat} {rv : Int32} {g1 : Hg} {S : Hs} : ∀ (H : Heap) (locs : List Loc) (ls : Array Slot) (g : Hg) (a0 : Nat) (a1 : Nat) (x2 : Int32) (a3 : Nat) (x4 : Int32) (x5 : Int32) (a6 : Nat) (sx0 : Int32), Mm D cA lo S g s H locs → Rf lo S a0 12 → Rf lo S a1 20 → Rf lo S a3 20 → Rf lo S a6 20 → lv_has ls 10 [(0, .ref a0), (1, .ref a1), (2, .int x2), (3, .ref a3), (4, .int x4), (5, .int x5), (6, .ref a6)] → b_X12_agree_88 N S g a0 a1 x2 a3 x4 x5 a6 sx0 = some (rv, g1) → W p l e R s m args below meth c H locs 0 0 (MQ below (Qcx D cA lo S (some (.int rv)) S g1 True) args s 0 0 (fun q : Nat => lo ≤ q)) (F0 m 88 ls [.int sx0]) := by
  intro H locs ls g a0 a1 x2 a3 x4 x5 a6 sx0 M ra0 ra1 ra3 ra6 hl q
  unfold b_X12_agree_88 at q
  refine lv_istore (lv' := [(7, .int sx0), (0, .ref a0), (1, .ref a1), (2, .int x2), (3, .ref a3), (4, .int x4), (5, .int x5), (6, .ref a6)]) hx hb dX12_agree_88 hl (by decide) rfl (fun ls hl => ?_)
  refine lv_iload hx hb dX12_agree_90 (lv_at hl 6 rfl) ?_
  refine lv_if_eq (tgt := 99) hx hb dX12_agree_92 (by decide) (fun c_1 => ?_) (fun c_1 => ?_)
  · replace q := if_t c_1 q
    refine lv_aload_n hx hb dX12_agree_99 rfl (lv_at hl 2 rfl) ?_
    exact w_X12_agree_100 hx hb hml hr hlk hown hX hRf hRl (N := N)  _ _ _ _ _ _ _ _ _ _ _ M ra0 ra6 ra1 (lv_sub hl [1, 3, 5, 6, 7, 0] rfl) q
  · replace q := if_f c_1 q
    refine lv_aload_n hx hb dX12_agree_95 rfl (lv_at hl 4 rfl) ?_
    refine lv_goto (tgt := 100) hx hb dX12_agree_96 (by decide) ?_
    exact w_X12_agree_100 hx hb hml hr hlk hown hX hRf hRl (N := N)  _ _ _ _ _ _ _ _ _ _ _ M ra0 ra6 ra3 (lv_sub hl [1, 3, 5, 6, 7, 0] rfl) q
set_option maxHeartbeats 4000000 in
set_option maxRecDepth 100000 in
theorem w_X12_agree_75 (hx : p.tables.exec = Jvm.exec) (hb : c.code = cX12_agree) (hml : c.maxLocals = 10) (hr : meth.sig.returnType = (some .boolean)) (hlk : meth.locks = false) (hown : s.vm.findClass RX12 = some m.cls) (hX : Kx D cA lo tS s) (hRf : 306 ≤ R.frames) (hRl : 18360 ≤ R.locals) {N : Nat} {rv : Int32} {g1 : Hg} {S : Hs} : ∀ (H : Heap) (locs : List Loc) (ls : Array Slot) (g : Hg) (a0 : Nat) (a1 : Nat) (x2 : Int32) (a3 : Nat) (x4 : Int32) (x5 : Int32) (sa0 : Nat), Mm D cA lo S g s H locs → Rf lo S a0 12 → Rf lo S a1 20 → Rf lo S a3 20 → Rf lo S sa0 20 → lv_has ls 10 [(0, .ref a0), (1, .ref a1), (2, .int x2), (3, .ref a3), (4, .int x4), (5, .int x5)] → b_X12_agree_75 N S g a0 a1 x2 a3 x4 x5 sa0 = some (rv, g1) → W p l e R s m args below meth c H locs 0 0 (MQ below (Qcx D cA lo S (some (.int rv)) S g1 True) args s 0 0 (fun q : Nat => lo ≤ q)) (F0 m 75 ls [.ref sa0]) := by
  intro H locs ls g a0 a1 x2 a3 x4 x5 sa0 M ra0 ra1 ra3 rsa0 hl q
  unfold b_X12_agree_75 at q
  refine lv_astore (lv' := [(6, .ref sa0), (0, .ref a0), (1, .ref a1), (2, .int x2), (3, .ref a3), (4, .int x4), (5, .int x5)]) hx hb dX12_agree_75 hl (by decide) rfl (fun ls hl => ?_)
  refine lv_iload hx hb dX12_agree_77 (lv_at hl 6 rfl) ?_
  refine lv_if_eq (tgt := 86) hx hb dX12_agree_79 (by decide) (fun c_1 => ?_) (fun c_1 => ?_)
  · replace q := if_t c_1 q
    refine lv_iload hx hb dX12_agree_86 (lv_at hl 5 rfl) ?_
    exact w_X12_agree_88 hx hb hml hr hlk hown hX hRf hRl (N := N)  _ _ _ _ _ _ _ _ _ _ _ _ M ra0 ra1 ra3 rsa0 (lv_sub hl [1, 2, 3, 4, 5, 6, 0] rfl) q
  · replace q := if_f c_1 q
    refine lv_iload_n hx hb dX12_agree_82 rfl (lv_at hl 3 rfl) ?_
    refine lv_goto (tgt := 88) hx hb dX12_agree_83 (by decide) ?_
    exact w_X12_agree_88 hx hb hml hr hlk hown hX hRf hRl (N := N)  _ _ _ _ _ _ _ _ _ _ _ _ M ra0 ra1 ra3 rsa0 (lv_sub hl [1, 2, 3, 4, 5, 6, 0] rfl) q
set_option maxHeartbeats 4000000 in
set_option maxRecDepth 100000 in
theorem w_X12_agree_63 (hx : p.tables.exec = Jvm.exec) (hb : c.code = cX12_agree) (hml : c.maxLocals = 10) (hr : meth.sig.returnType = (some .boolean)) (hlk : meth.locks = false) (hown : s.vm.findClass RX12 = some m.cls) (hX : Kx D cA lo tS s) (hRf : 306 ≤ R.frames) (hRl : 18360 ≤ R.locals) {N : Nat} {rv : Int32} {g1 : Hg} {S : Hs} : ∀ (H : Heap) (locs : List Loc) (ls : Array Slot) (g : Hg) (a0 : Nat) (a1 : Nat) (x2 : Int32) (a3 : Nat) (x4 : Int32) (sx0 : Int32), Mm D cA lo S g s H locs → Rf lo S a0 12 → Rf lo S a1 20 → Rf lo S a3 20 → lv_has ls 10 [(0, .ref a0), (1, .ref a1), (2, .int x2), (3, .ref a3), (4, .int x4)] → b_X12_agree_63 N S g a0 a1 x2 a3 x4 sx0 = some (rv, g1) → W p l e R s m args below meth c H locs 0 0 (MQ below (Qcx D cA lo S (some (.int rv)) S g1 True) args s 0 0 (fun q : Nat => lo ≤ q)) (F0 m 63 ls [.int sx0]) := by
  intro H locs ls g a0 a1 x2 a3 x4 sx0 M ra0 ra1 ra3 hl q
  unfold b_X12_agree_63 at q
  refine lv_istore (lv' := [(5, .int sx0), (0, .ref a0), (1, .ref a1), (2, .int x2), (3, .ref a3), (4, .int x4)]) hx hb dX12_agree_63 hl (by decide) rfl (fun ls hl => ?_)
  refine lv_iload hx hb dX12_agree_65 (lv_at hl 0 rfl) ?_
  refine lv_if_eq (tgt := 74) hx hb dX12_agree_67 (by decide) (fun c_1 => ?_) (fun c_1 => ?_)
  · replace q := if_t c_1 q
    refine lv_aload_n hx hb dX12_agree_74 rfl (lv_at hl 4 rfl) ?_
    exact w_X12_agree_75 hx hb hml hr hlk hown hX hRf hRl (N := N)  _ _ _ _ _ _ _ _ _ _ _ M ra0 ra1 ra3 ra3 (lv_sub hl [1, 2, 3, 4, 5, 0] rfl) q
  · replace q := if_f c_1 q
    refine lv_aload_n hx hb dX12_agree_70 rfl (lv_at hl 2 rfl) ?_
    refine lv_goto (tgt := 75) hx hb dX12_agree_71 (by decide) ?_
    exact w_X12_agree_75 hx hb hml hr hlk hown hX hRf hRl (N := N)  _ _ _ _ _ _ _ _ _ _ _ M ra0 ra1 ra3 ra1 (lv_sub hl [1, 2, 3, 4, 5, 0] rfl) q
set_option maxHeartbeats 4000000 in
set_option maxRecDepth 100000 in
theorem w_X12_agree_0 (hx : p.tables.exec = Jvm.exec) (hb : c.code = cX12_agree) (hml : c.maxLocals = 10) (hr : meth.sig.returnType = (some .boolean)) (hlk : meth.locks = false) (hown : s.vm.findClass RX12 = some m.cls) (hX : Kx D cA lo tS s) (hRf : 306 ≤ R.frames) (hRl : 18360 ≤ R.locals) {N : Nat} {rv : Int32} {g1 : Hg} {S : Hs} : ∀ (H : Heap) (locs : List Loc) (ls : Array Slot) (g : Hg) (a0 : Nat) (a1 : Nat) (x2 : Int32) (a3 : Nat) (x4 : Int32), Mm D cA lo S g s H locs → Rf lo S a0 12 → Rf lo S a1 20 → Rf lo S a3 20 → lv_has ls 10 [(0, .ref a0), (1, .ref a1), (2, .int x2), (3, .ref a3), (4, .int x4)] → b_X12_agree_0 N S g a0 a1 x2 a3 x4 = some (rv, g1) → W p l e R s m args below meth c H locs 0 0 (MQ below (Qcx D cA lo S (some (.int rv)) S g1 True) args s 0 0 (fun q : Nat => lo ≤ q)) (F0 m 0 ls []) := by
  intro H locs ls g a0 a1 x2 a3 x4 M ra0 ra1 ra3 hl q
  unfold b_X12_agree_0 at q
  refine lv_aload_n hx hb dX12_agree_0 rfl (lv_at hl 1 rfl) ?_
  refine lv_iload_n hx hb dX12_agree_1 rfl (lv_at hl 2 rfl) ?_
  replace q := ck_s q
  obtain ⟨hin, q⟩ := q
  refine x_iald hx hb hX M ra1 (inb_in hin) dX12_agree_2 ?_
  refine lv_aload_n hx hb dX12_agree_3 rfl (lv_at hl 3 rfl) ?_
  refine lv_iload hx hb dX12_agree_4 (lv_at hl 4 rfl) ?_
  replace q := ck_s q
  obtain ⟨hin, q⟩ := q
  refine x_iald hx hb hX M ra3 (inb_in hin) dX12_agree_6 ?_
  refine lv_icmp_ne (tgt := 48) hx hb dX12_agree_7 (by decide) (fun c_1 => ?_) (fun c_1 => ?_)
  · replace q := if_f c_1 q
    refine lv_aload_n hx hb dX12_agree_48 rfl (lv_at hl 1 rfl) ?_
    refine lv_iload_n hx hb dX12_agree_49 rfl (lv_at hl 2 rfl) ?_
    replace q := ck_s q
    obtain ⟨hin, q⟩ := q
    refine x_iald hx hb hX M ra1 (inb_in hin) dX12_agree_50 ?_
    refine lv_aload_n hx hb dX12_agree_51 rfl (lv_at hl 3 rfl) ?_
    refine lv_iload hx hb dX12_agree_52 (lv_at hl 4 rfl) ?_
    replace q := ck_s q
    obtain ⟨hin, q⟩ := q
    refine x_iald hx hb hX M ra3 (inb_in hin) dX12_agree_54 ?_
    refine lv_icmp_ge (tgt := 62) hx hb dX12_agree_55 (by decide) (fun c_2 => ?_) (fun c_2 => ?_)
    · replace q := if_t c_2 q
      refine lv_iconst (v := 0) hx hb dX12_agree_62 (by decide) ?_
      exact w_X12_agree_63 hx hb hml hr hlk hown hX hRf hRl (N := N)  _ _ _ _ _ _ _ _ _ _ M ra0 ra1 ra3 (lv_sub hl [0, 1, 2, 3, 4] rfl) q
    · replace q := if_f c_2 q
      refine lv_iconst (v := 1) hx hb dX12_agree_58 (by decide) ?_
      refine lv_goto (tgt := 63) hx hb dX12_agree_59 (by decide) ?_
      exact w_X12_agree_63 hx hb hml hr hlk hown hX hRf hRl (N := N)  _ _ _ _ _ _ _ _ _ _ M ra0 ra1 ra3 (lv_sub hl [0, 1, 2, 3, 4] rfl) q
  · replace q := if_t c_1 q
    refine lv_aload_n hx hb dX12_agree_10 rfl (lv_at hl 1 rfl) ?_
    refine lv_iload_n hx hb dX12_agree_11 rfl (lv_at hl 2 rfl) ?_
    refine lv_iconst (v := 4) hx hb dX12_agree_12 (by decide) ?_
    refine lv_iadd hx hb dX12_agree_13 ?_
    refine lv_aload_n hx hb dX12_agree_14 rfl (lv_at hl 3 rfl) ?_
    refine lv_iload hx hb dX12_agree_15 (lv_at hl 4 rfl) ?_
    refine lv_iconst (v := 4) hx hb dX12_agree_17 (by decide) ?_
    refine lv_iadd hx hb dX12_agree_18 ?_
    replace q := c2_s q
    obtain ⟨x_4, g_3, qc, q⟩ := q
    refine x_callS hx hb hml hl.1 hown hX M (S1 := S) (As := [.ref a1, .int (x2 + (4 : Int32)), .ref a3, .int (x4 + (4 : Int32))]) (rest := []) kw_1432 mok_X12_areLike (c_X12_areLike ra1 ra3 qc (Nat.le_refl 1)) kw_1431 rfl rfl dX12_agree_19 (Nat.le_of_ble_eq_true rfl) ⟨Nat.le_trans (by decide) hRf, Nat.le_trans (by decide) hRl⟩ (Nat.zero_le _) (Nat.zero_le _) (fun H locs M hEF => ?_)
    refine lv_if_eq (tgt := 46) hx hb dX12_agree_22 (by decide) (fun c_5 => ?_) (fun c_5 => ?_)
    · replace q := if_t c_5 q
      refine lv_iconst (v := 0) hx hb dX12_agree_46 (by decide) ?_
      cases q
      exact x_zret hx hb hr hlk rfl M Ext.rf dX12_agree_47
    · replace q := if_f c_5 q
      refine lv_aload_n hx hb dX12_agree_25 rfl (lv_at hl 1 rfl) ?_
      refine lv_iload_n hx hb dX12_agree_26 rfl (lv_at hl 2 rfl) ?_
      refine lv_bipush (v := 12) hx hb dX12_agree_27 (by decide) ?_
      refine lv_iadd hx hb dX12_agree_29 ?_
      refine lv_aload_n hx hb dX12_agree_30 rfl (lv_at hl 3 rfl) ?_
      refine lv_iload hx hb dX12_agree_31 (lv_at hl 4 rfl) ?_
      refine lv_bipush (v := 12) hx hb dX12_agree_33 (by decide) ?_
      refine lv_iadd hx hb dX12_agree_35 ?_
      replace q := c2_s q
      obtain ⟨x_7, g_6, qc, q⟩ := q
      refine x_callS hx hb hml hl.1 hown hX M (S1 := S) (As := [.ref a1, .int (x2 + (12 : Int32)), .ref a3, .int (x4 + (12 : Int32))]) (rest := []) kw_1432 mok_X12_areLike (c_X12_areLike ra1 ra3 qc (Nat.le_refl 1)) kw_1431 rfl rfl dX12_agree_36 (Nat.le_of_ble_eq_true rfl) ⟨Nat.le_trans (by decide) hRf, Nat.le_trans (by decide) hRl⟩ (Nat.zero_le _) (Nat.zero_le _) (fun H locs M hEF => ?_)
      refine lv_if_eq (tgt := 46) hx hb dX12_agree_39 (by decide) (fun c_8 => ?_) (fun c_8 => ?_)
      · replace q := if_t c_8 q
        refine lv_iconst (v := 0) hx hb dX12_agree_46 (by decide) ?_
        cases q
        exact x_zret hx hb hr hlk rfl M Ext.rf dX12_agree_47
      · replace q := if_f c_8 q
        refine lv_iconst (v := 1) hx hb dX12_agree_42 (by decide) ?_
        refine lv_goto (tgt := 47) hx hb dX12_agree_43 (by decide) ?_
        cases q
        exact x_zret hx hb hr hlk rfl M Ext.rf dX12_agree_47
set_option maxRecDepth 100000 in
theorem c_X12_agree {l : Launch} {D : va_G} {cA : Nat → ClassId} {lo tS N : Nat} {S : Hs} {g g1 : Hg} {rv : Int32} {a0 : Nat} {a1 : Nat} {x2 : Int32} {a3 : Nat} {x4 : Int32} (ra0 : Rf lo S a0 12) (ra1 : Rf lo S a1 20) (ra3 : Rf lo S a3 20) (q : f_X12_agree N S g a0 a1 x2 a3 x4 = some (rv, g1)) {d : Nat} (hd : 306 ≤ d) : Ctr l yX12_agree cX12_agree 10 (some .boolean) D cA lo tS [.ref a0, .ref a1, .int x2, .ref a3, .int x4] S g d (some (.int rv)) S g1 True 0 0 := by
  refine x_met (by decide) (Nat.le_of_ble_eq_true rfl) ?_
  intro p e s m below meth c ls hx hb hml hr hlk hown hnm hX M hl
  exact w_X12_agree_0 hx hb hml hr hlk hown hX hd (Nat.mul_le_mul_left 60 hd) (N := N) _ _ _ _ _ _ _ _ _ M ra0 ra1 ra3 (lv_sub hl [0, 1, 2, 3, 4] rfl) q
def b_X12_copy_21 (N : Nat) (S : Hs) (k3 : Hg → Nat → Int32 → Nat → Int32 → Int32 → Int32 → Option (Unit × Hg)) (g : Hg) (a0 : Nat) (x1 : Int32) (a2 : Nat) (x3 : Int32) (x4 : Int32) (x5 : Int32) : Option (Unit × Hg) :=
ck (inb (x1 + x5) (hpL S a0)) (
ck (inb (x3 + x5) (hpL S a2)) (
nm (wrI g a2 (x3 + x5).toNatClampNeg (rdI g a0 (x1 + x5).toNatClampNeg)) (fun g_1 =>
nm (x5 + 1) (fun x_2 =>
k3 g_1 a0 x1 a2 x3 x4 x_2))))
def b_X12_copy_3 (N : Nat) (S : Hs) (k3 : Hg → Nat → Int32 → Nat → Int32 → Int32 → Int32 → Option (Unit × Hg)) (g : Hg) (a0 : Nat) (x1 : Int32) (a2 : Nat) (x3 : Int32) (x4 : Int32) (x5 : Int32) : Option (Unit × Hg) :=
if (28 : Int32) ≤ x5 then (
some ((), g)) else (
if x4 = 0 then (
if x5 = (3 : Int32) then (
nm (x5 + 1) (fun x_4 =>
k3 g a0 x1 a2 x3 x4 x_4)) else (
b_X12_copy_21 N S k3 g a0 x1 a2 x3 x4 x5)) else (
b_X12_copy_21 N S k3 g a0 x1 a2 x3 x4 x5))
def n_X12_copy_3 (N : Nat) (S : Hs) : Nat → Hg → Nat → Int32 → Nat → Int32 → Int32 → Int32 → Option (Unit × Hg)
  | 0 => fun _ _ _ _ _ _ _ => none
  | n + 1 => fun g a0 x1 a2 x3 x4 x5 => b_X12_copy_3 N S (n_X12_copy_3 N S n) g a0 x1 a2 x3 x4 x5
def b_X12_copy_0 (N : Nat) (S : Hs) (g : Hg) (a0 : Nat) (x1 : Int32) (a2 : Nat) (x3 : Int32) (x4 : Int32) : Option (Unit × Hg) :=
n_X12_copy_3 N S N g a0 x1 a2 x3 x4 (0 : Int32)
def f_X12_copy (N : Nat) (S : Hs) (g : Hg) (a0 : Nat) (x1 : Int32) (a2 : Nat) (x3 : Int32) (x4 : Int32) : Option (Unit × Hg) := b_X12_copy_0 N S g a0 x1 a2 x3 x4
set_option maxHeartbeats 4000000 in
set_option maxRecDepth 100000 in
theorem w_X12_copy_21 (hx : p.tables.exec = Jvm.exec) (hb : c.code = cX12_copy) (hml : c.maxLocals = 6) (hr : meth.sig.returnType = none) (hlk : meth.locks = false) (hown : s.vm.findClass RX12 = some m.cls) (hX : Kx D cA lo tS s) (hRf : 1 ≤ R.frames) (hRl : 60 ≤ R.locals) {N : Nat} {rv : Unit} {g1 : Hg} {S : Hs} {k3 : Hg → Nat → Int32 → Nat → Int32 → Int32 → Int32 → Option (Unit × Hg)} (hk3 : ∀ (H : Heap) (locs : List Loc) (ls : Array Slot) (g : Hg) (a0 : Nat) (x1 : Int32) (a2 : Nat) (x3 : Int32) (x4 : Int32) (x5 : Int32), Mm D cA lo S g s H locs → Rf lo S a0 20 → Rf lo S a2 20 → lv_has ls 6 [(0, .ref a0), (1, .int x1), (2, .ref a2), (3, .int x3), (4, .int x4), (5, .int x5)] → k3 g a0 x1 a2 x3 x4 x5 = some (rv, g1) → W p l e R s m args below meth c H locs 0 0 (MQ below (Qcx D cA lo S none S g1 True) args s 0 0 (fun q : Nat => lo ≤ q)) (F0 m 3 ls [])) : ∀ (H : Heap) (locs : List Loc) (ls : Array Slot) (g : Hg) (a0 : Nat) (x1 : Int32) (a2 : Nat) (x3 : Int32) (x4 : Int32) (x5 : Int32), Mm D cA lo S g s H locs → Rf lo S a0 20 → Rf lo S a2 20 → lv_has ls 6 [(0, .ref a0), (1, .int x1), (2, .ref a2), (3, .int x3), (4, .int x4), (5, .int x5)] → b_X12_copy_21 N S k3 g a0 x1 a2 x3 x4 x5 = some (rv, g1) → W p l e R s m args below meth c H locs 0 0 (MQ below (Qcx D cA lo S none S g1 True) args s 0 0 (fun q : Nat => lo ≤ q)) (F0 m 21 ls []) := by
  intro H locs ls g a0 x1 a2 x3 x4 x5 M ra0 ra2 hl q
  unfold b_X12_copy_21 at q
  refine lv_aload_n hx hb dX12_copy_21 rfl (lv_at hl 2 rfl) ?_
  refine lv_iload_n hx hb dX12_copy_22 rfl (lv_at hl 3 rfl) ?_
  refine lv_iload hx hb dX12_copy_23 (lv_at hl 5 rfl) ?_
  refine lv_iadd hx hb dX12_copy_25 ?_
  refine lv_aload_n hx hb dX12_copy_26 rfl (lv_at hl 0 rfl) ?_
  refine lv_iload_n hx hb dX12_copy_27 rfl (lv_at hl 1 rfl) ?_
  refine lv_iload hx hb dX12_copy_28 (lv_at hl 5 rfl) ?_
  refine lv_iadd hx hb dX12_copy_30 ?_
  replace q := ck_s q
  obtain ⟨hin, q⟩ := q
  refine x_iald hx hb hX M ra0 (inb_in hin) dX12_copy_31 ?_
  replace q := ck_s q
  obtain ⟨hin, q⟩ := q
  refine x_iast hx hb hX M ra2 (inb_in hin) dX12_copy_32 (fun H locs M => ?_)
  replace q := gen_g M q
  obtain ⟨g_1, -, M, q⟩ := q
  obtain ⟨x_2, e_x_2⟩ : ∃ y : Int32, y = x5 + 1 := ⟨_, rfl⟩
  replace q := nm_s q e_x_2
  refine lv_iinc (v := x_2) (lv' := [(5, .int x_2), (0, .ref a0), (1, .int x1), (2, .ref a2), (3, .int x3), (4, .int x4)]) hx hb dX12_copy_33 hl (k := 5) rfl (by rw [e_x_2]; rfl) (by decide) rfl (fun ls hl => ?_)
  refine lv_goto (tgt := 3) hx hb dX12_copy_36 (by decide) ?_
  exact hk3 _ _ _ _ _ _ _ _ _ _ M ra0 ra2 (lv_sub hl [1, 2, 3, 4, 5, 0] rfl) q
set_option maxHeartbeats 4000000 in
set_option maxRecDepth 100000 in
theorem w_X12_copy_3 (hx : p.tables.exec = Jvm.exec) (hb : c.code = cX12_copy) (hml : c.maxLocals = 6) (hr : meth.sig.returnType = none) (hlk : meth.locks = false) (hown : s.vm.findClass RX12 = some m.cls) (hX : Kx D cA lo tS s) (hRf : 1 ≤ R.frames) (hRl : 60 ≤ R.locals) {N : Nat} {rv : Unit} {g1 : Hg} {S : Hs} {k3 : Hg → Nat → Int32 → Nat → Int32 → Int32 → Int32 → Option (Unit × Hg)} (hk3 : ∀ (H : Heap) (locs : List Loc) (ls : Array Slot) (g : Hg) (a0 : Nat) (x1 : Int32) (a2 : Nat) (x3 : Int32) (x4 : Int32) (x5 : Int32), Mm D cA lo S g s H locs → Rf lo S a0 20 → Rf lo S a2 20 → lv_has ls 6 [(0, .ref a0), (1, .int x1), (2, .ref a2), (3, .int x3), (4, .int x4), (5, .int x5)] → k3 g a0 x1 a2 x3 x4 x5 = some (rv, g1) → W p l e R s m args below meth c H locs 0 0 (MQ below (Qcx D cA lo S none S g1 True) args s 0 0 (fun q : Nat => lo ≤ q)) (F0 m 3 ls [])) : ∀ (H : Heap) (locs : List Loc) (ls : Array Slot) (g : Hg) (a0 : Nat) (x1 : Int32) (a2 : Nat) (x3 : Int32) (x4 : Int32) (x5 : Int32), Mm D cA lo S g s H locs → Rf lo S a0 20 → Rf lo S a2 20 → lv_has ls 6 [(0, .ref a0), (1, .int x1), (2, .ref a2), (3, .int x3), (4, .int x4), (5, .int x5)] → b_X12_copy_3 N S k3 g a0 x1 a2 x3 x4 x5 = some (rv, g1) → W p l e R s m args below meth c H locs 0 0 (MQ below (Qcx D cA lo S none S g1 True) args s 0 0 (fun q : Nat => lo ≤ q)) (F0 m 3 ls []) := by
  intro H locs ls g a0 x1 a2 x3 x4 x5 M ra0 ra2 hl q
  unfold b_X12_copy_3 at q
  refine lv_iload hx hb dX12_copy_3 (lv_at hl 5 rfl) ?_
  refine lv_bipush (v := 28) hx hb dX12_copy_5 (by decide) ?_
  refine lv_icmp_ge (tgt := 39) hx hb dX12_copy_7 (by decide) (fun c_1 => ?_) (fun c_1 => ?_)
  · replace q := if_t c_1 q
    cases q
    exact x_vret hx hb hr hlk M Ext.rf dX12_copy_39
  · replace q := if_f c_1 q
    refine lv_iload hx hb dX12_copy_10 (lv_at hl 4 rfl) ?_
    refine lv_if_ne (tgt := 21) hx hb dX12_copy_12 (by decide) (fun c_2 => ?_) (fun c_2 => ?_)
    · replace q := if_f c_2 q
      exact w_X12_copy_21 hx hb hml hr hlk hown hX hRf hRl (N := N) hk3 _ _ _ _ _ _ _ _ _ _ M ra0 ra2 (lv_sub hl [0, 1, 2, 3, 4, 5] rfl) q
    · replace q := if_t c_2 q
      refine lv_iload hx hb dX12_copy_15 (lv_at hl 5 rfl) ?_
      refine lv_iconst (v := 3) hx hb dX12_copy_17 (by decide) ?_
      refine lv_icmp_eq (tgt := 33) hx hb dX12_copy_18 (by decide) (fun c_3 => ?_) (fun c_3 => ?_)
      · replace q := if_t c_3 q
        obtain ⟨x_4, e_x_4⟩ : ∃ y : Int32, y = x5 + 1 := ⟨_, rfl⟩
        replace q := nm_s q e_x_4
        refine lv_iinc (v := x_4) (lv' := [(5, .int x_4), (0, .ref a0), (1, .int x1), (2, .ref a2), (3, .int x3), (4, .int x4)]) hx hb dX12_copy_33 hl (k := 5) rfl (by rw [e_x_4]; rfl) (by decide) rfl (fun ls hl => ?_)
        refine lv_goto (tgt := 3) hx hb dX12_copy_36 (by decide) ?_
        exact hk3 _ _ _ _ _ _ _ _ _ _ M ra0 ra2 (lv_sub hl [1, 2, 3, 4, 5, 0] rfl) q
      · replace q := if_f c_3 q
        exact w_X12_copy_21 hx hb hml hr hlk hown hX hRf hRl (N := N) hk3 _ _ _ _ _ _ _ _ _ _ M ra0 ra2 (lv_sub hl [0, 1, 2, 3, 4, 5] rfl) q
set_option maxRecDepth 100000 in
theorem l_X12_copy_3 (hx : p.tables.exec = Jvm.exec) (hb : c.code = cX12_copy) (hml : c.maxLocals = 6) (hr : meth.sig.returnType = none) (hlk : meth.locks = false) (hown : s.vm.findClass RX12 = some m.cls) (hX : Kx D cA lo tS s) (hRf : 1 ≤ R.frames) (hRl : 60 ≤ R.locals) {N : Nat} {rv : Unit} {g1 : Hg} {S : Hs} : ∀ (n : Nat), ∀ (H : Heap) (locs : List Loc) (ls : Array Slot) (g : Hg) (a0 : Nat) (x1 : Int32) (a2 : Nat) (x3 : Int32) (x4 : Int32) (x5 : Int32), Mm D cA lo S g s H locs → Rf lo S a0 20 → Rf lo S a2 20 → lv_has ls 6 [(0, .ref a0), (1, .int x1), (2, .ref a2), (3, .int x3), (4, .int x4), (5, .int x5)] → n_X12_copy_3 N S n g a0 x1 a2 x3 x4 x5 = some (rv, g1) → W p l e R s m args below meth c H locs 0 0 (MQ below (Qcx D cA lo S none S g1 True) args s 0 0 (fun q : Nat => lo ≤ q)) (F0 m 3 ls []) := by
  intro n
  induction n with
  | zero =>
    intro H locs ls g a0 x1 a2 x3 x4 x5 M ra0 ra2 hl q
    exact absurd q (by simp [n_X12_copy_3])
  | succ n ih => exact w_X12_copy_3 hx hb hml hr hlk hown hX hRf hRl (N := N)  ih
set_option maxHeartbeats 4000000 in
set_option maxRecDepth 100000 in
theorem w_X12_copy_0 (hx : p.tables.exec = Jvm.exec) (hb : c.code = cX12_copy) (hml : c.maxLocals = 6) (hr : meth.sig.returnType = none) (hlk : meth.locks = false) (hown : s.vm.findClass RX12 = some m.cls) (hX : Kx D cA lo tS s) (hRf : 1 ≤ R.frames) (hRl : 60 ≤ R.locals) {N : Nat} {rv : Unit} {g1 : Hg} {S : Hs} : ∀ (H : Heap) (locs : List Loc) (ls : Array Slot) (g : Hg) (a0 : Nat) (x1 : Int32) (a2 : Nat) (x3 : Int32) (x4 : Int32), Mm D cA lo S g s H locs → Rf lo S a0 20 → Rf lo S a2 20 → lv_has ls 6 [(0, .ref a0), (1, .int x1), (2, .ref a2), (3, .int x3), (4, .int x4)] → b_X12_copy_0 N S g a0 x1 a2 x3 x4 = some (rv, g1) → W p l e R s m args below meth c H locs 0 0 (MQ below (Qcx D cA lo S none S g1 True) args s 0 0 (fun q : Nat => lo ≤ q)) (F0 m 0 ls []) := by
  intro H locs ls g a0 x1 a2 x3 x4 M ra0 ra2 hl q
  unfold b_X12_copy_0 at q
  refine lv_iconst (v := 0) hx hb dX12_copy_0 (by decide) ?_
  refine lv_istore (lv' := [(5, .int (0 : Int32)), (0, .ref a0), (1, .int x1), (2, .ref a2), (3, .int x3), (4, .int x4)]) hx hb dX12_copy_1 hl (by decide) rfl (fun ls hl => ?_)
  exact l_X12_copy_3 hx hb hml hr hlk hown hX hRf hRl (N := N)  N _ _ _ _ _ _ _ _ _ _ M ra0 ra2 (lv_sub hl [1, 2, 3, 4, 5, 0] rfl) q
set_option maxRecDepth 100000 in
theorem c_X12_copy {l : Launch} {D : va_G} {cA : Nat → ClassId} {lo tS N : Nat} {S : Hs} {g g1 : Hg} {rv : Unit} {a0 : Nat} {x1 : Int32} {a2 : Nat} {x3 : Int32} {x4 : Int32} (ra0 : Rf lo S a0 20) (ra2 : Rf lo S a2 20) (q : f_X12_copy N S g a0 x1 a2 x3 x4 = some (rv, g1)) {d : Nat} (hd : 1 ≤ d) : Ctr l yX12_copy cX12_copy 6 none D cA lo tS [.ref a0, .int x1, .ref a2, .int x3, .int x4] S g d none S g1 True 0 0 := by
  refine x_met (by decide) (Nat.le_of_ble_eq_true rfl) ?_
  intro p e s m below meth c ls hx hb hml hr hlk hown hnm hX M hl
  exact w_X12_copy_0 hx hb hml hr hlk hown hX hd (Nat.mul_le_mul_left 60 hd) (N := N) _ _ _ _ _ _ _ _ _ M ra0 ra2 (lv_sub hl [0, 1, 2, 3, 4] rfl) q
def b_X12_blame_0 (N : Nat) (S : Hs) (g : Hg) (a0 : Nat) (a1 : Nat) (x2 : Int32) (a3 : Nat) (x4 : Int32) : Option (Unit × Hg) :=
if (rdI g a0 16) = (60 : Int32) then (
some ((), g)) else (
nn (rdR g a0 15) (fun a_2 =>
c2 (f_X12_copy N S g a1 x2 a_2 ((56 : Int32) * (rdI g a0 16)) (1 : Int32)) (fun u_4 g_3 =>
nn (rdR g_3 a0 15) (fun a_5 =>
c2 (f_X12_copy N S g_3 a3 x4 a_5 (((56 : Int32) * (rdI g_3 a0 16)) + (28 : Int32)) (1 : Int32)) (fun u_7 g_6 =>
nm (wrI g_6 a0 16 ((rdI g_6 a0 16) + (1 : Int32))) (fun g_8 =>
some ((), g_8)))))))
def f_X12_blame (N : Nat) (S : Hs) (g : Hg) (a0 : Nat) (a1 : Nat) (x2 : Int32) (a3 : Nat) (x4 : Int32) : Option (Unit × Hg) := b_X12_blame_0 N S g a0 a1 x2 a3 x4
set_option maxHeartbeats 4000000 in
set_option maxRecDepth 100000 in
theorem w_X12_blame_0 (hx : p.tables.exec = Jvm.exec) (hb : c.code = cX12_blame) (hml : c.maxLocals = 5) (hr : meth.sig.returnType = none) (hlk : meth.locks = false) (hown : s.vm.findClass RX12 = some m.cls) (hX : Kx D cA lo tS s) (hRf : 2 ≤ R.frames) (hRl : 120 ≤ R.locals) {N : Nat} {rv : Unit} {g1 : Hg} {S : Hs} : ∀ (H : Heap) (locs : List Loc) (ls : Array Slot) (g : Hg) (a0 : Nat) (a1 : Nat) (x2 : Int32) (a3 : Nat) (x4 : Int32), Mm D cA lo S g s H locs → Rf lo S a0 12 → Rf lo S a1 20 → Rf lo S a3 20 → lv_has ls 5 [(0, .ref a0), (1, .ref a1), (2, .int x2), (3, .ref a3), (4, .int x4)] → b_X12_blame_0 N S g a0 a1 x2 a3 x4 = some (rv, g1) → W p l e R s m args below meth c H locs 0 0 (MQ below (Qcx D cA lo S none S g1 True) args s 0 0 (fun q : Nat => lo ≤ q)) (F0 m 0 ls []) := by
  intro H locs ls g a0 a1 x2 a3 x4 M ra0 ra1 ra3 hl q
  unfold b_X12_blame_0 at q
  refine lv_aload_n hx hb dX12_blame_0 rfl (lv_at hl 0 rfl) ?_
  refine x_getI hx hb hown hX M (k := 16) okX12 ra0 (by decide) rfl kw_1028 dX12_blame_1 ?_
  refine lv_bipush (v := 60) hx hb dX12_blame_4 (by decide) ?_
  refine lv_icmp_ne (tgt := 10) hx hb dX12_blame_6 (by decide) (fun c_1 => ?_) (fun c_1 => ?_)
  · replace q := if_f c_1 q
    refine lv_aload_n hx hb dX12_blame_10 rfl (lv_at hl 1 rfl) ?_
    refine lv_iload_n hx hb dX12_blame_11 rfl (lv_at hl 2 rfl) ?_
    refine lv_aload_n hx hb dX12_blame_12 rfl (lv_at hl 0 rfl) ?_
    replace q := nn_s q
    obtain ⟨a_2, e_a_2, q⟩ := q
    refine x_getR hx hb hown hX M e_a_2 okX12 ra0 (by decide) rfl kw_1027 dX12_blame_13 (fun ra_2 => ?_)
    refine lv_bipush (v := 56) hx hb dX12_blame_16 (by decide) ?_
    refine lv_aload_n hx hb dX12_blame_18 rfl (lv_at hl 0 rfl) ?_
    refine x_getI hx hb hown hX M (k := 16) okX12 ra0 (by decide) rfl kw_1028 dX12_blame_19 ?_
    refine lv_imul hx hb dX12_blame_22 ?_
    refine lv_iconst (v := 1) hx hb dX12_blame_23 (by decide) ?_
    replace q := c2_s q
    obtain ⟨u_4, g_3, qc, q⟩ := q
    refine x_callS hx hb hml hl.1 hown hX M (S1 := S) (As := [.ref a1, .int x2, .ref a_2, .int ((56 : Int32) * (rdI g a0 16)), .int (1 : Int32)]) (rest := []) kw_1455 mok_X12_copy (c_X12_copy ra1 ra_2 qc (Nat.le_refl 1)) kw_1454 rfl rfl dX12_blame_24 (Nat.le_of_ble_eq_true rfl) ⟨Nat.le_trans (by decide) hRf, Nat.le_trans (by decide) hRl⟩ (Nat.zero_le _) (Nat.zero_le _) (fun H locs M hEF => ?_)
    refine lv_aload_n hx hb dX12_blame_27 rfl (lv_at hl 3 rfl) ?_
    refine lv_iload hx hb dX12_blame_28 (lv_at hl 4 rfl) ?_
    refine lv_aload_n hx hb dX12_blame_30 rfl (lv_at hl 0 rfl) ?_
    replace q := nn_s q
    obtain ⟨a_5, e_a_5, q⟩ := q
    refine x_getR hx hb hown hX M e_a_5 okX12 ra0 (by decide) rfl kw_1027 dX12_blame_31 (fun ra_5 => ?_)
    refine lv_bipush (v := 56) hx hb dX12_blame_34 (by decide) ?_
    refine lv_aload_n hx hb dX12_blame_36 rfl (lv_at hl 0 rfl) ?_
    refine x_getI hx hb hown hX M (k := 16) okX12 ra0 (by decide) rfl kw_1028 dX12_blame_37 ?_
    refine lv_imul hx hb dX12_blame_40 ?_
    refine lv_bipush (v := 28) hx hb dX12_blame_41 (by decide) ?_
    refine lv_iadd hx hb dX12_blame_43 ?_
    refine lv_iconst (v := 1) hx hb dX12_blame_44 (by decide) ?_
    replace q := c2_s q
    obtain ⟨u_7, g_6, qc, q⟩ := q
    refine x_callS hx hb hml hl.1 hown hX M (S1 := S) (As := [.ref a3, .int x4, .ref a_5, .int (((56 : Int32) * (rdI g_3 a0 16)) + (28 : Int32)), .int (1 : Int32)]) (rest := []) kw_1455 mok_X12_copy (c_X12_copy ra3 ra_5 qc (Nat.le_refl 1)) kw_1454 rfl rfl dX12_blame_45 (Nat.le_of_ble_eq_true rfl) ⟨Nat.le_trans (by decide) hRf, Nat.le_trans (by decide) hRl⟩ (Nat.zero_le _) (Nat.zero_le _) (fun H locs M hEF => ?_)
    refine lv_aload_n hx hb dX12_blame_48 rfl (lv_at hl 0 rfl) ?_
    refine lv_dup hx hb dX12_blame_49 rfl ?_
    refine x_getI hx hb hown hX M (k := 16) okX12 ra0 (by decide) rfl kw_1028 dX12_blame_50 ?_
    refine lv_iconst (v := 1) hx hb dX12_blame_53 (by decide) ?_
    refine lv_iadd hx hb dX12_blame_54 ?_
    refine x_putI hx hb hown hX M (k := 16) okX12 ra0 (by decide) rfl (Or.inl rfl) rfl rfl kw_1028 dX12_blame_55 (fun H locs M => ?_)
    replace q := gen_g M q
    obtain ⟨g_8, -, M, q⟩ := q
    cases q
    exact x_vret hx hb hr hlk M Ext.rf dX12_blame_58
  · replace q := if_t c_1 q
    cases q
    exact x_vret hx hb hr hlk M Ext.rf dX12_blame_9
set_option maxRecDepth 100000 in
theorem c_X12_blame {l : Launch} {D : va_G} {cA : Nat → ClassId} {lo tS N : Nat} {S : Hs} {g g1 : Hg} {rv : Unit} {a0 : Nat} {a1 : Nat} {x2 : Int32} {a3 : Nat} {x4 : Int32} (ra0 : Rf lo S a0 12) (ra1 : Rf lo S a1 20) (ra3 : Rf lo S a3 20) (q : f_X12_blame N S g a0 a1 x2 a3 x4 = some (rv, g1)) {d : Nat} (hd : 2 ≤ d) : Ctr l yX12_blame cX12_blame 5 none D cA lo tS [.ref a0, .ref a1, .int x2, .ref a3, .int x4] S g d none S g1 True 0 0 := by
  refine x_met (by decide) (Nat.le_of_ble_eq_true rfl) ?_
  intro p e s m below meth c ls hx hb hml hr hlk hown hnm hX M hl
  exact w_X12_blame_0 hx hb hml hr hlk hown hX hd (Nat.mul_le_mul_left 60 hd) (N := N) _ _ _ _ _ _ _ _ _ M ra0 ra1 ra3 (lv_sub hl [0, 1, 2, 3, 4] rfl) q
end W19
