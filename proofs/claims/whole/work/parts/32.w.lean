section W12
variable {p : Program} {l : Launch} {e : Env} {R : Room} {s : State} {m : MethodId} {args : Array Value} {below : List Frame} {meth : Method} {c : Code} {D : va_G} {cA : Nat → ClassId} {lo tS : Nat}
def b_X12_tree_8 (N : Nat) (S : Hs) (self : Hg → Nat → Int32 → Int32 → Int32 → Nat → Int32 → Option (Unit × Hg)) (k8 : Hg → Nat → Int32 → Int32 → Option (Unit × Hg)) (g : Hg) (a4 : Nat) (x5 : Int32) (x6 : Int32) : Option (Unit × Hg) :=
if (8 : Int32) ≤ x6 then (
some ((), g)) else (
ck (inb (x5 + x6) (hpL S a4)) (
nm (wrI g a4 (x5 + x6).toNatClampNeg (0 : Int32)) (fun g_2 =>
nm (x6 + 1) (fun x_3 =>
k8 g_2 a4 x5 x_3))))
def n_X12_tree_8 (N : Nat) (S : Hs) (self : Hg → Nat → Int32 → Int32 → Int32 → Nat → Int32 → Option (Unit × Hg)) : Nat → Hg → Nat → Int32 → Int32 → Option (Unit × Hg)
  | 0 => fun _ _ _ _ => none
  | n + 1 => fun g a4 x5 x6 => b_X12_tree_8 N S self (n_X12_tree_8 N S self n) g a4 x5 x6
def b_X12_tree_0 (N : Nat) (S : Hs) (self : Hg → Nat → Int32 → Int32 → Int32 → Nat → Int32 → Option (Unit × Hg)) (g : Hg) (a0 : Nat) (x1 : Int32) (x2 : Int32) (x3 : Int32) (a4 : Nat) (x5 : Int32) : Option (Unit × Hg) :=
if x1 = x2 then (
n_X12_tree_8 N S self N g a4 x5 (0 : Int32)) else (
if (x2 - x1) = (1 : Int32) then (
nn (rdR g a0 52) (fun a_15 =>
nn (rdR g a0 55) (fun a_16 =>
ck (inb x1 (hpL S a_16)) (
ck (inb (rdI g a_16 x1.toNatClampNeg) (hpL S a_15)) (
nn (rdR g a0 53) (fun a_17 =>
nn (rdR g a0 55) (fun a_18 =>
ck (inb x1 (hpL S a_18)) (
ck (inb (rdI g a_18 x1.toNatClampNeg) (hpL S a_17)) (
c2 (f_X12_leaf N S g a0 (rdI g a_15 (rdI g a_16 x1.toNatClampNeg).toNatClampNeg) (rdI g a_17 (rdI g a_18 x1.toNatClampNeg).toNatClampNeg)) (fun u_20 g_19 =>
c2 (f_X12_toRow N S g_19 a0 a4 x5) (fun u_22 g_21 =>
some ((), g_21)))))))))))) else (
c2 (f_X12_part N S g a0 x1 x2 x3) (fun x_4 g_3 =>
nn (rdR g_3 a0 58) (fun a_5 =>
c2 (self g_3 a0 x1 x_4 (x3 + (1 : Int32)) a_5 ((16 : Int32) * x3)) (fun u_7 g_6 =>
nn (rdR g_6 a0 58) (fun a_8 =>
c2 (self g_6 a0 x_4 x2 (x3 + (1 : Int32)) a_8 (((16 : Int32) * x3) + (8 : Int32))) (fun u_10 g_9 =>
nn (rdR g_9 a0 58) (fun a_11 =>
nn (rdR g_9 a0 58) (fun a_12 =>
c2 (f_X12_join N S g_9 a0 a_11 ((16 : Int32) * x3) a_12 (((16 : Int32) * x3) + (8 : Int32)) a4 x5) (fun u_14 g_13 =>
some ((), g_13)))))))))))
def f_X12_tree (N : Nat) (S : Hs) : Nat → Hg → Nat → Int32 → Int32 → Int32 → Nat → Int32 → Option (Unit × Hg)
  | 0 => fun _ _ _ _ _ _ _ => none
  | n + 1 => fun g a0 x1 x2 x3 a4 x5 => b_X12_tree_0 N S (f_X12_tree N S n) g a0 x1 x2 x3 a4 x5
set_option maxHeartbeats 4000000 in
set_option maxRecDepth 100000 in
theorem w_X12_tree_8 (hx : p.tables.exec = Jvm.exec) (hb : c.code = cX12_tree) (hml : c.maxLocals = 7) (hr : meth.sig.returnType = none) (hlk : meth.locks = false) (hown : s.vm.findClass RX12 = some m.cls) (hX : Kx D cA lo tS s) {nf : Nat} (hRf : nf + 1 + 4 ≤ R.frames) (hRl : 60 * (nf + 1 + 4) ≤ R.locals) {N : Nat} {rv : Unit} {g1 : Hg} {S : Hs} {self : Hg → Nat → Int32 → Int32 → Int32 → Nat → Int32 → Option (Unit × Hg)} (hself : ∀ (g g1 : Hg) (rv : Unit) (a0 : Nat) (x1 : Int32) (x2 : Int32) (x3 : Int32) (a4 : Nat) (x5 : Int32), Rf lo S a0 12 → Rf lo S a4 20 → self g a0 x1 x2 x3 a4 x5 = some (rv, g1) → ∀ d, nf + 4 ≤ d → Ctr l yX12_tree cX12_tree 7 none D cA lo tS [.ref a0, .int x1, .int x2, .int x3, .ref a4, .int x5] S g d none S g1 True 0 0) {k8 : Hg → Nat → Int32 → Int32 → Option (Unit × Hg)} (hk8 : ∀ (H : Heap) (locs : List Loc) (ls : Array Slot) (g : Hg) (a4 : Nat) (x5 : Int32) (x6 : Int32), Mm D cA lo S g s H locs → Rf lo S a4 20 → lv_has ls 7 [(4, .ref a4), (5, .int x5), (6, .int x6)] → k8 g a4 x5 x6 = some (rv, g1) → W p l e R s m args below meth c H locs 0 0 (MQ below (Qcx D cA lo S none S g1 True) args s 0 0 (fun q : Nat => lo ≤ q)) (F0 m 8 ls [])) : ∀ (H : Heap) (locs : List Loc) (ls : Array Slot) (g : Hg) (a4 : Nat) (x5 : Int32) (x6 : Int32), Mm D cA lo S g s H locs → Rf lo S a4 20 → lv_has ls 7 [(4, .ref a4), (5, .int x5), (6, .int x6)] → b_X12_tree_8 N S self k8 g a4 x5 x6 = some (rv, g1) → W p l e R s m args below meth c H locs 0 0 (MQ below (Qcx D cA lo S none S g1 True) args s 0 0 (fun q : Nat => lo ≤ q)) (F0 m 8 ls []) := by
  intro H locs ls g a4 x5 x6 M ra4 hl q
  unfold b_X12_tree_8 at q
  refine lv_iload hx hb dX12_tree_8 (lv_at hl 2 rfl) ?_
  refine lv_bipush (v := 8) hx hb dX12_tree_10 (by decide) ?_
  refine lv_icmp_ge (tgt := 30) hx hb dX12_tree_12 (by decide) (fun c_1 => ?_) (fun c_1 => ?_)
  · replace q := if_t c_1 q
    cases q
    exact x_vret hx hb hr hlk M Ext.rf dX12_tree_30
  · replace q := if_f c_1 q
    refine lv_aload hx hb dX12_tree_15 (lv_at hl 0 rfl) ?_
    refine lv_iload hx hb dX12_tree_17 (lv_at hl 1 rfl) ?_
    refine lv_iload hx hb dX12_tree_19 (lv_at hl 2 rfl) ?_
    refine lv_iadd hx hb dX12_tree_21 ?_
    refine lv_iconst (v := 0) hx hb dX12_tree_22 (by decide) ?_
    replace q := ck_s q
    obtain ⟨hin, q⟩ := q
    refine x_iast hx hb hX M ra4 (inb_in hin) dX12_tree_23 (fun H locs M => ?_)
    replace q := gen_g M q
    obtain ⟨g_2, -, M, q⟩ := q
    obtain ⟨x_3, e_x_3⟩ : ∃ y : Int32, y = x6 + 1 := ⟨_, rfl⟩
    replace q := nm_s q e_x_3
    refine lv_iinc (v := x_3) (lv' := [(6, .int x_3), (4, .ref a4), (5, .int x5)]) hx hb dX12_tree_24 hl (k := 2) rfl (by rw [e_x_3]; rfl) (by decide) rfl (fun ls hl => ?_)
    refine lv_goto (tgt := 8) hx hb dX12_tree_27 (by decide) ?_
    exact hk8 _ _ _ _ _ _ _ M ra4 (lv_sub hl [1, 2, 0] rfl) q
set_option maxRecDepth 100000 in
theorem l_X12_tree_8 (hx : p.tables.exec = Jvm.exec) (hb : c.code = cX12_tree) (hml : c.maxLocals = 7) (hr : meth.sig.returnType = none) (hlk : meth.locks = false) (hown : s.vm.findClass RX12 = some m.cls) (hX : Kx D cA lo tS s) {nf : Nat} (hRf : nf + 1 + 4 ≤ R.frames) (hRl : 60 * (nf + 1 + 4) ≤ R.locals) {N : Nat} {rv : Unit} {g1 : Hg} {S : Hs} {self : Hg → Nat → Int32 → Int32 → Int32 → Nat → Int32 → Option (Unit × Hg)} (hself : ∀ (g g1 : Hg) (rv : Unit) (a0 : Nat) (x1 : Int32) (x2 : Int32) (x3 : Int32) (a4 : Nat) (x5 : Int32), Rf lo S a0 12 → Rf lo S a4 20 → self g a0 x1 x2 x3 a4 x5 = some (rv, g1) → ∀ d, nf + 4 ≤ d → Ctr l yX12_tree cX12_tree 7 none D cA lo tS [.ref a0, .int x1, .int x2, .int x3, .ref a4, .int x5] S g d none S g1 True 0 0) : ∀ (n : Nat), ∀ (H : Heap) (locs : List Loc) (ls : Array Slot) (g : Hg) (a4 : Nat) (x5 : Int32) (x6 : Int32), Mm D cA lo S g s H locs → Rf lo S a4 20 → lv_has ls 7 [(4, .ref a4), (5, .int x5), (6, .int x6)] → n_X12_tree_8 N S self n g a4 x5 x6 = some (rv, g1) → W p l e R s m args below meth c H locs 0 0 (MQ below (Qcx D cA lo S none S g1 True) args s 0 0 (fun q : Nat => lo ≤ q)) (F0 m 8 ls []) := by
  intro n
  induction n with
  | zero =>
    intro H locs ls g a4 x5 x6 M ra4 hl q
    exact absurd q (by simp [n_X12_tree_8])
  | succ n ih => exact w_X12_tree_8 hx hb hml hr hlk hown hX hRf hRl (N := N) hself  ih
set_option maxHeartbeats 4000000 in
set_option maxRecDepth 100000 in
theorem w_X12_tree_0 (hx : p.tables.exec = Jvm.exec) (hb : c.code = cX12_tree) (hml : c.maxLocals = 7) (hr : meth.sig.returnType = none) (hlk : meth.locks = false) (hown : s.vm.findClass RX12 = some m.cls) (hX : Kx D cA lo tS s) {nf : Nat} (hRf : nf + 1 + 4 ≤ R.frames) (hRl : 60 * (nf + 1 + 4) ≤ R.locals) {N : Nat} {rv : Unit} {g1 : Hg} {S : Hs} {self : Hg → Nat → Int32 → Int32 → Int32 → Nat → Int32 → Option (Unit × Hg)} (hself : ∀ (g g1 : Hg) (rv : Unit) (a0 : Nat) (x1 : Int32) (x2 : Int32) (x3 : Int32) (a4 : Nat) (x5 : Int32), Rf lo S a0 12 → Rf lo S a4 20 → self g a0 x1 x2 x3 a4 x5 = some (rv, g1) → ∀ d, nf + 4 ≤ d → Ctr l yX12_tree cX12_tree 7 none D cA lo tS [.ref a0, .int x1, .int x2, .int x3, .ref a4, .int x5] S g d none S g1 True 0 0) : ∀ (H : Heap) (locs : List Loc) (ls : Array Slot) (g : Hg) (a0 : Nat) (x1 : Int32) (x2 : Int32) (x3 : Int32) (a4 : Nat) (x5 : Int32), Mm D cA lo S g s H locs → Rf lo S a0 12 → Rf lo S a4 20 → lv_has ls 7 [(0, .ref a0), (1, .int x1), (2, .int x2), (3, .int x3), (4, .ref a4), (5, .int x5)] → b_X12_tree_0 N S self g a0 x1 x2 x3 a4 x5 = some (rv, g1) → W p l e R s m args below meth c H locs 0 0 (MQ below (Qcx D cA lo S none S g1 True) args s 0 0 (fun q : Nat => lo ≤ q)) (F0 m 0 ls []) := by
  intro H locs ls g a0 x1 x2 x3 a4 x5 M ra0 ra4 hl q
  unfold b_X12_tree_0 at q
  refine lv_iload_n hx hb dX12_tree_0 rfl (lv_at hl 1 rfl) ?_
  refine lv_iload_n hx hb dX12_tree_1 rfl (lv_at hl 2 rfl) ?_
  refine lv_icmp_ne (tgt := 31) hx hb dX12_tree_2 (by decide) (fun c_1 => ?_) (fun c_1 => ?_)
  · replace q := if_f c_1 q
    refine lv_iload_n hx hb dX12_tree_31 rfl (lv_at hl 2 rfl) ?_
    refine lv_iload_n hx hb dX12_tree_32 rfl (lv_at hl 1 rfl) ?_
    refine lv_isub hx hb dX12_tree_33 ?_
    refine lv_iconst (v := 1) hx hb dX12_tree_34 (by decide) ?_
    refine lv_icmp_ne (tgt := 73) hx hb dX12_tree_35 (by decide) (fun c_2 => ?_) (fun c_2 => ?_)
    · replace q := if_f c_2 q
      refine lv_aload_n hx hb dX12_tree_73 rfl (lv_at hl 0 rfl) ?_
      refine lv_iload_n hx hb dX12_tree_74 rfl (lv_at hl 1 rfl) ?_
      refine lv_iload_n hx hb dX12_tree_75 rfl (lv_at hl 2 rfl) ?_
      refine lv_iload_n hx hb dX12_tree_76 rfl (lv_at hl 3 rfl) ?_
      replace q := c2_s q
      obtain ⟨x_4, g_3, qc, q⟩ := q
      refine x_callV hx hb hml hl.1 hown hX M (S1 := S) (As := [.int x1, .int x2, .int x3]) (rest := []) okX12 ra0 rfl kw_1341 kw_35 mok_X12_part (c_X12_part ra0 qc (Nat.le_refl 2)) kw_1339 rfl rfl dX12_tree_77 (Nat.le_of_ble_eq_true rfl) ⟨by omega, by omega⟩ (Nat.zero_le _) (Nat.zero_le _) (fun H locs M hEF => ?_)
      refine lv_istore (lv' := [(6, .int x_4), (0, .ref a0), (1, .int x1), (2, .int x2), (3, .int x3), (4, .ref a4), (5, .int x5)]) hx hb dX12_tree_80 hl (by decide) rfl (fun ls hl => ?_)
      refine lv_aload_n hx hb dX12_tree_82 rfl (lv_at hl 1 rfl) ?_
      refine lv_iload_n hx hb dX12_tree_83 rfl (lv_at hl 2 rfl) ?_
      refine lv_iload hx hb dX12_tree_84 (lv_at hl 0 rfl) ?_
      refine lv_iload_n hx hb dX12_tree_86 rfl (lv_at hl 4 rfl) ?_
      refine lv_iconst (v := 1) hx hb dX12_tree_87 (by decide) ?_
      refine lv_iadd hx hb dX12_tree_88 ?_
      refine lv_aload_n hx hb dX12_tree_89 rfl (lv_at hl 1 rfl) ?_
      replace q := nn_s q
      obtain ⟨a_5, e_a_5, q⟩ := q
      refine x_getR hx hb hown hX M e_a_5 okX12 ra0 (by decide) rfl kw_1070 dX12_tree_90 (fun ra_5 => ?_)
      refine lv_bipush (v := 16) hx hb dX12_tree_93 (by decide) ?_
      refine lv_iload_n hx hb dX12_tree_95 rfl (lv_at hl 4 rfl) ?_
      refine lv_imul hx hb dX12_tree_96 ?_
      replace q := c2_s q
      obtain ⟨u_7, g_6, qc, q⟩ := q
      refine x_callV hx hb hml hl.1 hown hX M (S1 := S) (As := [.int x1, .int x_4, .int (x3 + (1 : Int32)), .ref a_5, .int ((16 : Int32) * x3)]) (rest := []) okX12 ra0 rfl kw_1333 kw_33 mok_X12_tree (hself _ _ _ _ _ _ _ _ _ ra0 ra_5 qc _ (Nat.le_refl _)) kw_1331 rfl rfl dX12_tree_97 (Nat.le_of_ble_eq_true rfl) ⟨by omega, by omega⟩ (Nat.zero_le _) (Nat.zero_le _) (fun H locs M hEF => ?_)
      refine lv_aload_n hx hb dX12_tree_100 rfl (lv_at hl 1 rfl) ?_
      refine lv_iload hx hb dX12_tree_101 (lv_at hl 0 rfl) ?_
      refine lv_iload_n hx hb dX12_tree_103 rfl (lv_at hl 3 rfl) ?_
      refine lv_iload_n hx hb dX12_tree_104 rfl (lv_at hl 4 rfl) ?_
      refine lv_iconst (v := 1) hx hb dX12_tree_105 (by decide) ?_
      refine lv_iadd hx hb dX12_tree_106 ?_
      refine lv_aload_n hx hb dX12_tree_107 rfl (lv_at hl 1 rfl) ?_
      replace q := nn_s q
      obtain ⟨a_8, e_a_8, q⟩ := q
      refine x_getR hx hb hown hX M e_a_8 okX12 ra0 (by decide) rfl kw_1070 dX12_tree_108 (fun ra_8 => ?_)
      refine lv_bipush (v := 16) hx hb dX12_tree_111 (by decide) ?_
      refine lv_iload_n hx hb dX12_tree_113 rfl (lv_at hl 4 rfl) ?_
      refine lv_imul hx hb dX12_tree_114 ?_
      refine lv_bipush (v := 8) hx hb dX12_tree_115 (by decide) ?_
      refine lv_iadd hx hb dX12_tree_117 ?_
      replace q := c2_s q
      obtain ⟨u_10, g_9, qc, q⟩ := q
      refine x_callV hx hb hml hl.1 hown hX M (S1 := S) (As := [.int x_4, .int x2, .int (x3 + (1 : Int32)), .ref a_8, .int (((16 : Int32) * x3) + (8 : Int32))]) (rest := []) okX12 ra0 rfl kw_1333 kw_33 mok_X12_tree (hself _ _ _ _ _ _ _ _ _ ra0 ra_8 qc _ (Nat.le_refl _)) kw_1331 rfl rfl dX12_tree_118 (Nat.le_of_ble_eq_true rfl) ⟨by omega, by omega⟩ (Nat.zero_le _) (Nat.zero_le _) (fun H locs M hEF => ?_)
      refine lv_aload_n hx hb dX12_tree_121 rfl (lv_at hl 1 rfl) ?_
      refine lv_aload_n hx hb dX12_tree_122 rfl (lv_at hl 1 rfl) ?_
      replace q := nn_s q
      obtain ⟨a_11, e_a_11, q⟩ := q
      refine x_getR hx hb hown hX M e_a_11 okX12 ra0 (by decide) rfl kw_1070 dX12_tree_123 (fun ra_11 => ?_)
      refine lv_bipush (v := 16) hx hb dX12_tree_126 (by decide) ?_
      refine lv_iload_n hx hb dX12_tree_128 rfl (lv_at hl 4 rfl) ?_
      refine lv_imul hx hb dX12_tree_129 ?_
      refine lv_aload_n hx hb dX12_tree_130 rfl (lv_at hl 1 rfl) ?_
      replace q := nn_s q
      obtain ⟨a_12, e_a_12, q⟩ := q
      refine x_getR hx hb hown hX M e_a_12 okX12 ra0 (by decide) rfl kw_1070 dX12_tree_131 (fun ra_12 => ?_)
      refine lv_bipush (v := 16) hx hb dX12_tree_134 (by decide) ?_
      refine lv_iload_n hx hb dX12_tree_136 rfl (lv_at hl 4 rfl) ?_
      refine lv_imul hx hb dX12_tree_137 ?_
      refine lv_bipush (v := 8) hx hb dX12_tree_138 (by decide) ?_
      refine lv_iadd hx hb dX12_tree_140 ?_
      refine lv_aload hx hb dX12_tree_141 (lv_at hl 5 rfl) ?_
      refine lv_iload hx hb dX12_tree_143 (lv_at hl 6 rfl) ?_
      replace q := c2_s q
      obtain ⟨u_14, g_13, qc, q⟩ := q
      refine x_callV hx hb hml hl.1 hown hX M (S1 := S) (As := [.ref a_11, .int ((16 : Int32) * x3), .ref a_12, .int (((16 : Int32) * x3) + (8 : Int32)), .ref a4, .int x5]) (rest := []) okX12 ra0 rfl kw_1321 kw_30 mok_X12_join (c_X12_join ra0 ra_11 ra_12 ra4 qc (Nat.le_refl 3)) kw_1319 rfl rfl dX12_tree_145 (Nat.le_of_ble_eq_true rfl) ⟨by omega, by omega⟩ (Nat.zero_le _) (Nat.zero_le _) (fun H locs M hEF => ?_)
      cases q
      exact x_vret hx hb hr hlk M Ext.rf dX12_tree_148
    · replace q := if_t c_2 q
      refine lv_aload_n hx hb dX12_tree_38 rfl (lv_at hl 0 rfl) ?_
      refine lv_aload_n hx hb dX12_tree_39 rfl (lv_at hl 0 rfl) ?_
      replace q := nn_s q
      obtain ⟨a_15, e_a_15, q⟩ := q
      refine x_getR hx hb hown hX M e_a_15 okX12 ra0 (by decide) rfl kw_1064 dX12_tree_40 (fun ra_15 => ?_)
      refine lv_aload_n hx hb dX12_tree_43 rfl (lv_at hl 0 rfl) ?_
      replace q := nn_s q
      obtain ⟨a_16, e_a_16, q⟩ := q
      refine x_getR hx hb hown hX M e_a_16 okX12 ra0 (by decide) rfl kw_1067 dX12_tree_44 (fun ra_16 => ?_)
      refine lv_iload_n hx hb dX12_tree_47 rfl (lv_at hl 1 rfl) ?_
      replace q := ck_s q
      obtain ⟨hin, q⟩ := q
      refine x_iald hx hb hX M ra_16 (inb_in hin) dX12_tree_48 ?_
      replace q := ck_s q
      obtain ⟨hin, q⟩ := q
      refine x_iald hx hb hX M ra_15 (inb_in hin) dX12_tree_49 ?_
      refine lv_aload_n hx hb dX12_tree_50 rfl (lv_at hl 0 rfl) ?_
      replace q := nn_s q
      obtain ⟨a_17, e_a_17, q⟩ := q
      refine x_getR hx hb hown hX M e_a_17 okX12 ra0 (by decide) rfl kw_1065 dX12_tree_51 (fun ra_17 => ?_)
      refine lv_aload_n hx hb dX12_tree_54 rfl (lv_at hl 0 rfl) ?_
      replace q := nn_s q
      obtain ⟨a_18, e_a_18, q⟩ := q
      refine x_getR hx hb hown hX M e_a_18 okX12 ra0 (by decide) rfl kw_1067 dX12_tree_55 (fun ra_18 => ?_)
      refine lv_iload_n hx hb dX12_tree_58 rfl (lv_at hl 1 rfl) ?_
      replace q := ck_s q
      obtain ⟨hin, q⟩ := q
      refine x_iald hx hb hX M ra_18 (inb_in hin) dX12_tree_59 ?_
      replace q := ck_s q
      obtain ⟨hin, q⟩ := q
      refine x_iald hx hb hX M ra_17 (inb_in hin) dX12_tree_60 ?_
      replace q := c2_s q
      obtain ⟨u_20, g_19, qc, q⟩ := q
      refine x_callV hx hb hml hl.1 hown hX M (S1 := S) (As := [.int (rdI g a_15 (rdI g a_16 x1.toNatClampNeg).toNatClampNeg), .int (rdI g a_17 (rdI g a_18 x1.toNatClampNeg).toNatClampNeg)]) (rest := []) okX12 ra0 rfl kw_1337 kw_34 mok_X12_leaf (c_X12_leaf ra0 qc (Nat.le_refl 3)) kw_1335 rfl rfl dX12_tree_61 (Nat.le_of_ble_eq_true rfl) ⟨by omega, by omega⟩ (Nat.zero_le _) (Nat.zero_le _) (fun H locs M hEF => ?_)
      refine lv_aload_n hx hb dX12_tree_64 rfl (lv_at hl 0 rfl) ?_
      refine lv_aload hx hb dX12_tree_65 (lv_at hl 4 rfl) ?_
      refine lv_iload hx hb dX12_tree_67 (lv_at hl 5 rfl) ?_
      replace q := c2_s q
      obtain ⟨u_22, g_21, qc, q⟩ := q
      refine x_callV hx hb hml hl.1 hown hX M (S1 := S) (As := [.ref a4, .int x5]) (rest := []) okX12 ra0 rfl kw_1290 kw_25 mok_X12_toRow (c_X12_toRow ra0 ra4 qc (Nat.le_refl 1)) kw_1288 rfl rfl dX12_tree_69 (Nat.le_of_ble_eq_true rfl) ⟨by omega, by omega⟩ (Nat.zero_le _) (Nat.zero_le _) (fun H locs M hEF => ?_)
      cases q
      exact x_vret hx hb hr hlk M Ext.rf dX12_tree_72
  · replace q := if_t c_1 q
    refine lv_iconst (v := 0) hx hb dX12_tree_5 (by decide) ?_
    refine lv_istore (lv' := [(6, .int (0 : Int32)), (0, .ref a0), (1, .int x1), (2, .int x2), (3, .int x3), (4, .ref a4), (5, .int x5)]) hx hb dX12_tree_6 hl (by decide) rfl (fun ls hl => ?_)
    exact l_X12_tree_8 hx hb hml hr hlk hown hX hRf hRl (N := N) hself  N _ _ _ _ _ _ _ M ra4 (lv_sub hl [5, 6, 0] rfl) q
set_option maxRecDepth 100000 in
theorem cn_X12_tree {l : Launch} {D : va_G} {cA : Nat → ClassId} {lo tS N : Nat} {S : Hs} : ∀ (n : Nat) (g g1 : Hg) (rv : Unit) (a0 : Nat) (x1 : Int32) (x2 : Int32) (x3 : Int32) (a4 : Nat) (x5 : Int32), Rf lo S a0 12 → Rf lo S a4 20 → f_X12_tree N S n g a0 x1 x2 x3 a4 x5 = some (rv, g1) → ∀ d, n + 4 ≤ d → Ctr l yX12_tree cX12_tree 7 none D cA lo tS [.ref a0, .int x1, .int x2, .int x3, .ref a4, .int x5] S g d none S g1 True 0 0 := by
  intro n
  induction n with
  | zero =>
    intro g g1 rv a0 x1 x2 x3 a4 x5 ra0 ra4 q
    exact absurd q (by simp [f_X12_tree])
  | succ n ih =>
    intro g g1 rv a0 x1 x2 x3 a4 x5 ra0 ra4 q d hd
    refine x_met (by decide) (Nat.le_of_ble_eq_true rfl) ?_
    intro p e s m below meth c ls hx hb hml hr hlk hown hnm hX M hl
    exact w_X12_tree_0 hx hb hml hr hlk hown hX (nf := n) hd (Nat.mul_le_mul_left 60 hd) (N := N) ih _ _ _ _ _ _ _ _ _ _ M ra0 ra4 (lv_sub hl [0, 1, 2, 3, 4, 5] rfl) q
theorem c_X12_tree {l : Launch} {D : va_G} {cA : Nat → ClassId} {lo tS N : Nat} {S : Hs} {g g1 : Hg} {rv : Unit} {a0 : Nat} {x1 : Int32} {x2 : Int32} {x3 : Int32} {a4 : Nat} {x5 : Int32} (ra0 : Rf lo S a0 12) (ra4 : Rf lo S a4 20) (q : f_X12_tree N S 300 g a0 x1 x2 x3 a4 x5 = some (rv, g1)) {d : Nat} (hd : 304 ≤ d) : Ctr l yX12_tree cX12_tree 7 none D cA lo tS [.ref a0, .int x1, .int x2, .int x3, .ref a4, .int x5] S g d none S g1 True 0 0 := cn_X12_tree 300 _ _ _ _ _ _ _ _ _ ra0 ra4 q d hd
def b_X12_wayOf_0 (N : Nat) (S : Hs) (g : Hg) (a0 : Nat) (x1 : Int32) : Option (Unit × Hg) :=
nn (rdR g a0 43) (fun a_1 =>
ck (inb (0 : Int32) (hpL S a_1)) (
nm (wrI g a_1 (0 : Int32).toNatClampNeg (4 : Int32)) (fun g_2 =>
nn (rdR g_2 a0 43) (fun a_3 =>
ck (inb (1 : Int32) (hpL S a_3)) (
nm (wrI g_2 a_3 (1 : Int32).toNatClampNeg x1) (fun g_4 =>
c2 (f_X12_mix N S g_4 a0 (2 : Int32)) (fun u_6 g_5 =>
some ((), g_5))))))))
def f_X12_wayOf (N : Nat) (S : Hs) (g : Hg) (a0 : Nat) (x1 : Int32) : Option (Unit × Hg) := b_X12_wayOf_0 N S g a0 x1
set_option maxHeartbeats 4000000 in
set_option maxRecDepth 100000 in
theorem w_X12_wayOf_0 (hx : p.tables.exec = Jvm.exec) (hb : c.code = cX12_wayOf) (hml : c.maxLocals = 2) (hr : meth.sig.returnType = none) (hlk : meth.locks = false) (hown : s.vm.findClass RX12 = some m.cls) (hX : Kx D cA lo tS s) (hRf : 3 ≤ R.frames) (hRl : 180 ≤ R.locals) {N : Nat} {rv : Unit} {g1 : Hg} {S : Hs} : ∀ (H : Heap) (locs : List Loc) (ls : Array Slot) (g : Hg) (a0 : Nat) (x1 : Int32), Mm D cA lo S g s H locs → Rf lo S a0 12 → lv_has ls 2 [(0, .ref a0), (1, .int x1)] → b_X12_wayOf_0 N S g a0 x1 = some (rv, g1) → W p l e R s m args below meth c H locs 0 0 (MQ below (Qcx D cA lo S none S g1 True) args s 0 0 (fun q : Nat => lo ≤ q)) (F0 m 0 ls []) := by
  intro H locs ls g a0 x1 M ra0 hl q
  unfold b_X12_wayOf_0 at q
  refine lv_aload_n hx hb dX12_wayOf_0 rfl (lv_at hl 0 rfl) ?_
  replace q := nn_s q
  obtain ⟨a_1, e_a_1, q⟩ := q
  refine x_getR hx hb hown hX M e_a_1 okX12 ra0 (by decide) rfl kw_1055 dX12_wayOf_1 (fun ra_1 => ?_)
  refine lv_iconst (v := 0) hx hb dX12_wayOf_4 (by decide) ?_
  refine lv_iconst (v := 4) hx hb dX12_wayOf_5 (by decide) ?_
  replace q := ck_s q
  obtain ⟨hin, q⟩ := q
  refine x_iast hx hb hX M ra_1 (inb_in hin) dX12_wayOf_6 (fun H locs M => ?_)
  replace q := gen_g M q
  obtain ⟨g_2, -, M, q⟩ := q
  refine lv_aload_n hx hb dX12_wayOf_7 rfl (lv_at hl 0 rfl) ?_
  replace q := nn_s q
  obtain ⟨a_3, e_a_3, q⟩ := q
  refine x_getR hx hb hown hX M e_a_3 okX12 ra0 (by decide) rfl kw_1055 dX12_wayOf_8 (fun ra_3 => ?_)
  refine lv_iconst (v := 1) hx hb dX12_wayOf_11 (by decide) ?_
  refine lv_iload_n hx hb dX12_wayOf_12 rfl (lv_at hl 1 rfl) ?_
  replace q := ck_s q
  obtain ⟨hin, q⟩ := q
  refine x_iast hx hb hX M ra_3 (inb_in hin) dX12_wayOf_13 (fun H locs M => ?_)
  replace q := gen_g M q
  obtain ⟨g_4, -, M, q⟩ := q
  refine lv_aload_n hx hb dX12_wayOf_14 rfl (lv_at hl 0 rfl) ?_
  refine lv_iconst (v := 2) hx hb dX12_wayOf_15 (by decide) ?_
  replace q := c2_s q
  obtain ⟨u_6, g_5, qc, q⟩ := q
  refine x_callV hx hb hml hl.1 hown hX M (S1 := S) (As := [.int (2 : Int32)]) (rest := []) okX12 ra0 rfl kw_1281 kw_23 mok_X12_mix (c_X12_mix ra0 qc (Nat.le_refl 2)) kw_1279 rfl rfl dX12_wayOf_16 (Nat.le_of_ble_eq_true rfl) ⟨Nat.le_trans (by decide) hRf, Nat.le_trans (by decide) hRl⟩ (Nat.zero_le _) (Nat.zero_le _) (fun H locs M hEF => ?_)
  cases q
  exact x_vret hx hb hr hlk M Ext.rf dX12_wayOf_19
set_option maxRecDepth 100000 in
theorem c_X12_wayOf {l : Launch} {D : va_G} {cA : Nat → ClassId} {lo tS N : Nat} {S : Hs} {g g1 : Hg} {rv : Unit} {a0 : Nat} {x1 : Int32} (ra0 : Rf lo S a0 12) (q : f_X12_wayOf N S g a0 x1 = some (rv, g1)) {d : Nat} (hd : 3 ≤ d) : Ctr l yX12_wayOf cX12_wayOf 2 none D cA lo tS [.ref a0, .int x1] S g d none S g1 True 0 0 := by
  refine x_met (by decide) (Nat.le_of_ble_eq_true rfl) ?_
  intro p e s m below meth c ls hx hb hml hr hlk hown hnm hX M hl
  exact w_X12_wayOf_0 hx hb hml hr hlk hown hX hd (Nat.mul_le_mul_left 60 hd) (N := N) _ _ _ _ _ _ M ra0 (lv_sub hl [0, 1] rfl) q
def b_X12_follow_133 (N : Nat) (S : Hs) (g : Hg) (sa0 : Nat) (sx1 : Int32) : Option (Unit × Hg) :=
nm (wrI g sa0 62 sx1) (fun g_1 =>
some ((), g_1))
def b_X12_follow_100 (N : Nat) (S : Hs) (k25 : Hg → Nat → Int32 → Int32 → Int32 → Int32 → Option (Unit × Hg)) (g : Hg) (a0 : Nat) (x1 : Int32) (x3 : Int32) (x4 : Int32) (x5 : Int32) : Option (Unit × Hg) :=
nn (rdR g a0 60) (fun a_1 =>
c2 (f_X12_step N S g a0 x1 a_1 (0 : Int32)) (fun u_3 g_2 =>
nm (x5 + 1) (fun x_4 =>
k25 g_2 a0 x1 x3 x4 x_4)))
def b_X12_follow_25 (N : Nat) (S : Hs) (k25 : Hg → Nat → Int32 → Int32 → Int32 → Int32 → Option (Unit × Hg)) (g : Hg) (a0 : Nat) (x1 : Int32) (x3 : Int32) (x4 : Int32) (x5 : Int32) : Option (Unit × Hg) :=
if (x4 - x3) ≤ (1 : Int32) then (
if x3 = x4 then (
b_X12_follow_133 N S g a0 (-1 : Int32)) else (
nn (rdR g a0 55) (fun a_3 =>
ck (inb x3 (hpL S a_3)) (
b_X12_follow_133 N S g a0 (rdI g a_3 x3.toNatClampNeg))))) else (
c2 (f_X12_part N S g a0 x3 x4 x5) (fun x_5 g_4 =>
nn (rdR g_4 a0 61) (fun a_6 =>
c2 (f_X12_isOne N S g_4 a_6 (0 : Int32) x5) (fun x_8 g_7 =>
if x_8 = 0 then (
nn (rdR g_7 a0 60) (fun a_10 =>
c2 (f_X12_tree N S 300 g_7 a0 x_5 x4 (x5 + (1 : Int32)) a_10 (0 : Int32)) (fun u_12 g_11 =>
b_X12_follow_100 N S k25 g_11 a0 x1 x3 x_5 x5))) else (
nn (rdR g_7 a0 60) (fun a_13 =>
c2 (f_X12_tree N S 300 g_7 a0 x3 x_5 (x5 + (1 : Int32)) a_13 (0 : Int32)) (fun u_15 g_14 =>
b_X12_follow_100 N S k25 g_14 a0 x1 x_5 x4 x5)))))))
def n_X12_follow_25 (N : Nat) (S : Hs) : Nat → Hg → Nat → Int32 → Int32 → Int32 → Int32 → Option (Unit × Hg)
  | 0 => fun _ _ _ _ _ _ => none
  | n + 1 => fun g a0 x1 x3 x4 x5 => b_X12_follow_25 N S (n_X12_follow_25 N S n) g a0 x1 x3 x4 x5
def b_X12_follow_0 (N : Nat) (S : Hs) (g : Hg) (a0 : Nat) (x1 : Int32) (x2 : Int32) : Option (Unit × Hg) :=
c2 (f_X12_wayOf N S g a0 x2) (fun u_2 g_1 =>
nn (rdR g_1 a0 61) (fun a_3 =>
c2 (f_X12_toRow N S g_1 a0 a_3 (0 : Int32)) (fun u_5 g_4 =>
nm (rdI g_4 a0 57) (fun x_6 =>
n_X12_follow_25 N S N g_4 a0 x1 (0 : Int32) x_6 (0 : Int32)))))
def f_X12_follow (N : Nat) (S : Hs) (g : Hg) (a0 : Nat) (x1 : Int32) (x2 : Int32) : Option (Unit × Hg) := b_X12_follow_0 N S g a0 x1 x2
set_option maxHeartbeats 4000000 in
set_option maxRecDepth 100000 in
theorem w_X12_follow_133 (hx : p.tables.exec = Jvm.exec) (hb : c.code = cX12_follow) (hml : c.maxLocals = 7) (hr : meth.sig.returnType = none) (hlk : meth.locks = false) (hown : s.vm.findClass RX12 = some m.cls) (hX : Kx D cA lo tS s) (hRf : 305 ≤ R.frames) (hRl : 18300 ≤ R.locals) {N : Nat} {rv : Unit} {g1 : Hg} {S : Hs} : ∀ (H : Heap) (locs : List Loc) (ls : Array Slot) (g : Hg) (sa0 : Nat) (sx1 : Int32), Mm D cA lo S g s H locs → Rf lo S sa0 12 → lv_has ls 7 [] → b_X12_follow_133 N S g sa0 sx1 = some (rv, g1) → W p l e R s m args below meth c H locs 0 0 (MQ below (Qcx D cA lo S none S g1 True) args s 0 0 (fun q : Nat => lo ≤ q)) (F0 m 133 ls [.int sx1, .ref sa0]) := by
  intro H locs ls g sa0 sx1 M rsa0 hl q
  unfold b_X12_follow_133 at q
  refine x_putI hx hb hown hX M (k := 62) okX12 rsa0 (by decide) rfl (Or.inl rfl) rfl rfl kw_1074 dX12_follow_133 (fun H locs M => ?_)
  replace q := gen_g M q
  obtain ⟨g_1, -, M, q⟩ := q
  cases q
  exact x_vret hx hb hr hlk M Ext.rf dX12_follow_136
set_option maxHeartbeats 4000000 in
set_option maxRecDepth 100000 in
theorem w_X12_follow_100 (hx : p.tables.exec = Jvm.exec) (hb : c.code = cX12_follow) (hml : c.maxLocals = 7) (hr : meth.sig.returnType = none) (hlk : meth.locks = false) (hown : s.vm.findClass RX12 = some m.cls) (hX : Kx D cA lo tS s) (hRf : 305 ≤ R.frames) (hRl : 18300 ≤ R.locals) {N : Nat} {rv : Unit} {g1 : Hg} {S : Hs} {k25 : Hg → Nat → Int32 → Int32 → Int32 → Int32 → Option (Unit × Hg)} (hk25 : ∀ (H : Heap) (locs : List Loc) (ls : Array Slot) (g : Hg) (a0 : Nat) (x1 : Int32) (x3 : Int32) (x4 : Int32) (x5 : Int32), Mm D cA lo S g s H locs → Rf lo S a0 12 → lv_has ls 7 [(0, .ref a0), (1, .int x1), (3, .int x3), (4, .int x4), (5, .int x5)] → k25 g a0 x1 x3 x4 x5 = some (rv, g1) → W p l e R s m args below meth c H locs 0 0 (MQ below (Qcx D cA lo S none S g1 True) args s 0 0 (fun q : Nat => lo ≤ q)) (F0 m 25 ls [])) : ∀ (H : Heap) (locs : List Loc) (ls : Array Slot) (g : Hg) (a0 : Nat) (x1 : Int32) (x3 : Int32) (x4 : Int32) (x5 : Int32), Mm D cA lo S g s H locs → Rf lo S a0 12 → lv_has ls 7 [(0, .ref a0), (1, .int x1), (3, .int x3), (4, .int x4), (5, .int x5)] → b_X12_follow_100 N S k25 g a0 x1 x3 x4 x5 = some (rv, g1) → W p l e R s m args below meth c H locs 0 0 (MQ below (Qcx D cA lo S none S g1 True) args s 0 0 (fun q : Nat => lo ≤ q)) (F0 m 100 ls []) := by
  intro H locs ls g a0 x1 x3 x4 x5 M ra0 hl q
  unfold b_X12_follow_100 at q
  refine lv_aload_n hx hb dX12_follow_100 rfl (lv_at hl 0 rfl) ?_
  refine lv_iload_n hx hb dX12_follow_101 rfl (lv_at hl 1 rfl) ?_
  refine lv_aload_n hx hb dX12_follow_102 rfl (lv_at hl 0 rfl) ?_
  replace q := nn_s q
  obtain ⟨a_1, e_a_1, q⟩ := q
  refine x_getR hx hb hown hX M e_a_1 okX12 ra0 (by decide) rfl kw_1072 dX12_follow_103 (fun ra_1 => ?_)
  refine lv_iconst (v := 0) hx hb dX12_follow_106 (by decide) ?_
  replace q := c2_s q
  obtain ⟨u_3, g_2, qc, q⟩ := q
  refine x_callV hx hb hml hl.1 hown hX M (S1 := S) (As := [.int x1, .ref a_1, .int (0 : Int32)]) (rest := []) okX12 ra0 rfl kw_1369 kw_40 mok_X12_step (c_X12_step ra0 ra_1 qc (Nat.le_refl 1)) kw_1367 rfl rfl dX12_follow_107 (Nat.le_of_ble_eq_true rfl) ⟨Nat.le_trans (by decide) hRf, Nat.le_trans (by decide) hRl⟩ (Nat.zero_le _) (Nat.zero_le _) (fun H locs M hEF => ?_)
  obtain ⟨x_4, e_x_4⟩ : ∃ y : Int32, y = x5 + 1 := ⟨_, rfl⟩
  replace q := nm_s q e_x_4
  refine lv_iinc (v := x_4) (lv' := [(5, .int x_4), (0, .ref a0), (1, .int x1), (3, .int x3), (4, .int x4)]) hx hb dX12_follow_110 hl (k := 4) rfl (by rw [e_x_4]; rfl) (by decide) rfl (fun ls hl => ?_)
  refine lv_goto (tgt := 25) hx hb dX12_follow_113 (by decide) ?_
  exact hk25 _ _ _ _ _ _ _ _ _ M ra0 (lv_sub hl [1, 2, 3, 4, 0] rfl) q
set_option maxHeartbeats 4000000 in
set_option maxRecDepth 100000 in
theorem w_X12_follow_25 (hx : p.tables.exec = Jvm.exec) (hb : c.code = cX12_follow) (hml : c.maxLocals = 7) (hr : meth.sig.returnType = none) (hlk : meth.locks = false) (hown : s.vm.findClass RX12 = some m.cls) (hX : Kx D cA lo tS s) (hRf : 305 ≤ R.frames) (hRl : 18300 ≤ R.locals) {N : Nat} {rv : Unit} {g1 : Hg} {S : Hs} {k25 : Hg → Nat → Int32 → Int32 → Int32 → Int32 → Option (Unit × Hg)} (hk25 : ∀ (H : Heap) (locs : List Loc) (ls : Array Slot) (g : Hg) (a0 : Nat) (x1 : Int32) (x3 : Int32) (x4 : Int32) (x5 : Int32), Mm D cA lo S g s H locs → Rf lo S a0 12 → lv_has ls 7 [(0, .ref a0), (1, .int x1), (3, .int x3), (4, .int x4), (5, .int x5)] → k25 g a0 x1 x3 x4 x5 = some (rv, g1) → W p l e R s m args below meth c H locs 0 0 (MQ below (Qcx D cA lo S none S g1 True) args s 0 0 (fun q : Nat => lo ≤ q)) (F0 m 25 ls [])) : ∀ (H : Heap) (locs : List Loc) (ls : Array Slot) (g : Hg) (a0 : Nat) (x1 : Int32) (x3 : Int32) (x4 : Int32) (x5 : Int32), Mm D cA lo S g s H locs → Rf lo S a0 12 → lv_has ls 7 [(0, .ref a0), (1, .int x1), (3, .int x3), (4, .int x4), (5, .int x5)] → b_X12_follow_25 N S k25 g a0 x1 x3 x4 x5 = some (rv, g1) → W p l e R s m args below meth c H locs 0 0 (MQ below (Qcx D cA lo S none S g1 True) args s 0 0 (fun q : Nat => lo ≤ q)) (F0 m 25 ls []) := by
  intro H locs ls g a0 x1 x3 x4 x5 M ra0 hl q
  unfold b_X12_follow_25 at q
  refine lv_iload hx hb dX12_follow_25 (lv_at hl 3 rfl) ?_
  refine lv_iload_n hx hb dX12_follow_27 rfl (lv_at hl 2 rfl) ?_
  refine lv_isub hx hb dX12_follow_28 ?_
  refine lv_iconst (v := 1) hx hb dX12_follow_29 (by decide) ?_
  refine lv_icmp_le (tgt := 116) hx hb dX12_follow_30 (by decide) (fun c_1 => ?_) (fun c_1 => ?_)
  · replace q := if_t c_1 q
    refine lv_aload_n hx hb dX12_follow_116 rfl (lv_at hl 0 rfl) ?_
    refine lv_iload_n hx hb dX12_follow_117 rfl (lv_at hl 2 rfl) ?_
    refine lv_iload hx hb dX12_follow_118 (lv_at hl 3 rfl) ?_
    refine lv_icmp_ne (tgt := 127) hx hb dX12_follow_120 (by decide) (fun c_2 => ?_) (fun c_2 => ?_)
    · replace q := if_f c_2 q
      refine lv_aload_n hx hb dX12_follow_127 rfl (lv_at hl 0 rfl) ?_
      replace q := nn_s q
      obtain ⟨a_3, e_a_3, q⟩ := q
      refine x_getR hx hb hown hX M e_a_3 okX12 ra0 (by decide) rfl kw_1067 dX12_follow_128 (fun ra_3 => ?_)
      refine lv_iload_n hx hb dX12_follow_131 rfl (lv_at hl 2 rfl) ?_
      replace q := ck_s q
      obtain ⟨hin, q⟩ := q
      refine x_iald hx hb hX M ra_3 (inb_in hin) dX12_follow_132 ?_
      exact w_X12_follow_133 hx hb hml hr hlk hown hX hRf hRl (N := N)  _ _ _ _ _ _ M ra0 (lv_sub hl [] rfl) q
    · replace q := if_t c_2 q
      refine lv_iconst (v := -1) hx hb dX12_follow_123 (by decide) ?_
      refine lv_goto (tgt := 133) hx hb dX12_follow_124 (by decide) ?_
      exact w_X12_follow_133 hx hb hml hr hlk hown hX hRf hRl (N := N)  _ _ _ _ _ _ M ra0 (lv_sub hl [] rfl) q
  · replace q := if_f c_1 q
    refine lv_aload_n hx hb dX12_follow_33 rfl (lv_at hl 0 rfl) ?_
    refine lv_iload_n hx hb dX12_follow_34 rfl (lv_at hl 2 rfl) ?_
    refine lv_iload hx hb dX12_follow_35 (lv_at hl 3 rfl) ?_
    refine lv_iload hx hb dX12_follow_37 (lv_at hl 4 rfl) ?_
    replace q := c2_s q
    obtain ⟨x_5, g_4, qc, q⟩ := q
    refine x_callV hx hb hml hl.1 hown hX M (S1 := S) (As := [.int x3, .int x4, .int x5]) (rest := []) okX12 ra0 rfl kw_1341 kw_35 mok_X12_part (c_X12_part ra0 qc (Nat.le_refl 2)) kw_1339 rfl rfl dX12_follow_39 (Nat.le_of_ble_eq_true rfl) ⟨Nat.le_trans (by decide) hRf, Nat.le_trans (by decide) hRl⟩ (Nat.zero_le _) (Nat.zero_le _) (fun H locs M hEF => ?_)
    refine lv_istore (lv' := [(6, .int x_5), (0, .ref a0), (1, .int x1), (3, .int x3), (4, .int x4), (5, .int x5)]) hx hb dX12_follow_42 hl (by decide) rfl (fun ls hl => ?_)
    refine lv_aload_n hx hb dX12_follow_44 rfl (lv_at hl 1 rfl) ?_
    replace q := nn_s q
    obtain ⟨a_6, e_a_6, q⟩ := q
    refine x_getR hx hb hown hX M e_a_6 okX12 ra0 (by decide) rfl kw_1073 dX12_follow_45 (fun ra_6 => ?_)
    refine lv_iconst (v := 0) hx hb dX12_follow_48 (by decide) ?_
    refine lv_iload hx hb dX12_follow_49 (lv_at hl 5 rfl) ?_
    replace q := c2_s q
    obtain ⟨x_8, g_7, qc, q⟩ := q
    refine x_callS hx hb hml hl.1 hown hX M (S1 := S) (As := [.ref a_6, .int (0 : Int32), .int x5]) (rest := []) kw_1344 mok_X12_isOne (c_X12_isOne ra_6 qc (Nat.le_refl 1)) kw_1343 rfl rfl dX12_follow_51 (Nat.le_of_ble_eq_true rfl) ⟨Nat.le_trans (by decide) hRf, Nat.le_trans (by decide) hRl⟩ (Nat.zero_le _) (Nat.zero_le _) (fun H locs M hEF => ?_)
    refine lv_if_eq (tgt := 79) hx hb dX12_follow_54 (by decide) (fun c_9 => ?_) (fun c_9 => ?_)
    · replace q := if_t c_9 q
      refine lv_aload_n hx hb dX12_follow_79 rfl (lv_at hl 1 rfl) ?_
      refine lv_iload hx hb dX12_follow_80 (lv_at hl 0 rfl) ?_
      refine lv_iload hx hb dX12_follow_82 (lv_at hl 4 rfl) ?_
      refine lv_iload hx hb dX12_follow_84 (lv_at hl 5 rfl) ?_
      refine lv_iconst (v := 1) hx hb dX12_follow_86 (by decide) ?_
      refine lv_iadd hx hb dX12_follow_87 ?_
      refine lv_aload_n hx hb dX12_follow_88 rfl (lv_at hl 1 rfl) ?_
      replace q := nn_s q
      obtain ⟨a_10, e_a_10, q⟩ := q
      refine x_getR hx hb hown hX M e_a_10 okX12 ra0 (by decide) rfl kw_1072 dX12_follow_89 (fun ra_10 => ?_)
      refine lv_iconst (v := 0) hx hb dX12_follow_92 (by decide) ?_
      replace q := c2_s q
      obtain ⟨u_12, g_11, qc, q⟩ := q
      refine x_callV hx hb hml hl.1 hown hX M (S1 := S) (As := [.int x_5, .int x4, .int (x5 + (1 : Int32)), .ref a_10, .int (0 : Int32)]) (rest := []) okX12 ra0 rfl kw_1333 kw_33 mok_X12_tree (c_X12_tree ra0 ra_10 qc (Nat.le_refl 304)) kw_1331 rfl rfl dX12_follow_93 (Nat.le_of_ble_eq_true rfl) ⟨Nat.le_trans (by decide) hRf, Nat.le_trans (by decide) hRl⟩ (Nat.zero_le _) (Nat.zero_le _) (fun H locs M hEF => ?_)
      refine lv_iload hx hb dX12_follow_96 (lv_at hl 0 rfl) ?_
      refine lv_istore (lv' := [(4, .int x_5), (6, .int x_5), (0, .ref a0), (1, .int x1), (3, .int x3), (5, .int x5)]) hx hb dX12_follow_98 hl (by decide) rfl (fun ls hl => ?_)
      exact w_X12_follow_100 hx hb hml hr hlk hown hX hRf hRl (N := N) hk25 _ _ _ _ _ _ _ _ _ M ra0 (lv_sub hl [2, 3, 4, 0, 5] rfl) q
    · replace q := if_f c_9 q
      refine lv_aload_n hx hb dX12_follow_57 rfl (lv_at hl 1 rfl) ?_
      refine lv_iload_n hx hb dX12_follow_58 rfl (lv_at hl 3 rfl) ?_
      refine lv_iload hx hb dX12_follow_59 (lv_at hl 0 rfl) ?_
      refine lv_iload hx hb dX12_follow_61 (lv_at hl 5 rfl) ?_
      refine lv_iconst (v := 1) hx hb dX12_follow_63 (by decide) ?_
      refine lv_iadd hx hb dX12_follow_64 ?_
      refine lv_aload_n hx hb dX12_follow_65 rfl (lv_at hl 1 rfl) ?_
      replace q := nn_s q
      obtain ⟨a_13, e_a_13, q⟩ := q
      refine x_getR hx hb hown hX M e_a_13 okX12 ra0 (by decide) rfl kw_1072 dX12_follow_66 (fun ra_13 => ?_)
      refine lv_iconst (v := 0) hx hb dX12_follow_69 (by decide) ?_
      replace q := c2_s q
      obtain ⟨u_15, g_14, qc, q⟩ := q
      refine x_callV hx hb hml hl.1 hown hX M (S1 := S) (As := [.int x3, .int x_5, .int (x5 + (1 : Int32)), .ref a_13, .int (0 : Int32)]) (rest := []) okX12 ra0 rfl kw_1333 kw_33 mok_X12_tree (c_X12_tree ra0 ra_13 qc (Nat.le_refl 304)) kw_1331 rfl rfl dX12_follow_70 (Nat.le_of_ble_eq_true rfl) ⟨Nat.le_trans (by decide) hRf, Nat.le_trans (by decide) hRl⟩ (Nat.zero_le _) (Nat.zero_le _) (fun H locs M hEF => ?_)
      refine lv_iload hx hb dX12_follow_73 (lv_at hl 0 rfl) ?_
      refine lv_istore_n (lv' := [(3, .int x_5), (6, .int x_5), (0, .ref a0), (1, .int x1), (4, .int x4), (5, .int x5)]) hx hb dX12_follow_75 rfl hl (by decide) rfl (fun ls hl => ?_)
      refine lv_goto (tgt := 100) hx hb dX12_follow_76 (by decide) ?_
      exact w_X12_follow_100 hx hb hml hr hlk hown hX hRf hRl (N := N) hk25 _ _ _ _ _ _ _ _ _ M ra0 (lv_sub hl [2, 3, 0, 4, 5] rfl) q
set_option maxRecDepth 100000 in
theorem l_X12_follow_25 (hx : p.tables.exec = Jvm.exec) (hb : c.code = cX12_follow) (hml : c.maxLocals = 7) (hr : meth.sig.returnType = none) (hlk : meth.locks = false) (hown : s.vm.findClass RX12 = some m.cls) (hX : Kx D cA lo tS s) (hRf : 305 ≤ R.frames) (hRl : 18300 ≤ R.locals) {N : Nat} {rv : Unit} {g1 : Hg} {S : Hs} : ∀ (n : Nat), ∀ (H : Heap) (locs : List Loc) (ls : Array Slot) (g : Hg) (a0 : Nat) (x1 : Int32) (x3 : Int32) (x4 : Int32) (x5 : Int32), Mm D cA lo S g s H locs → Rf lo S a0 12 → lv_has ls 7 [(0, .ref a0), (1, .int x1), (3, .int x3), (4, .int x4), (5, .int x5)] → n_X12_follow_25 N S n g a0 x1 x3 x4 x5 = some (rv, g1) → W p l e R s m args below meth c H locs 0 0 (MQ below (Qcx D cA lo S none S g1 True) args s 0 0 (fun q : Nat => lo ≤ q)) (F0 m 25 ls []) := by
  intro n
  induction n with
  | zero =>
    intro H locs ls g a0 x1 x3 x4 x5 M ra0 hl q
    exact absurd q (by simp [n_X12_follow_25])
  | succ n ih => exact w_X12_follow_25 hx hb hml hr hlk hown hX hRf hRl (N := N)  ih
set_option maxHeartbeats 4000000 in
set_option maxRecDepth 100000 in
theorem w_X12_follow_0 (hx : p.tables.exec = Jvm.exec) (hb : c.code = cX12_follow) (hml : c.maxLocals = 7) (hr : meth.sig.returnType = none) (hlk : meth.locks = false) (hown : s.vm.findClass RX12 = some m.cls) (hX : Kx D cA lo tS s) (hRf : 305 ≤ R.frames) (hRl : 18300 ≤ R.locals) {N : Nat} {rv : Unit} {g1 : Hg} {S : Hs} : ∀ (H : Heap) (locs : List Loc) (ls : Array Slot) (g : Hg) (a0 : Nat) (x1 : Int32) (x2 : Int32), Mm D cA lo S g s H locs → Rf lo S a0 12 → lv_has ls 7 [(0, .ref a0), (1, .int x1), (2, .int x2)] → b_X12_follow_0 N S g a0 x1 x2 = some (rv, g1) → W p l e R s m args below meth c H locs 0 0 (MQ below (Qcx D cA lo S none S g1 True) args s 0 0 (fun q : Nat => lo ≤ q)) (F0 m 0 ls []) := by
  intro H locs ls g a0 x1 x2 M ra0 hl q
  unfold b_X12_follow_0 at q
  refine lv_aload_n hx hb dX12_follow_0 rfl (lv_at hl 0 rfl) ?_
  refine lv_iload_n hx hb dX12_follow_1 rfl (lv_at hl 2 rfl) ?_
  replace q := c2_s q
  obtain ⟨u_2, g_1, qc, q⟩ := q
  refine x_callV hx hb hml hl.1 hown hX M (S1 := S) (As := [.int x2]) (rest := []) okX12 ra0 rfl kw_1277 kw_22 mok_X12_wayOf (c_X12_wayOf ra0 qc (Nat.le_refl 3)) kw_1275 rfl rfl dX12_follow_2 (Nat.le_of_ble_eq_true rfl) ⟨Nat.le_trans (by decide) hRf, Nat.le_trans (by decide) hRl⟩ (Nat.zero_le _) (Nat.zero_le _) (fun H locs M hEF => ?_)
  refine lv_aload_n hx hb dX12_follow_5 rfl (lv_at hl 0 rfl) ?_
  refine lv_aload_n hx hb dX12_follow_6 rfl (lv_at hl 0 rfl) ?_
  replace q := nn_s q
  obtain ⟨a_3, e_a_3, q⟩ := q
  refine x_getR hx hb hown hX M e_a_3 okX12 ra0 (by decide) rfl kw_1073 dX12_follow_7 (fun ra_3 => ?_)
  refine lv_iconst (v := 0) hx hb dX12_follow_10 (by decide) ?_
  replace q := c2_s q
  obtain ⟨u_5, g_4, qc, q⟩ := q
  refine x_callV hx hb hml hl.1 hown hX M (S1 := S) (As := [.ref a_3, .int (0 : Int32)]) (rest := []) okX12 ra0 rfl kw_1290 kw_25 mok_X12_toRow (c_X12_toRow ra0 ra_3 qc (Nat.le_refl 1)) kw_1288 rfl rfl dX12_follow_11 (Nat.le_of_ble_eq_true rfl) ⟨Nat.le_trans (by decide) hRf, Nat.le_trans (by decide) hRl⟩ (Nat.zero_le _) (Nat.zero_le _) (fun H locs M hEF => ?_)
  refine lv_iconst (v := 0) hx hb dX12_follow_14 (by decide) ?_
  refine lv_istore_n (lv' := [(3, .int (0 : Int32)), (0, .ref a0), (1, .int x1), (2, .int x2)]) hx hb dX12_follow_15 rfl hl (by decide) rfl (fun ls hl => ?_)
  refine lv_aload_n hx hb dX12_follow_16 rfl (lv_at hl 1 rfl) ?_
  refine x_getI hx hb hown hX M (k := 57) okX12 ra0 (by decide) rfl kw_1069 dX12_follow_17 ?_
  refine lv_topi (fun x_6 e_x_6 => ?_)
  replace q := nm_s q e_x_6
  refine lv_istore (lv' := [(4, .int x_6), (3, .int (0 : Int32)), (0, .ref a0), (1, .int x1), (2, .int x2)]) hx hb dX12_follow_20 hl (by decide) rfl (fun ls hl => ?_)
  refine lv_iconst (v := 0) hx hb dX12_follow_22 (by decide) ?_
  refine lv_istore (lv' := [(5, .int (0 : Int32)), (4, .int x_6), (3, .int (0 : Int32)), (0, .ref a0), (1, .int x1), (2, .int x2)]) hx hb dX12_follow_23 hl (by decide) rfl (fun ls hl => ?_)
  exact l_X12_follow_25 hx hb hml hr hlk hown hX hRf hRl (N := N)  N _ _ _ _ _ _ _ _ _ M ra0 (lv_sub hl [3, 4, 2, 1, 0] rfl) q
set_option maxRecDepth 100000 in
theorem c_X12_follow {l : Launch} {D : va_G} {cA : Nat → ClassId} {lo tS N : Nat} {S : Hs} {g g1 : Hg} {rv : Unit} {a0 : Nat} {x1 : Int32} {x2 : Int32} (ra0 : Rf lo S a0 12) (q : f_X12_follow N S g a0 x1 x2 = some (rv, g1)) {d : Nat} (hd : 305 ≤ d) : Ctr l yX12_follow cX12_follow 7 none D cA lo tS [.ref a0, .int x1, .int x2] S g d none S g1 True 0 0 := by
  refine x_met (by decide) (Nat.le_of_ble_eq_true rfl) ?_
  intro p e s m below meth c ls hx hb hml hr hlk hown hnm hX M hl
  exact w_X12_follow_0 hx hb hml hr hlk hown hX hd (Nat.mul_le_mul_left 60 hd) (N := N) _ _ _ _ _ _ _ M ra0 (lv_sub hl [0, 1, 2] rfl) q
def b_X12_isLog_0 (N : Nat) (S : Hs) (g : Hg) (a0 : Nat) (x1 : Int32) : Option (Int32 × Hg) :=
if x1 < 0 then (
some ((0 : Int32), g)) else (
if (rdI g a0 1) ≤ x1 then (
some ((0 : Int32), g)) else (
some ((1 : Int32), g)))
def f_X12_isLog (N : Nat) (S : Hs) (g : Hg) (a0 : Nat) (x1 : Int32) : Option (Int32 × Hg) := b_X12_isLog_0 N S g a0 x1
set_option maxHeartbeats 4000000 in
set_option maxRecDepth 100000 in
theorem w_X12_isLog_0 (hx : p.tables.exec = Jvm.exec) (hb : c.code = cX12_isLog) (hml : c.maxLocals = 2) (hr : meth.sig.returnType = (some .boolean)) (hlk : meth.locks = false) (hown : s.vm.findClass RX12 = some m.cls) (hX : Kx D cA lo tS s) (hRf : 1 ≤ R.frames) (hRl : 60 ≤ R.locals) {N : Nat} {rv : Int32} {g1 : Hg} {S : Hs} : ∀ (H : Heap) (locs : List Loc) (ls : Array Slot) (g : Hg) (a0 : Nat) (x1 : Int32), Mm D cA lo S g s H locs → Rf lo S a0 12 → lv_has ls 2 [(0, .ref a0), (1, .int x1)] → b_X12_isLog_0 N S g a0 x1 = some (rv, g1) → W p l e R s m args below meth c H locs 0 0 (MQ below (Qcx D cA lo S (some (.int rv)) S g1 True) args s 0 0 (fun q : Nat => lo ≤ q)) (F0 m 0 ls []) := by
  intro H locs ls g a0 x1 M ra0 hl q
  unfold b_X12_isLog_0 at q
  refine lv_iload_n hx hb dX12_isLog_0 rfl (lv_at hl 1 rfl) ?_
  refine lv_if_lt (tgt := 16) hx hb dX12_isLog_1 (by decide) (fun c_1 => ?_) (fun c_1 => ?_)
  · replace q := if_t c_1 q
    refine lv_iconst (v := 0) hx hb dX12_isLog_16 (by decide) ?_
    cases q
    exact x_zret hx hb hr hlk rfl M Ext.rf dX12_isLog_17
  · replace q := if_f c_1 q
    refine lv_iload_n hx hb dX12_isLog_4 rfl (lv_at hl 1 rfl) ?_
    refine lv_aload_n hx hb dX12_isLog_5 rfl (lv_at hl 0 rfl) ?_
    refine x_getI hx hb hown hX M (k := 1) okX12 ra0 (by decide) rfl kw_1013 dX12_isLog_6 ?_
    refine lv_icmp_ge (tgt := 16) hx hb dX12_isLog_9 (by decide) (fun c_2 => ?_) (fun c_2 => ?_)
    · replace q := if_t c_2 q
      refine lv_iconst (v := 0) hx hb dX12_isLog_16 (by decide) ?_
      cases q
      exact x_zret hx hb hr hlk rfl M Ext.rf dX12_isLog_17
    · replace q := if_f c_2 q
      refine lv_iconst (v := 1) hx hb dX12_isLog_12 (by decide) ?_
      refine lv_goto (tgt := 17) hx hb dX12_isLog_13 (by decide) ?_
      cases q
      exact x_zret hx hb hr hlk rfl M Ext.rf dX12_isLog_17
set_option maxRecDepth 100000 in
theorem c_X12_isLog {l : Launch} {D : va_G} {cA : Nat → ClassId} {lo tS N : Nat} {S : Hs} {g g1 : Hg} {rv : Int32} {a0 : Nat} {x1 : Int32} (ra0 : Rf lo S a0 12) (q : f_X12_isLog N S g a0 x1 = some (rv, g1)) {d : Nat} (hd : 1 ≤ d) : Ctr l yX12_isLog cX12_isLog 2 (some .boolean) D cA lo tS [.ref a0, .int x1] S g d (some (.int rv)) S g1 True 0 0 := by
  refine x_met (by decide) (Nat.le_of_ble_eq_true rfl) ?_
  intro p e s m below meth c ls hx hb hml hr hlk hown hnm hX M hl
  exact w_X12_isLog_0 hx hb hml hr hlk hown hX hd (Nat.mul_le_mul_left 60 hd) (N := N) _ _ _ _ _ _ M ra0 (lv_sub hl [0, 1] rfl) q
def b_X12_many_0 (N : Nat) (S : Hs) (g : Hg) (a0 : Nat) (x1 : Int32) : Option (Int32 × Hg) :=
nn (rdR g a0 0) (fun a_1 =>
ck (inb (((4 : Int32) * x1) + (1 : Int32)) (hpL S a_1)) (
some ((rdI g a_1 (((4 : Int32) * x1) + (1 : Int32)).toNatClampNeg), g)))
def f_X12_many (N : Nat) (S : Hs) (g : Hg) (a0 : Nat) (x1 : Int32) : Option (Int32 × Hg) := b_X12_many_0 N S g a0 x1
set_option maxHeartbeats 4000000 in
set_option maxRecDepth 100000 in
theorem w_X12_many_0 (hx : p.tables.exec = Jvm.exec) (hb : c.code = cX12_many) (hml : c.maxLocals = 2) (hr : meth.sig.returnType = (some .int)) (hlk : meth.locks = false) (hown : s.vm.findClass RX12 = some m.cls) (hX : Kx D cA lo tS s) (hRf : 1 ≤ R.frames) (hRl : 60 ≤ R.locals) {N : Nat} {rv : Int32} {g1 : Hg} {S : Hs} : ∀ (H : Heap) (locs : List Loc) (ls : Array Slot) (g : Hg) (a0 : Nat) (x1 : Int32), Mm D cA lo S g s H locs → Rf lo S a0 12 → lv_has ls 2 [(0, .ref a0), (1, .int x1)] → b_X12_many_0 N S g a0 x1 = some (rv, g1) → W p l e R s m args below meth c H locs 0 0 (MQ below (Qcx D cA lo S (some (.int rv)) S g1 True) args s 0 0 (fun q : Nat => lo ≤ q)) (F0 m 0 ls []) := by
  intro H locs ls g a0 x1 M ra0 hl q
  unfold b_X12_many_0 at q
  refine lv_aload_n hx hb dX12_many_0 rfl (lv_at hl 0 rfl) ?_
  replace q := nn_s q
  obtain ⟨a_1, e_a_1, q⟩ := q
  refine x_getR hx hb hown hX M e_a_1 okX12 ra0 (by decide) rfl kw_1012 dX12_many_1 (fun ra_1 => ?_)
  refine lv_iconst (v := 4) hx hb dX12_many_4 (by decide) ?_
  refine lv_iload_n hx hb dX12_many_5 rfl (lv_at hl 1 rfl) ?_
  refine lv_imul hx hb dX12_many_6 ?_
  refine lv_iconst (v := 1) hx hb dX12_many_7 (by decide) ?_
  refine lv_iadd hx hb dX12_many_8 ?_
  replace q := ck_s q
  obtain ⟨hin, q⟩ := q
  refine x_iald hx hb hX M ra_1 (inb_in hin) dX12_many_9 ?_
  cases q
  exact x_iret hx hb hr hlk M Ext.rf dX12_many_10
set_option maxRecDepth 100000 in
theorem c_X12_many {l : Launch} {D : va_G} {cA : Nat → ClassId} {lo tS N : Nat} {S : Hs} {g g1 : Hg} {rv : Int32} {a0 : Nat} {x1 : Int32} (ra0 : Rf lo S a0 12) (q : f_X12_many N S g a0 x1 = some (rv, g1)) {d : Nat} (hd : 1 ≤ d) : Ctr l yX12_many cX12_many 2 (some .int) D cA lo tS [.ref a0, .int x1] S g d (some (.int rv)) S g1 True 0 0 := by
  refine x_met (by decide) (Nat.le_of_ble_eq_true rfl) ?_
  intro p e s m below meth c ls hx hb hml hr hlk hown hnm hX M hl
  exact w_X12_many_0 hx hb hml hr hlk hown hX hd (Nat.mul_le_mul_left 60 hd) (N := N) _ _ _ _ _ _ M ra0 (lv_sub hl [0, 1] rfl) q
def b_X12_isCount_0 (N : Nat) (S : Hs) (g : Hg) (a0 : Nat) (x1 : Int32) (x2 : Int32) : Option (Int32 × Hg) :=
c2 (f_X12_isLog N S g a0 x1) (fun x_2 g_1 =>
if x_2 = 0 then (
some ((0 : Int32), g_1)) else (
if x2 < 0 then (
some ((0 : Int32), g_1)) else (
c2 (f_X12_many N S g_1 a0 x1) (fun x_6 g_5 =>
if x_6 < x2 then (
some ((0 : Int32), g_5)) else (
some ((1 : Int32), g_5))))))
def f_X12_isCount (N : Nat) (S : Hs) (g : Hg) (a0 : Nat) (x1 : Int32) (x2 : Int32) : Option (Int32 × Hg) := b_X12_isCount_0 N S g a0 x1 x2
set_option maxHeartbeats 4000000 in
set_option maxRecDepth 100000 in
theorem w_X12_isCount_0 (hx : p.tables.exec = Jvm.exec) (hb : c.code = cX12_isCount) (hml : c.maxLocals = 3) (hr : meth.sig.returnType = (some .boolean)) (hlk : meth.locks = false) (hown : s.vm.findClass RX12 = some m.cls) (hX : Kx D cA lo tS s) (hRf : 2 ≤ R.frames) (hRl : 120 ≤ R.locals) {N : Nat} {rv : Int32} {g1 : Hg} {S : Hs} : ∀ (H : Heap) (locs : List Loc) (ls : Array Slot) (g : Hg) (a0 : Nat) (x1 : Int32) (x2 : Int32), Mm D cA lo S g s H locs → Rf lo S a0 12 → lv_has ls 3 [(0, .ref a0), (1, .int x1), (2, .int x2)] → b_X12_isCount_0 N S g a0 x1 x2 = some (rv, g1) → W p l e R s m args below meth c H locs 0 0 (MQ below (Qcx D cA lo S (some (.int rv)) S g1 True) args s 0 0 (fun q : Nat => lo ≤ q)) (F0 m 0 ls []) := by
  intro H locs ls g a0 x1 x2 M ra0 hl q
  unfold b_X12_isCount_0 at q
  refine lv_aload_n hx hb dX12_isCount_0 rfl (lv_at hl 0 rfl) ?_
  refine lv_iload_n hx hb dX12_isCount_1 rfl (lv_at hl 1 rfl) ?_
  replace q := c2_s q
  obtain ⟨x_2, g_1, qc, q⟩ := q
  refine x_callV hx hb hml hl.1 hown hX M (S1 := S) (As := [.int x1]) (rest := []) okX12 ra0 rfl kw_1221 kw_14 mok_X12_isLog (c_X12_isLog ra0 qc (Nat.le_refl 1)) kw_1219 rfl rfl dX12_isCount_2 (Nat.le_of_ble_eq_true rfl) ⟨Nat.le_trans (by decide) hRf, Nat.le_trans (by decide) hRl⟩ (Nat.zero_le _) (Nat.zero_le _) (fun H locs M hEF => ?_)
  refine lv_if_eq (tgt := 25) hx hb dX12_isCount_5 (by decide) (fun c_3 => ?_) (fun c_3 => ?_)
  · replace q := if_t c_3 q
    refine lv_iconst (v := 0) hx hb dX12_isCount_25 (by decide) ?_
    cases q
    exact x_zret hx hb hr hlk rfl M Ext.rf dX12_isCount_26
  · replace q := if_f c_3 q
    refine lv_iload_n hx hb dX12_isCount_8 rfl (lv_at hl 2 rfl) ?_
    refine lv_if_lt (tgt := 25) hx hb dX12_isCount_9 (by decide) (fun c_4 => ?_) (fun c_4 => ?_)
    · replace q := if_t c_4 q
      refine lv_iconst (v := 0) hx hb dX12_isCount_25 (by decide) ?_
      cases q
      exact x_zret hx hb hr hlk rfl M Ext.rf dX12_isCount_26
    · replace q := if_f c_4 q
      refine lv_iload_n hx hb dX12_isCount_12 rfl (lv_at hl 2 rfl) ?_
      refine lv_aload_n hx hb dX12_isCount_13 rfl (lv_at hl 0 rfl) ?_
      refine lv_iload_n hx hb dX12_isCount_14 rfl (lv_at hl 1 rfl) ?_
      replace q := c2_s q
      obtain ⟨x_6, g_5, qc, q⟩ := q
      refine x_callV hx hb hml hl.1 hown hX M (S1 := S) (As := [.int x1]) (rest := [.int x2]) okX12 ra0 rfl kw_1225 kw_15 mok_X12_many (c_X12_many ra0 qc (Nat.le_refl 1)) kw_1223 rfl rfl dX12_isCount_15 (Nat.le_of_ble_eq_true rfl) ⟨Nat.le_trans (by decide) hRf, Nat.le_trans (by decide) hRl⟩ (Nat.zero_le _) (Nat.zero_le _) (fun H locs M hEF => ?_)
      refine lv_icmp_gt (tgt := 25) hx hb dX12_isCount_18 (by decide) (fun c_7 => ?_) (fun c_7 => ?_)
      · replace q := if_t c_7 q
        refine lv_iconst (v := 0) hx hb dX12_isCount_25 (by decide) ?_
        cases q
        exact x_zret hx hb hr hlk rfl M Ext.rf dX12_isCount_26
      · replace q := if_f c_7 q
        refine lv_iconst (v := 1) hx hb dX12_isCount_21 (by decide) ?_
        refine lv_goto (tgt := 26) hx hb dX12_isCount_22 (by decide) ?_
        cases q
        exact x_zret hx hb hr hlk rfl M Ext.rf dX12_isCount_26
set_option maxRecDepth 100000 in
theorem c_X12_isCount {l : Launch} {D : va_G} {cA : Nat → ClassId} {lo tS N : Nat} {S : Hs} {g g1 : Hg} {rv : Int32} {a0 : Nat} {x1 : Int32} {x2 : Int32} (ra0 : Rf lo S a0 12) (q : f_X12_isCount N S g a0 x1 x2 = some (rv, g1)) {d : Nat} (hd : 2 ≤ d) : Ctr l yX12_isCount cX12_isCount 3 (some .boolean) D cA lo tS [.ref a0, .int x1, .int x2] S g d (some (.int rv)) S g1 True 0 0 := by
  refine x_met (by decide) (Nat.le_of_ble_eq_true rfl) ?_
  intro p e s m below meth c ls hx hb hml hr hlk hown hnm hX M hl
  exact w_X12_isCount_0 hx hb hml hr hlk hown hX hd (Nat.mul_le_mul_left 60 hd) (N := N) _ _ _ _ _ _ _ M ra0 (lv_sub hl [0, 1, 2] rfl) q
def b_X12_isSlot_0 (N : Nat) (S : Hs) (g : Hg) (x1 : Int32) : Option (Int32 × Hg) :=
if x1 < 0 then (
some ((0 : Int32), g)) else (
if (16 : Int32) ≤ x1 then (
some ((0 : Int32), g)) else (
some ((1 : Int32), g)))
def f_X12_isSlot (N : Nat) (S : Hs) (g : Hg) (a0 : Nat) (x1 : Int32) : Option (Int32 × Hg) := b_X12_isSlot_0 N S g x1
set_option maxHeartbeats 4000000 in
set_option maxRecDepth 100000 in
theorem w_X12_isSlot_0 (hx : p.tables.exec = Jvm.exec) (hb : c.code = cX12_isSlot) (hml : c.maxLocals = 2) (hr : meth.sig.returnType = (some .boolean)) (hlk : meth.locks = false) (hown : s.vm.findClass RX12 = some m.cls) (hX : Kx D cA lo tS s) (hRf : 1 ≤ R.frames) (hRl : 60 ≤ R.locals) {N : Nat} {rv : Int32} {g1 : Hg} {S : Hs} : ∀ (H : Heap) (locs : List Loc) (ls : Array Slot) (g : Hg) (x1 : Int32), Mm D cA lo S g s H locs → lv_has ls 2 [(1, .int x1)] → b_X12_isSlot_0 N S g x1 = some (rv, g1) → W p l e R s m args below meth c H locs 0 0 (MQ below (Qcx D cA lo S (some (.int rv)) S g1 True) args s 0 0 (fun q : Nat => lo ≤ q)) (F0 m 0 ls []) := by
  intro H locs ls g x1 M hl q
  unfold b_X12_isSlot_0 at q
  refine lv_iload_n hx hb dX12_isSlot_0 rfl (lv_at hl 0 rfl) ?_
  refine lv_if_lt (tgt := 14) hx hb dX12_isSlot_1 (by decide) (fun c_1 => ?_) (fun c_1 => ?_)
  · replace q := if_t c_1 q
    refine lv_iconst (v := 0) hx hb dX12_isSlot_14 (by decide) ?_
    cases q
    exact x_zret hx hb hr hlk rfl M Ext.rf dX12_isSlot_15
  · replace q := if_f c_1 q
    refine lv_iload_n hx hb dX12_isSlot_4 rfl (lv_at hl 0 rfl) ?_
    refine lv_bipush (v := 16) hx hb dX12_isSlot_5 (by decide) ?_
    refine lv_icmp_ge (tgt := 14) hx hb dX12_isSlot_7 (by decide) (fun c_2 => ?_) (fun c_2 => ?_)
    · replace q := if_t c_2 q
      refine lv_iconst (v := 0) hx hb dX12_isSlot_14 (by decide) ?_
      cases q
      exact x_zret hx hb hr hlk rfl M Ext.rf dX12_isSlot_15
    · replace q := if_f c_2 q
      refine lv_iconst (v := 1) hx hb dX12_isSlot_10 (by decide) ?_
      refine lv_goto (tgt := 15) hx hb dX12_isSlot_11 (by decide) ?_
      cases q
      exact x_zret hx hb hr hlk rfl M Ext.rf dX12_isSlot_15
set_option maxRecDepth 100000 in
theorem c_X12_isSlot {l : Launch} {D : va_G} {cA : Nat → ClassId} {lo tS N : Nat} {S : Hs} {g g1 : Hg} {rv : Int32} {a0 : Nat} {x1 : Int32} (ra0 : Rf lo S a0 12) (q : f_X12_isSlot N S g a0 x1 = some (rv, g1)) {d : Nat} (hd : 1 ≤ d) : Ctr l yX12_isSlot cX12_isSlot 2 (some .boolean) D cA lo tS [.ref a0, .int x1] S g d (some (.int rv)) S g1 True 0 0 := by
  refine x_met (by decide) (Nat.le_of_ble_eq_true rfl) ?_
  intro p e s m below meth c ls hx hb hml hr hlk hown hnm hX M hl
  exact w_X12_isSlot_0 hx hb hml hr hlk hown hX hd (Nat.mul_le_mul_left 60 hd) (N := N) _ _ _ _ _ M  (lv_sub hl [1] rfl) q
def b_X12_word_25 (N : Nat) (S : Hs) (k25 : Hg → Nat → Int32 → Int32 → Int32 → Int32 → Option (Int32 × Hg)) (g : Hg) (a0 : Nat) (x1 : Int32) (x2 : Int32) (x3 : Int32) (x4 : Int32) : Option (Int32 × Hg) :=
if x3 ≤ x4 then (
some ((-1 : Int32), g)) else (
nn (rdR g a0 6) (fun a_2 =>
ck (inb (((100 : Int32) * x1) + x4) (hpL S a_2)) (
if (rdI g a_2 (((100 : Int32) * x1) + x4).toNatClampNeg) = x2 then (
some ((((100 : Int32) * x1) + x4), g)) else (
nm (x4 + 1) (fun x_4 =>
k25 g a0 x1 x2 x3 x_4)))))
def n_X12_word_25 (N : Nat) (S : Hs) : Nat → Hg → Nat → Int32 → Int32 → Int32 → Int32 → Option (Int32 × Hg)
  | 0 => fun _ _ _ _ _ _ => none
  | n + 1 => fun g a0 x1 x2 x3 x4 => b_X12_word_25 N S (n_X12_word_25 N S n) g a0 x1 x2 x3 x4
def b_X12_word_0 (N : Nat) (S : Hs) (g : Hg) (a0 : Nat) (x1 : Int32) (x2 : Int32) : Option (Int32 × Hg) :=
nn (rdR g a0 0) (fun a_1 =>
ck (inb (((4 : Int32) * x1) + (2 : Int32)) (hpL S a_1)) (
nn (rdR g a0 0) (fun a_2 =>
ck (inb (((4 : Int32) * x1) + (3 : Int32)) (hpL S a_2)) (
nm ((rdI g a_1 (((4 : Int32) * x1) + (2 : Int32)).toNatClampNeg) + (rdI g a_2 (((4 : Int32) * x1) + (3 : Int32)).toNatClampNeg)) (fun x_3 =>
n_X12_word_25 N S N g a0 x1 x2 x_3 (0 : Int32))))))
def f_X12_word (N : Nat) (S : Hs) (g : Hg) (a0 : Nat) (x1 : Int32) (x2 : Int32) : Option (Int32 × Hg) := b_X12_word_0 N S g a0 x1 x2
set_option maxHeartbeats 4000000 in
set_option maxRecDepth 100000 in
theorem w_X12_word_25 (hx : p.tables.exec = Jvm.exec) (hb : c.code = cX12_word) (hml : c.maxLocals = 5) (hr : meth.sig.returnType = (some .int)) (hlk : meth.locks = false) (hown : s.vm.findClass RX12 = some m.cls) (hX : Kx D cA lo tS s) (hRf : 1 ≤ R.frames) (hRl : 60 ≤ R.locals) {N : Nat} {rv : Int32} {g1 : Hg} {S : Hs} {k25 : Hg → Nat → Int32 → Int32 → Int32 → Int32 → Option (Int32 × Hg)} (hk25 : ∀ (H : Heap) (locs : List Loc) (ls : Array Slot) (g : Hg) (a0 : Nat) (x1 : Int32) (x2 : Int32) (x3 : Int32) (x4 : Int32), Mm D cA lo S g s H locs → Rf lo S a0 12 → lv_has ls 5 [(0, .ref a0), (1, .int x1), (2, .int x2), (3, .int x3), (4, .int x4)] → k25 g a0 x1 x2 x3 x4 = some (rv, g1) → W p l e R s m args below meth c H locs 0 0 (MQ below (Qcx D cA lo S (some (.int rv)) S g1 True) args s 0 0 (fun q : Nat => lo ≤ q)) (F0 m 25 ls [])) : ∀ (H : Heap) (locs : List Loc) (ls : Array Slot) (g : Hg) (a0 : Nat) (x1 : Int32) (x2 : Int32) (x3 : Int32) (x4 : Int32), Mm D cA lo S g s H locs → Rf lo S a0 12 → lv_has ls 5 [(0, .ref a0), (1, .int x1), (2, .int x2), (3, .int x3), (4, .int x4)] → b_X12_word_25 N S k25 g a0 x1 x2 x3 x4 = some (rv, g1) → W p l e R s m args below meth c H locs 0 0 (MQ below (Qcx D cA lo S (some (.int rv)) S g1 True) args s 0 0 (fun q : Nat => lo ≤ q)) (F0 m 25 ls []) := by
  intro H locs ls g a0 x1 x2 x3 x4 M ra0 hl q
  unfold b_X12_word_25 at q
  refine lv_iload hx hb dX12_word_25 (lv_at hl 4 rfl) ?_
  refine lv_iload_n hx hb dX12_word_27 rfl (lv_at hl 3 rfl) ?_
  refine lv_icmp_ge (tgt := 61) hx hb dX12_word_28 (by decide) (fun c_1 => ?_) (fun c_1 => ?_)
  · replace q := if_t c_1 q
    refine lv_iconst (v := -1) hx hb dX12_word_61 (by decide) ?_
    cases q
    exact x_iret hx hb hr hlk M Ext.rf dX12_word_62
  · replace q := if_f c_1 q
    refine lv_aload_n hx hb dX12_word_31 rfl (lv_at hl 0 rfl) ?_
    replace q := nn_s q
    obtain ⟨a_2, e_a_2, q⟩ := q
    refine x_getR hx hb hown hX M e_a_2 okX12 ra0 (by decide) rfl kw_1018 dX12_word_32 (fun ra_2 => ?_)
    refine lv_bipush (v := 100) hx hb dX12_word_35 (by decide) ?_
    refine lv_iload_n hx hb dX12_word_37 rfl (lv_at hl 1 rfl) ?_
    refine lv_imul hx hb dX12_word_38 ?_
    refine lv_iload hx hb dX12_word_39 (lv_at hl 4 rfl) ?_
    refine lv_iadd hx hb dX12_word_41 ?_
    replace q := ck_s q
    obtain ⟨hin, q⟩ := q
    refine x_iald hx hb hX M ra_2 (inb_in hin) dX12_word_42 ?_
    refine lv_iload_n hx hb dX12_word_43 rfl (lv_at hl 2 rfl) ?_
    refine lv_icmp_ne (tgt := 55) hx hb dX12_word_44 (by decide) (fun c_3 => ?_) (fun c_3 => ?_)
    · replace q := if_f c_3 q
      obtain ⟨x_4, e_x_4⟩ : ∃ y : Int32, y = x4 + 1 := ⟨_, rfl⟩
      replace q := nm_s q e_x_4
      refine lv_iinc (v := x_4) (lv' := [(4, .int x_4), (0, .ref a0), (1, .int x1), (2, .int x2), (3, .int x3)]) hx hb dX12_word_55 hl (k := 4) rfl (by rw [e_x_4]; rfl) (by decide) rfl (fun ls hl => ?_)
      refine lv_goto (tgt := 25) hx hb dX12_word_58 (by decide) ?_
      exact hk25 _ _ _ _ _ _ _ _ _ M ra0 (lv_sub hl [1, 2, 3, 4, 0] rfl) q
    · replace q := if_t c_3 q
      refine lv_bipush (v := 100) hx hb dX12_word_47 (by decide) ?_
      refine lv_iload_n hx hb dX12_word_49 rfl (lv_at hl 1 rfl) ?_
      refine lv_imul hx hb dX12_word_50 ?_
      refine lv_iload hx hb dX12_word_51 (lv_at hl 4 rfl) ?_
      refine lv_iadd hx hb dX12_word_53 ?_
      cases q
      exact x_iret hx hb hr hlk M Ext.rf dX12_word_54
set_option maxRecDepth 100000 in
theorem l_X12_word_25 (hx : p.tables.exec = Jvm.exec) (hb : c.code = cX12_word) (hml : c.maxLocals = 5) (hr : meth.sig.returnType = (some .int)) (hlk : meth.locks = false) (hown : s.vm.findClass RX12 = some m.cls) (hX : Kx D cA lo tS s) (hRf : 1 ≤ R.frames) (hRl : 60 ≤ R.locals) {N : Nat} {rv : Int32} {g1 : Hg} {S : Hs} : ∀ (n : Nat), ∀ (H : Heap) (locs : List Loc) (ls : Array Slot) (g : Hg) (a0 : Nat) (x1 : Int32) (x2 : Int32) (x3 : Int32) (x4 : Int32), Mm D cA lo S g s H locs → Rf lo S a0 12 → lv_has ls 5 [(0, .ref a0), (1, .int x1), (2, .int x2), (3, .int x3), (4, .int x4)] → n_X12_word_25 N S n g a0 x1 x2 x3 x4 = some (rv, g1) → W p l e R s m args below meth c H locs 0 0 (MQ below (Qcx D cA lo S (some (.int rv)) S g1 True) args s 0 0 (fun q : Nat => lo ≤ q)) (F0 m 25 ls []) := by
  intro n
  induction n with
  | zero =>
    intro H locs ls g a0 x1 x2 x3 x4 M ra0 hl q
    exact absurd q (by simp [n_X12_word_25])
  | succ n ih => exact w_X12_word_25 hx hb hml hr hlk hown hX hRf hRl (N := N)  ih
set_option maxHeartbeats 4000000 in
set_option maxRecDepth 100000 in
theorem w_X12_word_0 (hx : p.tables.exec = Jvm.exec) (hb : c.code = cX12_word) (hml : c.maxLocals = 5) (hr : meth.sig.returnType = (some .int)) (hlk : meth.locks = false) (hown : s.vm.findClass RX12 = some m.cls) (hX : Kx D cA lo tS s) (hRf : 1 ≤ R.frames) (hRl : 60 ≤ R.locals) {N : Nat} {rv : Int32} {g1 : Hg} {S : Hs} : ∀ (H : Heap) (locs : List Loc) (ls : Array Slot) (g : Hg) (a0 : Nat) (x1 : Int32) (x2 : Int32), Mm D cA lo S g s H locs → Rf lo S a0 12 → lv_has ls 5 [(0, .ref a0), (1, .int x1), (2, .int x2)] → b_X12_word_0 N S g a0 x1 x2 = some (rv, g1) → W p l e R s m args below meth c H locs 0 0 (MQ below (Qcx D cA lo S (some (.int rv)) S g1 True) args s 0 0 (fun q : Nat => lo ≤ q)) (F0 m 0 ls []) := by
  intro H locs ls g a0 x1 x2 M ra0 hl q
  unfold b_X12_word_0 at q
  refine lv_aload_n hx hb dX12_word_0 rfl (lv_at hl 0 rfl) ?_
  replace q := nn_s q
  obtain ⟨a_1, e_a_1, q⟩ := q
  refine x_getR hx hb hown hX M e_a_1 okX12 ra0 (by decide) rfl kw_1012 dX12_word_1 (fun ra_1 => ?_)
  refine lv_iconst (v := 4) hx hb dX12_word_4 (by decide) ?_
  refine lv_iload_n hx hb dX12_word_5 rfl (lv_at hl 1 rfl) ?_
  refine lv_imul hx hb dX12_word_6 ?_
  refine lv_iconst (v := 2) hx hb dX12_word_7 (by decide) ?_
  refine lv_iadd hx hb dX12_word_8 ?_
  replace q := ck_s q
  obtain ⟨hin, q⟩ := q
  refine x_iald hx hb hX M ra_1 (inb_in hin) dX12_word_9 ?_
  refine lv_aload_n hx hb dX12_word_10 rfl (lv_at hl 0 rfl) ?_
  replace q := nn_s q
  obtain ⟨a_2, e_a_2, q⟩ := q
  refine x_getR hx hb hown hX M e_a_2 okX12 ra0 (by decide) rfl kw_1012 dX12_word_11 (fun ra_2 => ?_)
  refine lv_iconst (v := 4) hx hb dX12_word_14 (by decide) ?_
  refine lv_iload_n hx hb dX12_word_15 rfl (lv_at hl 1 rfl) ?_
  refine lv_imul hx hb dX12_word_16 ?_
  refine lv_iconst (v := 3) hx hb dX12_word_17 (by decide) ?_
  refine lv_iadd hx hb dX12_word_18 ?_
  replace q := ck_s q
  obtain ⟨hin, q⟩ := q
  refine x_iald hx hb hX M ra_2 (inb_in hin) dX12_word_19 ?_
  refine lv_iadd hx hb dX12_word_20 ?_
  refine lv_topi (fun x_3 e_x_3 => ?_)
  replace q := nm_s q e_x_3
  refine lv_istore_n (lv' := [(3, .int x_3), (0, .ref a0), (1, .int x1), (2, .int x2)]) hx hb dX12_word_21 rfl hl (by decide) rfl (fun ls hl => ?_)
  refine lv_iconst (v := 0) hx hb dX12_word_22 (by decide) ?_
  refine lv_istore (lv' := [(4, .int (0 : Int32)), (3, .int x_3), (0, .ref a0), (1, .int x1), (2, .int x2)]) hx hb dX12_word_23 hl (by decide) rfl (fun ls hl => ?_)
  exact l_X12_word_25 hx hb hml hr hlk hown hX hRf hRl (N := N)  N _ _ _ _ _ _ _ _ _ M ra0 (lv_sub hl [2, 3, 4, 1, 0] rfl) q
set_option maxRecDepth 100000 in
theorem c_X12_word {l : Launch} {D : va_G} {cA : Nat → ClassId} {lo tS N : Nat} {S : Hs} {g g1 : Hg} {rv : Int32} {a0 : Nat} {x1 : Int32} {x2 : Int32} (ra0 : Rf lo S a0 12) (q : f_X12_word N S g a0 x1 x2 = some (rv, g1)) {d : Nat} (hd : 1 ≤ d) : Ctr l yX12_word cX12_word 5 (some .int) D cA lo tS [.ref a0, .int x1, .int x2] S g d (some (.int rv)) S g1 True 0 0 := by
  refine x_met (by decide) (Nat.le_of_ble_eq_true rfl) ?_
  intro p e s m below meth c ls hx hb hml hr hlk hown hnm hX M hl
  exact w_X12_word_0 hx hb hml hr hlk hown hX hd (Nat.mul_le_mul_left 60 hd) (N := N) _ _ _ _ _ _ _ M ra0 (lv_sub hl [0, 1, 2] rfl) q
def b_X12_counts_0 (N : Nat) (S : Hs) (g : Hg) (a0 : Nat) (x1 : Int32) (x2 : Int32) (x3 : Int32) : Option (Int32 × Hg) :=
nn (rdR g a0 2) (fun a_1 =>
ck (inb (((400 : Int32) * x1) + x3) (hpL S a_1)) (
c2 (f_X12_word N S g a0 x1 (rdI g a_1 (((400 : Int32) * x1) + x3).toNatClampNeg)) (fun x_3 g_2 =>
if x_3 = (-1 : Int32) then (
some ((1 : Int32), g_2)) else (
nn (rdR g_2 a0 7) (fun a_5 =>
ck (inb x_3 (hpL S a_5)) (
if (rdI g_2 a_5 x_3.toNatClampNeg) ≤ x2 then (
nn (rdR g_2 a0 8) (fun a_7 =>
ck (inb x_3 (hpL S a_7)) (
if (rdI g_2 a_7 x_3.toNatClampNeg) = 0 then (
nn (rdR g_2 a0 7) (fun a_9 =>
ck (inb x_3 (hpL S a_9)) (
if (rdI g_2 a_9 x_3.toNatClampNeg) ≤ x3 then (
some ((0 : Int32), g_2)) else (
some ((1 : Int32), g_2))))) else (
some ((0 : Int32), g_2))))) else (
some ((1 : Int32), g_2))))))))
def f_X12_counts (N : Nat) (S : Hs) (g : Hg) (a0 : Nat) (x1 : Int32) (x2 : Int32) (x3 : Int32) : Option (Int32 × Hg) := b_X12_counts_0 N S g a0 x1 x2 x3
set_option maxHeartbeats 4000000 in
set_option maxRecDepth 100000 in
theorem w_X12_counts_0 (hx : p.tables.exec = Jvm.exec) (hb : c.code = cX12_counts) (hml : c.maxLocals = 5) (hr : meth.sig.returnType = (some .boolean)) (hlk : meth.locks = false) (hown : s.vm.findClass RX12 = some m.cls) (hX : Kx D cA lo tS s) (hRf : 2 ≤ R.frames) (hRl : 120 ≤ R.locals) {N : Nat} {rv : Int32} {g1 : Hg} {S : Hs} : ∀ (H : Heap) (locs : List Loc) (ls : Array Slot) (g : Hg) (a0 : Nat) (x1 : Int32) (x2 : Int32) (x3 : Int32), Mm D cA lo S g s H locs → Rf lo S a0 12 → lv_has ls 5 [(0, .ref a0), (1, .int x1), (2, .int x2), (3, .int x3)] → b_X12_counts_0 N S g a0 x1 x2 x3 = some (rv, g1) → W p l e R s m args below meth c H locs 0 0 (MQ below (Qcx D cA lo S (some (.int rv)) S g1 True) args s 0 0 (fun q : Nat => lo ≤ q)) (F0 m 0 ls []) := by
  intro H locs ls g a0 x1 x2 x3 M ra0 hl q
  unfold b_X12_counts_0 at q
  refine lv_aload_n hx hb dX12_counts_0 rfl (lv_at hl 0 rfl) ?_
  refine lv_iload_n hx hb dX12_counts_1 rfl (lv_at hl 1 rfl) ?_
  refine lv_aload_n hx hb dX12_counts_2 rfl (lv_at hl 0 rfl) ?_
  replace q := nn_s q
  obtain ⟨a_1, e_a_1, q⟩ := q
  refine x_getR hx hb hown hX M e_a_1 okX12 ra0 (by decide) rfl kw_1014 dX12_counts_3 (fun ra_1 => ?_)
  refine lv_sipush (v := 400) hx hb dX12_counts_6 (by decide) ?_
  refine lv_iload_n hx hb dX12_counts_9 rfl (lv_at hl 1 rfl) ?_
  refine lv_imul hx hb dX12_counts_10 ?_
  refine lv_iload_n hx hb dX12_counts_11 rfl (lv_at hl 3 rfl) ?_
  refine lv_iadd hx hb dX12_counts_12 ?_
  replace q := ck_s q
  obtain ⟨hin, q⟩ := q
  refine x_iald hx hb hX M ra_1 (inb_in hin) dX12_counts_13 ?_
  replace q := c2_s q
  obtain ⟨x_3, g_2, qc, q⟩ := q
  refine x_callV hx hb hml hl.1 hown hX M (S1 := S) (As := [.int x1, .int (rdI g a_1 (((400 : Int32) * x1) + x3).toNatClampNeg)]) (rest := []) okX12 ra0 rfl kw_1245 kw_18 mok_X12_word (c_X12_word ra0 qc (Nat.le_refl 1)) kw_1243 rfl rfl dX12_counts_14 (Nat.le_of_ble_eq_true rfl) ⟨Nat.le_trans (by decide) hRf, Nat.le_trans (by decide) hRl⟩ (Nat.zero_le _) (Nat.zero_le _) (fun H locs M hEF => ?_)
  refine lv_istore (lv' := [(4, .int x_3), (0, .ref a0), (1, .int x1), (2, .int x2), (3, .int x3)]) hx hb dX12_counts_17 hl (by decide) rfl (fun ls hl => ?_)
  refine lv_iload hx hb dX12_counts_19 (lv_at hl 0 rfl) ?_
  refine lv_iconst (v := -1) hx hb dX12_counts_21 (by decide) ?_
  refine lv_icmp_eq (tgt := 36) hx hb dX12_counts_22 (by decide) (fun c_4 => ?_) (fun c_4 => ?_)
  · replace q := if_t c_4 q
    refine lv_iconst (v := 1) hx hb dX12_counts_36 (by decide) ?_
    cases q
    exact x_zret hx hb hr hlk rfl M Ext.rf dX12_counts_37
  · replace q := if_f c_4 q
    refine lv_iload_n hx hb dX12_counts_25 rfl (lv_at hl 3 rfl) ?_
    refine lv_aload_n hx hb dX12_counts_26 rfl (lv_at hl 1 rfl) ?_
    replace q := nn_s q
    obtain ⟨a_5, e_a_5, q⟩ := q
    refine x_getR hx hb hown hX M e_a_5 okX12 ra0 (by decide) rfl kw_1019 dX12_counts_27 (fun ra_5 => ?_)
    refine lv_iload hx hb dX12_counts_30 (lv_at hl 0 rfl) ?_
    replace q := ck_s q
    obtain ⟨hin, q⟩ := q
    refine x_iald hx hb hX M ra_5 (inb_in hin) dX12_counts_32 ?_
    refine lv_icmp_ge (tgt := 38) hx hb dX12_counts_33 (by decide) (fun c_6 => ?_) (fun c_6 => ?_)
    · replace q := if_t c_6 q
      refine lv_aload_n hx hb dX12_counts_38 rfl (lv_at hl 1 rfl) ?_
      replace q := nn_s q
      obtain ⟨a_7, e_a_7, q⟩ := q
      refine x_getR hx hb hown hX M e_a_7 okX12 ra0 (by decide) rfl kw_1020 dX12_counts_39 (fun ra_7 => ?_)
      refine lv_iload hx hb dX12_counts_42 (lv_at hl 0 rfl) ?_
      replace q := ck_s q
      obtain ⟨hin, q⟩ := q
      refine x_zald hx hb hX M ra_7 (inb_in hin) dX12_counts_44 ?_
      refine lv_if_ne (tgt := 63) hx hb dX12_counts_45 (by decide) (fun c_8 => ?_) (fun c_8 => ?_)
      · replace q := if_f c_8 q
        refine lv_iconst (v := 0) hx hb dX12_counts_63 (by decide) ?_
        cases q
        exact x_zret hx hb hr hlk rfl M Ext.rf dX12_counts_64
      · replace q := if_t c_8 q
        refine lv_iload_n hx hb dX12_counts_48 rfl (lv_at hl 4 rfl) ?_
        refine lv_aload_n hx hb dX12_counts_49 rfl (lv_at hl 1 rfl) ?_
        replace q := nn_s q
        obtain ⟨a_9, e_a_9, q⟩ := q
        refine x_getR hx hb hown hX M e_a_9 okX12 ra0 (by decide) rfl kw_1019 dX12_counts_50 (fun ra_9 => ?_)
        refine lv_iload hx hb dX12_counts_53 (lv_at hl 0 rfl) ?_
        replace q := ck_s q
        obtain ⟨hin, q⟩ := q
        refine x_iald hx hb hX M ra_9 (inb_in hin) dX12_counts_55 ?_
        refine lv_icmp_ge (tgt := 63) hx hb dX12_counts_56 (by decide) (fun c_10 => ?_) (fun c_10 => ?_)
        · replace q := if_t c_10 q
          refine lv_iconst (v := 0) hx hb dX12_counts_63 (by decide) ?_
          cases q
          exact x_zret hx hb hr hlk rfl M Ext.rf dX12_counts_64
        · replace q := if_f c_10 q
          refine lv_iconst (v := 1) hx hb dX12_counts_59 (by decide) ?_
          refine lv_goto (tgt := 64) hx hb dX12_counts_60 (by decide) ?_
          cases q
          exact x_zret hx hb hr hlk rfl M Ext.rf dX12_counts_64
    · replace q := if_f c_6 q
      refine lv_iconst (v := 1) hx hb dX12_counts_36 (by decide) ?_
      cases q
      exact x_zret hx hb hr hlk rfl M Ext.rf dX12_counts_37
set_option maxRecDepth 100000 in
theorem c_X12_counts {l : Launch} {D : va_G} {cA : Nat → ClassId} {lo tS N : Nat} {S : Hs} {g g1 : Hg} {rv : Int32} {a0 : Nat} {x1 : Int32} {x2 : Int32} {x3 : Int32} (ra0 : Rf lo S a0 12) (q : f_X12_counts N S g a0 x1 x2 x3 = some (rv, g1)) {d : Nat} (hd : 2 ≤ d) : Ctr l yX12_counts cX12_counts 5 (some .boolean) D cA lo tS [.ref a0, .int x1, .int x2, .int x3] S g d (some (.int rv)) S g1 True 0 0 := by
  refine x_met (by decide) (Nat.le_of_ble_eq_true rfl) ?_
  intro p e s m below meth c ls hx hb hml hr hlk hown hnm hX M hl
  exact w_X12_counts_0 hx hb hml hr hlk hown hX hd (Nat.mul_le_mul_left 60 hd) (N := N) _ _ _ _ _ _ _ _ M ra0 (lv_sub hl [0, 1, 2, 3] rfl) q
def b_X12_map_94 (N : Nat) (S : Hs) (k94 : Hg → Nat → Int32 → Option (Unit × Hg)) (g : Hg) (a0 : Nat) (x3 : Int32) : Option (Unit × Hg) :=
if (rdI g a0 57) ≤ x3 then (
some ((), g)) else (
nn (rdR g a0 55) (fun a_2 =>
ck (inb x3 (hpL S a_2)) (
nm (wrI g a_2 x3.toNatClampNeg x3) (fun g_3 =>
nn (rdR g_3 a0 52) (fun a_4 =>
ck (inb x3 (hpL S a_4)) (
c2 (f_X12_wayOf N S g_3 a0 (rdI g_3 a_4 x3.toNatClampNeg)) (fun u_6 g_5 =>
nn (rdR g_5 a0 54) (fun a_7 =>
c2 (f_X12_toRow N S g_5 a0 a_7 ((8 : Int32) * x3)) (fun u_9 g_8 =>
nm (x3 + 1) (fun x_10 =>
k94 g_8 a0 x_10))))))))))
def n_X12_map_94 (N : Nat) (S : Hs) : Nat → Hg → Nat → Int32 → Option (Unit × Hg)
  | 0 => fun _ _ _ => none
  | n + 1 => fun g a0 x3 => b_X12_map_94 N S (n_X12_map_94 N S n) g a0 x3
def b_X12_map_78 (N : Nat) (S : Hs) (k7 : Hg → Nat → Int32 → Int32 → Int32 → Option (Unit × Hg)) (g : Hg) (a0 : Nat) (x1 : Int32) (x2 : Int32) (x3 : Int32) (x5 : Int32) : Option (Unit × Hg) :=
nn (rdR g a0 53) (fun a_1 =>
ck (inb x5 (hpL S a_1)) (
nm (wrI g a_1 x5.toNatClampNeg x3) (fun g_2 =>
nm (x3 + 1) (fun x_3 =>
k7 g_2 a0 x1 x2 x_3))))
def b_X12_map_7 (N : Nat) (S : Hs) (k7 : Hg → Nat → Int32 → Int32 → Int32 → Option (Unit × Hg)) (g : Hg) (a0 : Nat) (x1 : Int32) (x2 : Int32) (x3 : Int32) : Option (Unit × Hg) :=
if x2 ≤ x3 then (
n_X12_map_94 N S N g a0 (0 : Int32)) else (
c2 (f_X12_counts N S g a0 x1 x2 x3) (fun x_3 g_2 =>
if x_3 = 0 then (
nm (x3 + 1) (fun x_14 =>
k7 g_2 a0 x1 x2 x_14)) else (
nn (rdR g_2 a0 2) (fun a_5 =>
ck (inb (((400 : Int32) * x1) + x3) (hpL S a_5)) (
nm (rdI g_2 a_5 (((400 : Int32) * x1) + x3).toNatClampNeg) (fun x_6 =>
c2 (f_X12_find N S g_2 a0 x_6) (fun x_8 g_7 =>
if x_8 = (-1 : Int32) then (
nm (rdI g_7 a0 57) (fun x_10 =>
nn (rdR g_7 a0 52) (fun a_11 =>
ck (inb x_10 (hpL S a_11)) (
nm (wrI g_7 a_11 x_10.toNatClampNeg x_6) (fun g_12 =>
nm (wrI g_12 a0 57 ((rdI g_12 a0 57) + (1 : Int32))) (fun g_13 =>
b_X12_map_78 N S k7 g_13 a0 x1 x2 x3 x_10)))))) else (
b_X12_map_78 N S k7 g_7 a0 x1 x2 x3 x_8))))))))
def n_X12_map_7 (N : Nat) (S : Hs) : Nat → Hg → Nat → Int32 → Int32 → Int32 → Option (Unit × Hg)
  | 0 => fun _ _ _ _ _ => none
  | n + 1 => fun g a0 x1 x2 x3 => b_X12_map_7 N S (n_X12_map_7 N S n) g a0 x1 x2 x3
def b_X12_map_0 (N : Nat) (S : Hs) (g : Hg) (a0 : Nat) (x1 : Int32) (x2 : Int32) : Option (Unit × Hg) :=
nm (wrI g a0 57 (0 : Int32)) (fun g_1 =>
n_X12_map_7 N S N g_1 a0 x1 x2 (0 : Int32))
def f_X12_map (N : Nat) (S : Hs) (g : Hg) (a0 : Nat) (x1 : Int32) (x2 : Int32) : Option (Unit × Hg) := b_X12_map_0 N S g a0 x1 x2
set_option maxHeartbeats 4000000 in
set_option maxRecDepth 100000 in
theorem w_X12_map_94 (hx : p.tables.exec = Jvm.exec) (hb : c.code = cX12_map) (hml : c.maxLocals = 6) (hr : meth.sig.returnType = none) (hlk : meth.locks = false) (hown : s.vm.findClass RX12 = some m.cls) (hX : Kx D cA lo tS s) (hRf : 4 ≤ R.frames) (hRl : 240 ≤ R.locals) {N : Nat} {rv : Unit} {g1 : Hg} {S : Hs} {k94 : Hg → Nat → Int32 → Option (Unit × Hg)} (hk94 : ∀ (H : Heap) (locs : List Loc) (ls : Array Slot) (g : Hg) (a0 : Nat) (x3 : Int32), Mm D cA lo S g s H locs → Rf lo S a0 12 → lv_has ls 6 [(0, .ref a0), (3, .int x3)] → k94 g a0 x3 = some (rv, g1) → W p l e R s m args below meth c H locs 0 0 (MQ below (Qcx D cA lo S none S g1 True) args s 0 0 (fun q : Nat => lo ≤ q)) (F0 m 94 ls [])) : ∀ (H : Heap) (locs : List Loc) (ls : Array Slot) (g : Hg) (a0 : Nat) (x3 : Int32), Mm D cA lo S g s H locs → Rf lo S a0 12 → lv_has ls 6 [(0, .ref a0), (3, .int x3)] → b_X12_map_94 N S k94 g a0 x3 = some (rv, g1) → W p l e R s m args below meth c H locs 0 0 (MQ below (Qcx D cA lo S none S g1 True) args s 0 0 (fun q : Nat => lo ≤ q)) (F0 m 94 ls []) := by
  intro H locs ls g a0 x3 M ra0 hl q
  unfold b_X12_map_94 at q
  refine lv_iload_n hx hb dX12_map_94 rfl (lv_at hl 1 rfl) ?_
  refine lv_aload_n hx hb dX12_map_95 rfl (lv_at hl 0 rfl) ?_
  refine x_getI hx hb hown hX M (k := 57) okX12 ra0 (by decide) rfl kw_1069 dX12_map_96 ?_
  refine lv_icmp_ge (tgt := 137) hx hb dX12_map_99 (by decide) (fun c_1 => ?_) (fun c_1 => ?_)
  · replace q := if_t c_1 q
    cases q
    exact x_vret hx hb hr hlk M Ext.rf dX12_map_137
  · replace q := if_f c_1 q
    refine lv_aload_n hx hb dX12_map_102 rfl (lv_at hl 0 rfl) ?_
    replace q := nn_s q
    obtain ⟨a_2, e_a_2, q⟩ := q
    refine x_getR hx hb hown hX M e_a_2 okX12 ra0 (by decide) rfl kw_1067 dX12_map_103 (fun ra_2 => ?_)
    refine lv_iload_n hx hb dX12_map_106 rfl (lv_at hl 1 rfl) ?_
    refine lv_iload_n hx hb dX12_map_107 rfl (lv_at hl 1 rfl) ?_
    replace q := ck_s q
    obtain ⟨hin, q⟩ := q
    refine x_iast hx hb hX M ra_2 (inb_in hin) dX12_map_108 (fun H locs M => ?_)
    replace q := gen_g M q
    obtain ⟨g_3, -, M, q⟩ := q
    refine lv_aload_n hx hb dX12_map_109 rfl (lv_at hl 0 rfl) ?_
    refine lv_aload_n hx hb dX12_map_110 rfl (lv_at hl 0 rfl) ?_
    replace q := nn_s q
    obtain ⟨a_4, e_a_4, q⟩ := q
    refine x_getR hx hb hown hX M e_a_4 okX12 ra0 (by decide) rfl kw_1064 dX12_map_111 (fun ra_4 => ?_)
    refine lv_iload_n hx hb dX12_map_114 rfl (lv_at hl 1 rfl) ?_
    replace q := ck_s q
    obtain ⟨hin, q⟩ := q
    refine x_iald hx hb hX M ra_4 (inb_in hin) dX12_map_115 ?_
    replace q := c2_s q
    obtain ⟨u_6, g_5, qc, q⟩ := q
    refine x_callV hx hb hml hl.1 hown hX M (S1 := S) (As := [.int (rdI g_3 a_4 x3.toNatClampNeg)]) (rest := []) okX12 ra0 rfl kw_1277 kw_22 mok_X12_wayOf (c_X12_wayOf ra0 qc (Nat.le_refl 3)) kw_1275 rfl rfl dX12_map_116 (Nat.le_of_ble_eq_true rfl) ⟨Nat.le_trans (by decide) hRf, Nat.le_trans (by decide) hRl⟩ (Nat.zero_le _) (Nat.zero_le _) (fun H locs M hEF => ?_)
    refine lv_aload_n hx hb dX12_map_119 rfl (lv_at hl 0 rfl) ?_
    refine lv_aload_n hx hb dX12_map_120 rfl (lv_at hl 0 rfl) ?_
    replace q := nn_s q
    obtain ⟨a_7, e_a_7, q⟩ := q
    refine x_getR hx hb hown hX M e_a_7 okX12 ra0 (by decide) rfl kw_1066 dX12_map_121 (fun ra_7 => ?_)
    refine lv_bipush (v := 8) hx hb dX12_map_124 (by decide) ?_
    refine lv_iload_n hx hb dX12_map_126 rfl (lv_at hl 1 rfl) ?_
    refine lv_imul hx hb dX12_map_127 ?_
    replace q := c2_s q
    obtain ⟨u_9, g_8, qc, q⟩ := q
    refine x_callV hx hb hml hl.1 hown hX M (S1 := S) (As := [.ref a_7, .int ((8 : Int32) * x3)]) (rest := []) okX12 ra0 rfl kw_1290 kw_25 mok_X12_toRow (c_X12_toRow ra0 ra_7 qc (Nat.le_refl 1)) kw_1288 rfl rfl dX12_map_128 (Nat.le_of_ble_eq_true rfl) ⟨Nat.le_trans (by decide) hRf, Nat.le_trans (by decide) hRl⟩ (Nat.zero_le _) (Nat.zero_le _) (fun H locs M hEF => ?_)
    obtain ⟨x_10, e_x_10⟩ : ∃ y : Int32, y = x3 + 1 := ⟨_, rfl⟩
    replace q := nm_s q e_x_10
    refine lv_iinc (v := x_10) (lv' := [(3, .int x_10), (0, .ref a0)]) hx hb dX12_map_131 hl (k := 1) rfl (by rw [e_x_10]; rfl) (by decide) rfl (fun ls hl => ?_)
    refine lv_goto (tgt := 94) hx hb dX12_map_134 (by decide) ?_
    exact hk94 _ _ _ _ _ _ M ra0 (lv_sub hl [1, 0] rfl) q
set_option maxRecDepth 100000 in
theorem l_X12_map_94 (hx : p.tables.exec = Jvm.exec) (hb : c.code = cX12_map) (hml : c.maxLocals = 6) (hr : meth.sig.returnType = none) (hlk : meth.locks = false) (hown : s.vm.findClass RX12 = some m.cls) (hX : Kx D cA lo tS s) (hRf : 4 ≤ R.frames) (hRl : 240 ≤ R.locals) {N : Nat} {rv : Unit} {g1 : Hg} {S : Hs} : ∀ (n : Nat), ∀ (H : Heap) (locs : List Loc) (ls : Array Slot) (g : Hg) (a0 : Nat) (x3 : Int32), Mm D cA lo S g s H locs → Rf lo S a0 12 → lv_has ls 6 [(0, .ref a0), (3, .int x3)] → n_X12_map_94 N S n g a0 x3 = some (rv, g1) → W p l e R s m args below meth c H locs 0 0 (MQ below (Qcx D cA lo S none S g1 True) args s 0 0 (fun q : Nat => lo ≤ q)) (F0 m 94 ls []) := by
  intro n
  induction n with
  | zero =>
    intro H locs ls g a0 x3 M ra0 hl q
    exact absurd q (by simp [n_X12_map_94])
  | succ n ih => exact w_X12_map_94 hx hb hml hr hlk hown hX hRf hRl (N := N)  ih
set_option maxHeartbeats 4000000 in
set_option maxRecDepth 100000 in
theorem w_X12_map_78 (hx : p.tables.exec = Jvm.exec) (hb : c.code = cX12_map) (hml : c.maxLocals = 6) (hr : meth.sig.returnType = none) (hlk : meth.locks = false) (hown : s.vm.findClass RX12 = some m.cls) (hX : Kx D cA lo tS s) (hRf : 4 ≤ R.frames) (hRl : 240 ≤ R.locals) {N : Nat} {rv : Unit} {g1 : Hg} {S : Hs} {k7 : Hg → Nat → Int32 → Int32 → Int32 → Option (Unit × Hg)} (hk7 : ∀ (H : Heap) (locs : List Loc) (ls : Array Slot) (g : Hg) (a0 : Nat) (x1 : Int32) (x2 : Int32) (x3 : Int32), Mm D cA lo S g s H locs → Rf lo S a0 12 → lv_has ls 6 [(0, .ref a0), (1, .int x1), (2, .int x2), (3, .int x3)] → k7 g a0 x1 x2 x3 = some (rv, g1) → W p l e R s m args below meth c H locs 0 0 (MQ below (Qcx D cA lo S none S g1 True) args s 0 0 (fun q : Nat => lo ≤ q)) (F0 m 7 ls [])) : ∀ (H : Heap) (locs : List Loc) (ls : Array Slot) (g : Hg) (a0 : Nat) (x1 : Int32) (x2 : Int32) (x3 : Int32) (x5 : Int32), Mm D cA lo S g s H locs → Rf lo S a0 12 → lv_has ls 6 [(0, .ref a0), (1, .int x1), (2, .int x2), (3, .int x3), (5, .int x5)] → b_X12_map_78 N S k7 g a0 x1 x2 x3 x5 = some (rv, g1) → W p l e R s m args below meth c H locs 0 0 (MQ below (Qcx D cA lo S none S g1 True) args s 0 0 (fun q : Nat => lo ≤ q)) (F0 m 78 ls []) := by
  intro H locs ls g a0 x1 x2 x3 x5 M ra0 hl q
  unfold b_X12_map_78 at q
  refine lv_aload_n hx hb dX12_map_78 rfl (lv_at hl 0 rfl) ?_
  replace q := nn_s q
  obtain ⟨a_1, e_a_1, q⟩ := q
  refine x_getR hx hb hown hX M e_a_1 okX12 ra0 (by decide) rfl kw_1065 dX12_map_79 (fun ra_1 => ?_)
  refine lv_iload hx hb dX12_map_82 (lv_at hl 4 rfl) ?_
  refine lv_iload_n hx hb dX12_map_84 rfl (lv_at hl 3 rfl) ?_
  replace q := ck_s q
  obtain ⟨hin, q⟩ := q
  refine x_iast hx hb hX M ra_1 (inb_in hin) dX12_map_85 (fun H locs M => ?_)
  replace q := gen_g M q
  obtain ⟨g_2, -, M, q⟩ := q
  obtain ⟨x_3, e_x_3⟩ : ∃ y : Int32, y = x3 + 1 := ⟨_, rfl⟩
  replace q := nm_s q e_x_3
  refine lv_iinc (v := x_3) (lv' := [(3, .int x_3), (0, .ref a0), (1, .int x1), (2, .int x2), (5, .int x5)]) hx hb dX12_map_86 hl (k := 3) rfl (by rw [e_x_3]; rfl) (by decide) rfl (fun ls hl => ?_)
  refine lv_goto (tgt := 7) hx hb dX12_map_89 (by decide) ?_
  exact hk7 _ _ _ _ _ _ _ _ M ra0 (lv_sub hl [1, 2, 3, 0] rfl) q
set_option maxHeartbeats 4000000 in
set_option maxRecDepth 100000 in
theorem w_X12_map_7 (hx : p.tables.exec = Jvm.exec) (hb : c.code = cX12_map) (hml : c.maxLocals = 6) (hr : meth.sig.returnType = none) (hlk : meth.locks = false) (hown : s.vm.findClass RX12 = some m.cls) (hX : Kx D cA lo tS s) (hRf : 4 ≤ R.frames) (hRl : 240 ≤ R.locals) {N : Nat} {rv : Unit} {g1 : Hg} {S : Hs} {k7 : Hg → Nat → Int32 → Int32 → Int32 → Option (Unit × Hg)} (hk7 : ∀ (H : Heap) (locs : List Loc) (ls : Array Slot) (g : Hg) (a0 : Nat) (x1 : Int32) (x2 : Int32) (x3 : Int32), Mm D cA lo S g s H locs → Rf lo S a0 12 → lv_has ls 6 [(0, .ref a0), (1, .int x1), (2, .int x2), (3, .int x3)] → k7 g a0 x1 x2 x3 = some (rv, g1) → W p l e R s m args below meth c H locs 0 0 (MQ below (Qcx D cA lo S none S g1 True) args s 0 0 (fun q : Nat => lo ≤ q)) (F0 m 7 ls [])) : ∀ (H : Heap) (locs : List Loc) (ls : Array Slot) (g : Hg) (a0 : Nat) (x1 : Int32) (x2 : Int32) (x3 : Int32), Mm D cA lo S g s H locs → Rf lo S a0 12 → lv_has ls 6 [(0, .ref a0), (1, .int x1), (2, .int x2), (3, .int x3)] → b_X12_map_7 N S k7 g a0 x1 x2 x3 = some (rv, g1) → W p l e R s m args below meth c H locs 0 0 (MQ below (Qcx D cA lo S none S g1 True) args s 0 0 (fun q : Nat => lo ≤ q)) (F0 m 7 ls []) := by
  intro H locs ls g a0 x1 x2 x3 M ra0 hl q
  unfold b_X12_map_7 at q
  refine lv_iload_n hx hb dX12_map_7 rfl (lv_at hl 3 rfl) ?_
  refine lv_iload_n hx hb dX12_map_8 rfl (lv_at hl 2 rfl) ?_
  refine lv_icmp_ge (tgt := 92) hx hb dX12_map_9 (by decide) (fun c_1 => ?_) (fun c_1 => ?_)
  · replace q := if_t c_1 q
    refine lv_iconst (v := 0) hx hb dX12_map_92 (by decide) ?_
    refine lv_istore_n (lv' := [(3, .int (0 : Int32)), (0, .ref a0), (1, .int x1), (2, .int x2)]) hx hb dX12_map_93 rfl hl (by decide) rfl (fun ls hl => ?_)
    exact l_X12_map_94 hx hb hml hr hlk hown hX hRf hRl (N := N)  N _ _ _ _ _ _ M ra0 (lv_sub hl [1, 0] rfl) q
  · replace q := if_f c_1 q
    refine lv_aload_n hx hb dX12_map_12 rfl (lv_at hl 0 rfl) ?_
    refine lv_iload_n hx hb dX12_map_13 rfl (lv_at hl 1 rfl) ?_
    refine lv_iload_n hx hb dX12_map_14 rfl (lv_at hl 2 rfl) ?_
    refine lv_iload_n hx hb dX12_map_15 rfl (lv_at hl 3 rfl) ?_
    replace q := c2_s q
    obtain ⟨x_3, g_2, qc, q⟩ := q
    refine x_callV hx hb hml hl.1 hown hX M (S1 := S) (As := [.int x1, .int x2, .int x3]) (rest := []) okX12 ra0 rfl kw_1269 kw_20 mok_X12_counts (c_X12_counts ra0 qc (Nat.le_refl 2)) kw_1267 rfl rfl dX12_map_16 (Nat.le_of_ble_eq_true rfl) ⟨Nat.le_trans (by decide) hRf, Nat.le_trans (by decide) hRl⟩ (Nat.zero_le _) (Nat.zero_le _) (fun H locs M hEF => ?_)
    refine lv_if_ne (tgt := 25) hx hb dX12_map_19 (by decide) (fun c_4 => ?_) (fun c_4 => ?_)
    · replace q := if_f c_4 q
      refine lv_aload_n hx hb dX12_map_25 rfl (lv_at hl 0 rfl) ?_
      replace q := nn_s q
      obtain ⟨a_5, e_a_5, q⟩ := q
      refine x_getR hx hb hown hX M e_a_5 okX12 ra0 (by decide) rfl kw_1014 dX12_map_26 (fun ra_5 => ?_)
      refine lv_sipush (v := 400) hx hb dX12_map_29 (by decide) ?_
      refine lv_iload_n hx hb dX12_map_32 rfl (lv_at hl 1 rfl) ?_
      refine lv_imul hx hb dX12_map_33 ?_
      refine lv_iload_n hx hb dX12_map_34 rfl (lv_at hl 3 rfl) ?_
      refine lv_iadd hx hb dX12_map_35 ?_
      replace q := ck_s q
      obtain ⟨hin, q⟩ := q
      refine x_iald hx hb hX M ra_5 (inb_in hin) dX12_map_36 ?_
      refine lv_topi (fun x_6 e_x_6 => ?_)
      replace q := nm_s q e_x_6
      refine lv_istore (lv' := [(4, .int x_6), (0, .ref a0), (1, .int x1), (2, .int x2), (3, .int x3)]) hx hb dX12_map_37 hl (by decide) rfl (fun ls hl => ?_)
      refine lv_aload_n hx hb dX12_map_39 rfl (lv_at hl 1 rfl) ?_
      refine lv_iload hx hb dX12_map_40 (lv_at hl 0 rfl) ?_
      replace q := c2_s q
      obtain ⟨x_8, g_7, qc, q⟩ := q
      refine x_callV hx hb hml hl.1 hown hX M (S1 := S) (As := [.int x_6]) (rest := []) okX12 ra0 rfl kw_1273 kw_21 mok_X12_find (c_X12_find ra0 qc (Nat.le_refl 1)) kw_1271 rfl rfl dX12_map_42 (Nat.le_of_ble_eq_true rfl) ⟨Nat.le_trans (by decide) hRf, Nat.le_trans (by decide) hRl⟩ (Nat.zero_le _) (Nat.zero_le _) (fun H locs M hEF => ?_)
      refine lv_istore (lv' := [(5, .int x_8), (4, .int x_6), (0, .ref a0), (1, .int x1), (2, .int x2), (3, .int x3)]) hx hb dX12_map_45 hl (by decide) rfl (fun ls hl => ?_)
      refine lv_iload hx hb dX12_map_47 (lv_at hl 0 rfl) ?_
      refine lv_iconst (v := -1) hx hb dX12_map_49 (by decide) ?_
      refine lv_icmp_ne (tgt := 78) hx hb dX12_map_50 (by decide) (fun c_9 => ?_) (fun c_9 => ?_)
      · replace q := if_f c_9 q
        exact w_X12_map_78 hx hb hml hr hlk hown hX hRf hRl (N := N) hk7 _ _ _ _ _ _ _ _ _ M ra0 (lv_sub hl [2, 3, 4, 5, 0] rfl) q
      · replace q := if_t c_9 q
        refine lv_aload_n hx hb dX12_map_53 rfl (lv_at hl 2 rfl) ?_
        refine x_getI hx hb hown hX M (k := 57) okX12 ra0 (by decide) rfl kw_1069 dX12_map_54 ?_
        refine lv_topi (fun x_10 e_x_10 => ?_)
        replace q := nm_s q e_x_10
        refine lv_istore (lv' := [(5, .int x_10), (4, .int x_6), (0, .ref a0), (1, .int x1), (2, .int x2), (3, .int x3)]) hx hb dX12_map_57 hl (by decide) rfl (fun ls hl => ?_)
        refine lv_aload_n hx hb dX12_map_59 rfl (lv_at hl 2 rfl) ?_
        replace q := nn_s q
        obtain ⟨a_11, e_a_11, q⟩ := q
        refine x_getR hx hb hown hX M e_a_11 okX12 ra0 (by decide) rfl kw_1064 dX12_map_60 (fun ra_11 => ?_)
        refine lv_iload hx hb dX12_map_63 (lv_at hl 0 rfl) ?_
        refine lv_iload hx hb dX12_map_65 (lv_at hl 1 rfl) ?_
        replace q := ck_s q
        obtain ⟨hin, q⟩ := q
        refine x_iast hx hb hX M ra_11 (inb_in hin) dX12_map_67 (fun H locs M => ?_)
        replace q := gen_g M q
        obtain ⟨g_12, -, M, q⟩ := q
        refine lv_aload_n hx hb dX12_map_68 rfl (lv_at hl 2 rfl) ?_
        refine lv_dup hx hb dX12_map_69 rfl ?_
        refine x_getI hx hb hown hX M (k := 57) okX12 ra0 (by decide) rfl kw_1069 dX12_map_70 ?_
        refine lv_iconst (v := 1) hx hb dX12_map_73 (by decide) ?_
        refine lv_iadd hx hb dX12_map_74 ?_
        refine x_putI hx hb hown hX M (k := 57) okX12 ra0 (by decide) rfl (Or.inl rfl) rfl rfl kw_1069 dX12_map_75 (fun H locs M => ?_)
        replace q := gen_g M q
        obtain ⟨g_13, -, M, q⟩ := q
        exact w_X12_map_78 hx hb hml hr hlk hown hX hRf hRl (N := N) hk7 _ _ _ _ _ _ _ _ _ M ra0 (lv_sub hl [2, 3, 4, 5, 0] rfl) q
    · replace q := if_t c_4 q
      refine lv_goto (tgt := 86) hx hb dX12_map_22 (by decide) ?_
      obtain ⟨x_14, e_x_14⟩ : ∃ y : Int32, y = x3 + 1 := ⟨_, rfl⟩
      replace q := nm_s q e_x_14
      refine lv_iinc (v := x_14) (lv' := [(3, .int x_14), (0, .ref a0), (1, .int x1), (2, .int x2)]) hx hb dX12_map_86 hl (k := 3) rfl (by rw [e_x_14]; rfl) (by decide) rfl (fun ls hl => ?_)
      refine lv_goto (tgt := 7) hx hb dX12_map_89 (by decide) ?_
      exact hk7 _ _ _ _ _ _ _ _ M ra0 (lv_sub hl [1, 2, 3, 0] rfl) q
set_option maxRecDepth 100000 in
theorem l_X12_map_7 (hx : p.tables.exec = Jvm.exec) (hb : c.code = cX12_map) (hml : c.maxLocals = 6) (hr : meth.sig.returnType = none) (hlk : meth.locks = false) (hown : s.vm.findClass RX12 = some m.cls) (hX : Kx D cA lo tS s) (hRf : 4 ≤ R.frames) (hRl : 240 ≤ R.locals) {N : Nat} {rv : Unit} {g1 : Hg} {S : Hs} : ∀ (n : Nat), ∀ (H : Heap) (locs : List Loc) (ls : Array Slot) (g : Hg) (a0 : Nat) (x1 : Int32) (x2 : Int32) (x3 : Int32), Mm D cA lo S g s H locs → Rf lo S a0 12 → lv_has ls 6 [(0, .ref a0), (1, .int x1), (2, .int x2), (3, .int x3)] → n_X12_map_7 N S n g a0 x1 x2 x3 = some (rv, g1) → W p l e R s m args below meth c H locs 0 0 (MQ below (Qcx D cA lo S none S g1 True) args s 0 0 (fun q : Nat => lo ≤ q)) (F0 m 7 ls []) := by
  intro n
  induction n with
  | zero =>
    intro H locs ls g a0 x1 x2 x3 M ra0 hl q
    exact absurd q (by simp [n_X12_map_7])
  | succ n ih => exact w_X12_map_7 hx hb hml hr hlk hown hX hRf hRl (N := N)  ih
set_option maxHeartbeats 4000000 in
set_option maxRecDepth 100000 in
theorem w_X12_map_0 (hx : p.tables.exec = Jvm.exec) (hb : c.code = cX12_map) (hml : c.maxLocals = 6) (hr : meth.sig.returnType = none) (hlk : meth.locks = false) (hown : s.vm.findClass RX12 = some m.cls) (hX : Kx D cA lo tS s) (hRf : 4 ≤ R.frames) (hRl : 240 ≤ R.locals) {N : Nat} {rv : Unit} {g1 : Hg} {S : Hs} : ∀ (H : Heap) (locs : List Loc) (ls : Array Slot) (g : Hg) (a0 : Nat) (x1 : Int32) (x2 : Int32), Mm D cA lo S g s H locs → Rf lo S a0 12 → lv_has ls 6 [(0, .ref a0), (1, .int x1), (2, .int x2)] → b_X12_map_0 N S g a0 x1 x2 = some (rv, g1) → W p l e R s m args below meth c H locs 0 0 (MQ below (Qcx D cA lo S none S g1 True) args s 0 0 (fun q : Nat => lo ≤ q)) (F0 m 0 ls []) := by
  intro H locs ls g a0 x1 x2 M ra0 hl q
  unfold b_X12_map_0 at q
  refine lv_aload_n hx hb dX12_map_0 rfl (lv_at hl 0 rfl) ?_
  refine lv_iconst (v := 0) hx hb dX12_map_1 (by decide) ?_
  refine x_putI hx hb hown hX M (k := 57) okX12 ra0 (by decide) rfl (Or.inl rfl) rfl rfl kw_1069 dX12_map_2 (fun H locs M => ?_)
  replace q := gen_g M q
  obtain ⟨g_1, -, M, q⟩ := q
  refine lv_iconst (v := 0) hx hb dX12_map_5 (by decide) ?_
  refine lv_istore_n (lv' := [(3, .int (0 : Int32)), (0, .ref a0), (1, .int x1), (2, .int x2)]) hx hb dX12_map_6 rfl hl (by decide) rfl (fun ls hl => ?_)
  exact l_X12_map_7 hx hb hml hr hlk hown hX hRf hRl (N := N)  N _ _ _ _ _ _ _ _ M ra0 (lv_sub hl [1, 2, 3, 0] rfl) q
set_option maxRecDepth 100000 in
theorem c_X12_map {l : Launch} {D : va_G} {cA : Nat → ClassId} {lo tS N : Nat} {S : Hs} {g g1 : Hg} {rv : Unit} {a0 : Nat} {x1 : Int32} {x2 : Int32} (ra0 : Rf lo S a0 12) (q : f_X12_map N S g a0 x1 x2 = some (rv, g1)) {d : Nat} (hd : 4 ≤ d) : Ctr l yX12_map cX12_map 6 none D cA lo tS [.ref a0, .int x1, .int x2] S g d none S g1 True 0 0 := by
  refine x_met (by decide) (Nat.le_of_ble_eq_true rfl) ?_
  intro p e s m below meth c ls hx hb hml hr hlk hown hnm hX M hl
  exact w_X12_map_0 hx hb hml hr hlk hown hX hd (Nat.mul_le_mul_left 60 hd) (N := N) _ _ _ _ _ _ _ M ra0 (lv_sub hl [0, 1, 2] rfl) q
def b_X12_absent_153 (N : Nat) (S : Hs) (g : Hg) (a0 : Nat) (x1 : Int32) (sa0 : Nat) (sx1 : Int32) (sx2 : Int32) : Option (Int32 × Hg) :=
ck (inb sx1 (hpL S sa0)) (
nm (wrI g sa0 sx1.toNatClampNeg sx2) (fun g_1 =>
nn (rdR g_1 a0 9) (fun a_2 =>
ck (inb (((8 : Int32) * x1) + (1 : Int32)) (hpL S a_2)) (
some ((rdI g_1 a_2 (((8 : Int32) * x1) + (1 : Int32)).toNatClampNeg), g_1)))))
def b_X12_absent_128 (N : Nat) (S : Hs) (g : Hg) (a0 : Nat) (x1 : Int32) (sa0 : Nat) (sx1 : Int32) (sx2 : Int32) : Option (Int32 × Hg) :=
ck (inb sx1 (hpL S sa0)) (
nm (wrI g sa0 sx1.toNatClampNeg sx2) (fun g_1 =>
nn (rdR g_1 a0 9) (fun a_2 =>
if (rdI g_1 a0 62) = (-1 : Int32) then (
b_X12_absent_153 N S g_1 a0 x1 a_2 (((8 : Int32) * x1) + (7 : Int32)) (0 : Int32)) else (
b_X12_absent_153 N S g_1 a0 x1 a_2 (((8 : Int32) * x1) + (7 : Int32)) (1 : Int32)))))
def b_X12_absent_95 (N : Nat) (S : Hs) (g : Hg) (a0 : Nat) (x1 : Int32) (sa0 : Nat) (sx1 : Int32) (sx2 : Int32) : Option (Int32 × Hg) :=
ck (inb sx1 (hpL S sa0)) (
nm (wrI g sa0 sx1.toNatClampNeg sx2) (fun g_1 =>
nn (rdR g_1 a0 9) (fun a_2 =>
if (rdI g_1 a0 62) = (-1 : Int32) then (
b_X12_absent_128 N S g_1 a0 x1 a_2 (((8 : Int32) * x1) + (6 : Int32)) (0 : Int32)) else (
nn (rdR g_1 a0 52) (fun a_4 =>
ck (inb (rdI g_1 a0 62) (hpL S a_4)) (
b_X12_absent_128 N S g_1 a0 x1 a_2 (((8 : Int32) * x1) + (6 : Int32)) (rdI g_1 a_4 (rdI g_1 a0 62).toNatClampNeg)))))))
def b_X12_absent_0 (N : Nat) (S : Hs) (g : Hg) (a0 : Nat) (x1 : Int32) (x2 : Int32) (x3 : Int32) (x4 : Int32) : Option (Int32 × Hg) :=
c2 (f_X12_isSlot N S g a0 x1) (fun x_2 g_1 =>
if x_2 = 0 then (
some ((-1 : Int32), g_1)) else (
c2 (f_X12_isCount N S g_1 a0 x2 x3) (fun x_5 g_4 =>
if x_5 = 0 then (
some ((-1 : Int32), g_4)) else (
c2 (f_X12_map N S g_4 a0 x2 x3) (fun u_8 g_7 =>
c2 (f_X12_find N S g_7 a0 x4) (fun x_10 g_9 =>
if x_10 = (-1 : Int32) then (
c2 (f_X12_begin N S g_9 a0 x1 (4 : Int32) x3 (0 : Int32) (0 : Int32)) (fun u_13 g_12 =>
nn (rdR g_12 a0 10) (fun a_14 =>
ck (inb ((40 : Int32) * x1) (hpL S a_14)) (
nm (wrI g_12 a_14 ((40 : Int32) * x1).toNatClampNeg x4) (fun g_15 =>
c2 (f_X12_follow N S g_15 a0 x1 x4) (fun u_17 g_16 =>
nn (rdR g_16 a0 9) (fun a_18 =>
if (rdI g_16 a0 62) = (-1 : Int32) then (
b_X12_absent_95 N S g_16 a0 x1 a_18 (((8 : Int32) * x1) + (5 : Int32)) (-1 : Int32)) else (
nn (rdR g_16 a0 53) (fun a_20 =>
ck (inb (rdI g_16 a0 62) (hpL S a_20)) (
b_X12_absent_95 N S g_16 a0 x1 a_18 (((8 : Int32) * x1) + (5 : Int32)) (rdI g_16 a_20 (rdI g_16 a0 62).toNatClampNeg))))))))))) else (
some ((-1 : Int32), g_9))))))))
def f_X12_absent (N : Nat) (S : Hs) (g : Hg) (a0 : Nat) (x1 : Int32) (x2 : Int32) (x3 : Int32) (x4 : Int32) : Option (Int32 × Hg) := b_X12_absent_0 N S g a0 x1 x2 x3 x4
set_option maxHeartbeats 4000000 in
set_option maxRecDepth 100000 in
theorem w_X12_absent_153 (hx : p.tables.exec = Jvm.exec) (hb : c.code = cX12_absent) (hml : c.maxLocals = 5) (hr : meth.sig.returnType = (some .int)) (hlk : meth.locks = false) (hown : s.vm.findClass RX12 = some m.cls) (hX : Kx D cA lo tS s) (hRf : 306 ≤ R.frames) (hRl : 18360 ≤ R.locals) {N : Nat} {rv : Int32} {g1 : Hg} {S : Hs} : ∀ (H : Heap) (locs : List Loc) (ls : Array Slot) (g : Hg) (a0 : Nat) (x1 : Int32) (sa0 : Nat) (sx1 : Int32) (sx2 : Int32), Mm D cA lo S g s H locs → Rf lo S a0 12 → Rf lo S sa0 20 → lv_has ls 5 [(0, .ref a0), (1, .int x1)] → b_X12_absent_153 N S g a0 x1 sa0 sx1 sx2 = some (rv, g1) → W p l e R s m args below meth c H locs 0 0 (MQ below (Qcx D cA lo S (some (.int rv)) S g1 True) args s 0 0 (fun q : Nat => lo ≤ q)) (F0 m 153 ls [.int sx2, .int sx1, .ref sa0]) := by
  intro H locs ls g a0 x1 sa0 sx1 sx2 M ra0 rsa0 hl q
  unfold b_X12_absent_153 at q
  replace q := ck_s q
  obtain ⟨hin, q⟩ := q
  refine x_iast hx hb hX M rsa0 (inb_in hin) dX12_absent_153 (fun H locs M => ?_)
  replace q := gen_g M q
  obtain ⟨g_1, -, M, q⟩ := q
  refine lv_aload_n hx hb dX12_absent_154 rfl (lv_at hl 0 rfl) ?_
  replace q := nn_s q
  obtain ⟨a_2, e_a_2, q⟩ := q
  refine x_getR hx hb hown hX M e_a_2 okX12 ra0 (by decide) rfl kw_1021 dX12_absent_155 (fun ra_2 => ?_)
  refine lv_bipush (v := 8) hx hb dX12_absent_158 (by decide) ?_
  refine lv_iload_n hx hb dX12_absent_160 rfl (lv_at hl 1 rfl) ?_
  refine lv_imul hx hb dX12_absent_161 ?_
  refine lv_iconst (v := 1) hx hb dX12_absent_162 (by decide) ?_
  refine lv_iadd hx hb dX12_absent_163 ?_
  replace q := ck_s q
  obtain ⟨hin, q⟩ := q
  refine x_iald hx hb hX M ra_2 (inb_in hin) dX12_absent_164 ?_
  cases q
  exact x_iret hx hb hr hlk M Ext.rf dX12_absent_165
set_option maxHeartbeats 4000000 in
set_option maxRecDepth 100000 in
theorem w_X12_absent_128 (hx : p.tables.exec = Jvm.exec) (hb : c.code = cX12_absent) (hml : c.maxLocals = 5) (hr : meth.sig.returnType = (some .int)) (hlk : meth.locks = false) (hown : s.vm.findClass RX12 = some m.cls) (hX : Kx D cA lo tS s) (hRf : 306 ≤ R.frames) (hRl : 18360 ≤ R.locals) {N : Nat} {rv : Int32} {g1 : Hg} {S : Hs} : ∀ (H : Heap) (locs : List Loc) (ls : Array Slot) (g : Hg) (a0 : Nat) (x1 : Int32) (sa0 : Nat) (sx1 : Int32) (sx2 : Int32), Mm D cA lo S g s H locs → Rf lo S a0 12 → Rf lo S sa0 20 → lv_has ls 5 [(0, .ref a0), (1, .int x1)] → b_X12_absent_128 N S g a0 x1 sa0 sx1 sx2 = some (rv, g1) → W p l e R s m args below meth c H locs 0 0 (MQ below (Qcx D cA lo S (some (.int rv)) S g1 True) args s 0 0 (fun q : Nat => lo ≤ q)) (F0 m 128 ls [.int sx2, .int sx1, .ref sa0]) := by
  intro H locs ls g a0 x1 sa0 sx1 sx2 M ra0 rsa0 hl q
  unfold b_X12_absent_128 at q
  replace q := ck_s q
  obtain ⟨hin, q⟩ := q
  refine x_iast hx hb hX M rsa0 (inb_in hin) dX12_absent_128 (fun H locs M => ?_)
  replace q := gen_g M q
  obtain ⟨g_1, -, M, q⟩ := q
  refine lv_aload_n hx hb dX12_absent_129 rfl (lv_at hl 0 rfl) ?_
  replace q := nn_s q
  obtain ⟨a_2, e_a_2, q⟩ := q
  refine x_getR hx hb hown hX M e_a_2 okX12 ra0 (by decide) rfl kw_1021 dX12_absent_130 (fun ra_2 => ?_)
  refine lv_bipush (v := 8) hx hb dX12_absent_133 (by decide) ?_
  refine lv_iload_n hx hb dX12_absent_135 rfl (lv_at hl 1 rfl) ?_
  refine lv_imul hx hb dX12_absent_136 ?_
  refine lv_bipush (v := 7) hx hb dX12_absent_137 (by decide) ?_
  refine lv_iadd hx hb dX12_absent_139 ?_
  refine lv_aload_n hx hb dX12_absent_140 rfl (lv_at hl 0 rfl) ?_
  refine x_getI hx hb hown hX M (k := 62) okX12 ra0 (by decide) rfl kw_1074 dX12_absent_141 ?_
  refine lv_iconst (v := -1) hx hb dX12_absent_144 (by decide) ?_
  refine lv_icmp_ne (tgt := 152) hx hb dX12_absent_145 (by decide) (fun c_3 => ?_) (fun c_3 => ?_)
  · replace q := if_f c_3 q
    refine lv_iconst (v := 1) hx hb dX12_absent_152 (by decide) ?_
    exact w_X12_absent_153 hx hb hml hr hlk hown hX hRf hRl (N := N)  _ _ _ _ _ _ _ _ _ M ra0 ra_2 (lv_sub hl [0, 1] rfl) q
  · replace q := if_t c_3 q
    refine lv_iconst (v := 0) hx hb dX12_absent_148 (by decide) ?_
    refine lv_goto (tgt := 153) hx hb dX12_absent_149 (by decide) ?_
    exact w_X12_absent_153 hx hb hml hr hlk hown hX hRf hRl (N := N)  _ _ _ _ _ _ _ _ _ M ra0 ra_2 (lv_sub hl [0, 1] rfl) q
set_option maxHeartbeats 4000000 in
set_option maxRecDepth 100000 in
theorem w_X12_absent_95 (hx : p.tables.exec = Jvm.exec) (hb : c.code = cX12_absent) (hml : c.maxLocals = 5) (hr : meth.sig.returnType = (some .int)) (hlk : meth.locks = false) (hown : s.vm.findClass RX12 = some m.cls) (hX : Kx D cA lo tS s) (hRf : 306 ≤ R.frames) (hRl : 18360 ≤ R.locals) {N : Nat} {rv : Int32} {g1 : Hg} {S : Hs} : ∀ (H : Heap) (locs : List Loc) (ls : Array Slot) (g : Hg) (a0 : Nat) (x1 : Int32) (sa0 : Nat) (sx1 : Int32) (sx2 : Int32), Mm D cA lo S g s H locs → Rf lo S a0 12 → Rf lo S sa0 20 → lv_has ls 5 [(0, .ref a0), (1, .int x1)] → b_X12_absent_95 N S g a0 x1 sa0 sx1 sx2 = some (rv, g1) → W p l e R s m args below meth c H locs 0 0 (MQ below (Qcx D cA lo S (some (.int rv)) S g1 True) args s 0 0 (fun q : Nat => lo ≤ q)) (F0 m 95 ls [.int sx2, .int sx1, .ref sa0]) := by
  intro H locs ls g a0 x1 sa0 sx1 sx2 M ra0 rsa0 hl q
  unfold b_X12_absent_95 at q
  replace q := ck_s q
  obtain ⟨hin, q⟩ := q
  refine x_iast hx hb hX M rsa0 (inb_in hin) dX12_absent_95 (fun H locs M => ?_)
  replace q := gen_g M q
  obtain ⟨g_1, -, M, q⟩ := q
  refine lv_aload_n hx hb dX12_absent_96 rfl (lv_at hl 0 rfl) ?_
  replace q := nn_s q
  obtain ⟨a_2, e_a_2, q⟩ := q
  refine x_getR hx hb hown hX M e_a_2 okX12 ra0 (by decide) rfl kw_1021 dX12_absent_97 (fun ra_2 => ?_)
  refine lv_bipush (v := 8) hx hb dX12_absent_100 (by decide) ?_
  refine lv_iload_n hx hb dX12_absent_102 rfl (lv_at hl 1 rfl) ?_
  refine lv_imul hx hb dX12_absent_103 ?_
  refine lv_bipush (v := 6) hx hb dX12_absent_104 (by decide) ?_
  refine lv_iadd hx hb dX12_absent_106 ?_
  refine lv_aload_n hx hb dX12_absent_107 rfl (lv_at hl 0 rfl) ?_
  refine x_getI hx hb hown hX M (k := 62) okX12 ra0 (by decide) rfl kw_1074 dX12_absent_108 ?_
  refine lv_iconst (v := -1) hx hb dX12_absent_111 (by decide) ?_
  refine lv_icmp_ne (tgt := 119) hx hb dX12_absent_112 (by decide) (fun c_3 => ?_) (fun c_3 => ?_)
  · replace q := if_f c_3 q
    refine lv_aload_n hx hb dX12_absent_119 rfl (lv_at hl 0 rfl) ?_
    replace q := nn_s q
    obtain ⟨a_4, e_a_4, q⟩ := q
    refine x_getR hx hb hown hX M e_a_4 okX12 ra0 (by decide) rfl kw_1064 dX12_absent_120 (fun ra_4 => ?_)
    refine lv_aload_n hx hb dX12_absent_123 rfl (lv_at hl 0 rfl) ?_
    refine x_getI hx hb hown hX M (k := 62) okX12 ra0 (by decide) rfl kw_1074 dX12_absent_124 ?_
    replace q := ck_s q
    obtain ⟨hin, q⟩ := q
    refine x_iald hx hb hX M ra_4 (inb_in hin) dX12_absent_127 ?_
    exact w_X12_absent_128 hx hb hml hr hlk hown hX hRf hRl (N := N)  _ _ _ _ _ _ _ _ _ M ra0 ra_2 (lv_sub hl [0, 1] rfl) q
  · replace q := if_t c_3 q
    refine lv_iconst (v := 0) hx hb dX12_absent_115 (by decide) ?_
    refine lv_goto (tgt := 128) hx hb dX12_absent_116 (by decide) ?_
    exact w_X12_absent_128 hx hb hml hr hlk hown hX hRf hRl (N := N)  _ _ _ _ _ _ _ _ _ M ra0 ra_2 (lv_sub hl [0, 1] rfl) q
set_option maxHeartbeats 4000000 in
set_option maxRecDepth 100000 in
theorem w_X12_absent_0 (hx : p.tables.exec = Jvm.exec) (hb : c.code = cX12_absent) (hml : c.maxLocals = 5) (hr : meth.sig.returnType = (some .int)) (hlk : meth.locks = false) (hown : s.vm.findClass RX12 = some m.cls) (hX : Kx D cA lo tS s) (hRf : 306 ≤ R.frames) (hRl : 18360 ≤ R.locals) {N : Nat} {rv : Int32} {g1 : Hg} {S : Hs} : ∀ (H : Heap) (locs : List Loc) (ls : Array Slot) (g : Hg) (a0 : Nat) (x1 : Int32) (x2 : Int32) (x3 : Int32) (x4 : Int32), Mm D cA lo S g s H locs → Rf lo S a0 12 → lv_has ls 5 [(0, .ref a0), (1, .int x1), (2, .int x2), (3, .int x3), (4, .int x4)] → b_X12_absent_0 N S g a0 x1 x2 x3 x4 = some (rv, g1) → W p l e R s m args below meth c H locs 0 0 (MQ below (Qcx D cA lo S (some (.int rv)) S g1 True) args s 0 0 (fun q : Nat => lo ≤ q)) (F0 m 0 ls []) := by
  intro H locs ls g a0 x1 x2 x3 x4 M ra0 hl q
  unfold b_X12_absent_0 at q
  refine lv_aload_n hx hb dX12_absent_0 rfl (lv_at hl 0 rfl) ?_
  refine lv_iload_n hx hb dX12_absent_1 rfl (lv_at hl 1 rfl) ?_
  replace q := c2_s q
  obtain ⟨x_2, g_1, qc, q⟩ := q
  refine x_callV hx hb hml hl.1 hown hX M (S1 := S) (As := [.int x1]) (rest := []) okX12 ra0 rfl kw_1357 kw_37 mok_X12_isSlot (c_X12_isSlot ra0 qc (Nat.le_refl 1)) kw_1355 rfl rfl dX12_absent_2 (Nat.le_of_ble_eq_true rfl) ⟨Nat.le_trans (by decide) hRf, Nat.le_trans (by decide) hRl⟩ (Nat.zero_le _) (Nat.zero_le _) (fun H locs M hEF => ?_)
  refine lv_if_eq (tgt := 17) hx hb dX12_absent_5 (by decide) (fun c_3 => ?_) (fun c_3 => ?_)
  · replace q := if_t c_3 q
    refine lv_iconst (v := -1) hx hb dX12_absent_17 (by decide) ?_
    cases q
    exact x_iret hx hb hr hlk M Ext.rf dX12_absent_18
  · replace q := if_f c_3 q
    refine lv_aload_n hx hb dX12_absent_8 rfl (lv_at hl 0 rfl) ?_
    refine lv_iload_n hx hb dX12_absent_9 rfl (lv_at hl 2 rfl) ?_
    refine lv_iload_n hx hb dX12_absent_10 rfl (lv_at hl 3 rfl) ?_
    replace q := c2_s q
    obtain ⟨x_5, g_4, qc, q⟩ := q
    refine x_callV hx hb hml hl.1 hown hX M (S1 := S) (As := [.int x2, .int x3]) (rest := []) okX12 ra0 rfl kw_1233 kw_16 mok_X12_isCount (c_X12_isCount ra0 qc (Nat.le_refl 2)) kw_1231 rfl rfl dX12_absent_11 (Nat.le_of_ble_eq_true rfl) ⟨Nat.le_trans (by decide) hRf, Nat.le_trans (by decide) hRl⟩ (Nat.zero_le _) (Nat.zero_le _) (fun H locs M hEF => ?_)
    refine lv_if_ne (tgt := 19) hx hb dX12_absent_14 (by decide) (fun c_6 => ?_) (fun c_6 => ?_)
    · replace q := if_f c_6 q
      refine lv_aload_n hx hb dX12_absent_19 rfl (lv_at hl 0 rfl) ?_
      refine lv_iload_n hx hb dX12_absent_20 rfl (lv_at hl 2 rfl) ?_
      refine lv_iload_n hx hb dX12_absent_21 rfl (lv_at hl 3 rfl) ?_
      replace q := c2_s q
      obtain ⟨u_8, g_7, qc, q⟩ := q
      refine x_callV hx hb hml hl.1 hown hX M (S1 := S) (As := [.int x2, .int x3]) (rest := []) okX12 ra0 rfl kw_1265 kw_19 mok_X12_map (c_X12_map ra0 qc (Nat.le_refl 4)) kw_1263 rfl rfl dX12_absent_22 (Nat.le_of_ble_eq_true rfl) ⟨Nat.le_trans (by decide) hRf, Nat.le_trans (by decide) hRl⟩ (Nat.zero_le _) (Nat.zero_le _) (fun H locs M hEF => ?_)
      refine lv_aload_n hx hb dX12_absent_25 rfl (lv_at hl 0 rfl) ?_
      refine lv_iload hx hb dX12_absent_26 (lv_at hl 4 rfl) ?_
      replace q := c2_s q
      obtain ⟨x_10, g_9, qc, q⟩ := q
      refine x_callV hx hb hml hl.1 hown hX M (S1 := S) (As := [.int x4]) (rest := []) okX12 ra0 rfl kw_1273 kw_21 mok_X12_find (c_X12_find ra0 qc (Nat.le_refl 1)) kw_1271 rfl rfl dX12_absent_28 (Nat.le_of_ble_eq_true rfl) ⟨Nat.le_trans (by decide) hRf, Nat.le_trans (by decide) hRl⟩ (Nat.zero_le _) (Nat.zero_le _) (fun H locs M hEF => ?_)
      refine lv_iconst (v := -1) hx hb dX12_absent_31 (by decide) ?_
      refine lv_icmp_eq (tgt := 37) hx hb dX12_absent_32 (by decide) (fun c_11 => ?_) (fun c_11 => ?_)
      · replace q := if_t c_11 q
        refine lv_aload_n hx hb dX12_absent_37 rfl (lv_at hl 0 rfl) ?_
        refine lv_iload_n hx hb dX12_absent_38 rfl (lv_at hl 1 rfl) ?_
        refine lv_iconst (v := 4) hx hb dX12_absent_39 (by decide) ?_
        refine lv_iload_n hx hb dX12_absent_40 rfl (lv_at hl 3 rfl) ?_
        refine lv_iconst (v := 0) hx hb dX12_absent_41 (by decide) ?_
        refine lv_iconst (v := 0) hx hb dX12_absent_42 (by decide) ?_
        replace q := c2_s q
        obtain ⟨u_13, g_12, qc, q⟩ := q
        refine x_callV hx hb hml hl.1 hown hX M (S1 := S) (As := [.int x1, .int (4 : Int32), .int x3, .int (0 : Int32), .int (0 : Int32)]) (rest := []) okX12 ra0 rfl kw_1361 kw_38 mok_X12_begin (c_X12_begin ra0 qc (Nat.le_refl 1)) kw_1359 rfl rfl dX12_absent_43 (Nat.le_of_ble_eq_true rfl) ⟨Nat.le_trans (by decide) hRf, Nat.le_trans (by decide) hRl⟩ (Nat.zero_le _) (Nat.zero_le _) (fun H locs M hEF => ?_)
        refine lv_aload_n hx hb dX12_absent_46 rfl (lv_at hl 0 rfl) ?_
        replace q := nn_s q
        obtain ⟨a_14, e_a_14, q⟩ := q
        refine x_getR hx hb hown hX M e_a_14 okX12 ra0 (by decide) rfl kw_1022 dX12_absent_47 (fun ra_14 => ?_)
        refine lv_bipush (v := 40) hx hb dX12_absent_50 (by decide) ?_
        refine lv_iload_n hx hb dX12_absent_52 rfl (lv_at hl 1 rfl) ?_
        refine lv_imul hx hb dX12_absent_53 ?_
        refine lv_iload hx hb dX12_absent_54 (lv_at hl 4 rfl) ?_
        replace q := ck_s q
        obtain ⟨hin, q⟩ := q
        refine x_iast hx hb hX M ra_14 (inb_in hin) dX12_absent_56 (fun H locs M => ?_)
        replace q := gen_g M q
        obtain ⟨g_15, -, M, q⟩ := q
        refine lv_aload_n hx hb dX12_absent_57 rfl (lv_at hl 0 rfl) ?_
        refine lv_iload_n hx hb dX12_absent_58 rfl (lv_at hl 1 rfl) ?_
        refine lv_iload hx hb dX12_absent_59 (lv_at hl 4 rfl) ?_
        replace q := c2_s q
        obtain ⟨u_17, g_16, qc, q⟩ := q
        refine x_callV hx hb hml hl.1 hown hX M (S1 := S) (As := [.int x1, .int x4]) (rest := []) okX12 ra0 rfl kw_1381 kw_41 mok_X12_follow (c_X12_follow ra0 qc (Nat.le_refl 305)) kw_1379 rfl rfl dX12_absent_61 (Nat.le_of_ble_eq_true rfl) ⟨Nat.le_trans (by decide) hRf, Nat.le_trans (by decide) hRl⟩ (Nat.zero_le _) (Nat.zero_le _) (fun H locs M hEF => ?_)
        refine lv_aload_n hx hb dX12_absent_64 rfl (lv_at hl 0 rfl) ?_
        replace q := nn_s q
        obtain ⟨a_18, e_a_18, q⟩ := q
        refine x_getR hx hb hown hX M e_a_18 okX12 ra0 (by decide) rfl kw_1021 dX12_absent_65 (fun ra_18 => ?_)
        refine lv_bipush (v := 8) hx hb dX12_absent_68 (by decide) ?_
        refine lv_iload_n hx hb dX12_absent_70 rfl (lv_at hl 1 rfl) ?_
        refine lv_imul hx hb dX12_absent_71 ?_
        refine lv_iconst (v := 5) hx hb dX12_absent_72 (by decide) ?_
        refine lv_iadd hx hb dX12_absent_73 ?_
        refine lv_aload_n hx hb dX12_absent_74 rfl (lv_at hl 0 rfl) ?_
        refine x_getI hx hb hown hX M (k := 62) okX12 ra0 (by decide) rfl kw_1074 dX12_absent_75 ?_
        refine lv_iconst (v := -1) hx hb dX12_absent_78 (by decide) ?_
        refine lv_icmp_ne (tgt := 86) hx hb dX12_absent_79 (by decide) (fun c_19 => ?_) (fun c_19 => ?_)
        · replace q := if_f c_19 q
          refine lv_aload_n hx hb dX12_absent_86 rfl (lv_at hl 0 rfl) ?_
          replace q := nn_s q
          obtain ⟨a_20, e_a_20, q⟩ := q
          refine x_getR hx hb hown hX M e_a_20 okX12 ra0 (by decide) rfl kw_1065 dX12_absent_87 (fun ra_20 => ?_)
          refine lv_aload_n hx hb dX12_absent_90 rfl (lv_at hl 0 rfl) ?_
          refine x_getI hx hb hown hX M (k := 62) okX12 ra0 (by decide) rfl kw_1074 dX12_absent_91 ?_
          replace q := ck_s q
          obtain ⟨hin, q⟩ := q
          refine x_iald hx hb hX M ra_20 (inb_in hin) dX12_absent_94 ?_
          exact w_X12_absent_95 hx hb hml hr hlk hown hX hRf hRl (N := N)  _ _ _ _ _ _ _ _ _ M ra0 ra_18 (lv_sub hl [0, 1] rfl) q
        · replace q := if_t c_19 q
          refine lv_iconst (v := -1) hx hb dX12_absent_82 (by decide) ?_
          refine lv_goto (tgt := 95) hx hb dX12_absent_83 (by decide) ?_
          exact w_X12_absent_95 hx hb hml hr hlk hown hX hRf hRl (N := N)  _ _ _ _ _ _ _ _ _ M ra0 ra_18 (lv_sub hl [0, 1] rfl) q
      · replace q := if_f c_11 q
        refine lv_iconst (v := -1) hx hb dX12_absent_35 (by decide) ?_
        cases q
        exact x_iret hx hb hr hlk M Ext.rf dX12_absent_36
    · replace q := if_t c_6 q
      refine lv_iconst (v := -1) hx hb dX12_absent_17 (by decide) ?_
      cases q
      exact x_iret hx hb hr hlk M Ext.rf dX12_absent_18
set_option maxRecDepth 100000 in
theorem c_X12_absent {l : Launch} {D : va_G} {cA : Nat → ClassId} {lo tS N : Nat} {S : Hs} {g g1 : Hg} {rv : Int32} {a0 : Nat} {x1 : Int32} {x2 : Int32} {x3 : Int32} {x4 : Int32} (ra0 : Rf lo S a0 12) (q : f_X12_absent N S g a0 x1 x2 x3 x4 = some (rv, g1)) {d : Nat} (hd : 306 ≤ d) : Ctr l yX12_absent cX12_absent 5 (some .int) D cA lo tS [.ref a0, .int x1, .int x2, .int x3, .int x4] S g d (some (.int rv)) S g1 True 0 0 := by
  refine x_met (by decide) (Nat.le_of_ble_eq_true rfl) ?_
  intro p e s m below meth c ls hx hb hml hr hlk hown hnm hX M hl
  exact w_X12_absent_0 hx hb hml hr hlk hown hX hd (Nat.mul_le_mul_left 60 hd) (N := N) _ _ _ _ _ _ _ _ _ M ra0 (lv_sub hl [0, 1, 2, 3, 4] rfl) q
end W12
