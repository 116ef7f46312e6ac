section W19
variable {p : Program} {l : Launch} {e : Env} {R : Room} {s : State} {m : MethodId} {args : Array Value} {below : List Frame} {meth : Method} {c : Code} {D : va_G} {cA : Nat → ClassId} {lo tS : Nat}
def b_X12_agree_113 (N : Nat) (S : Hs) (g : Hg) (a0 : Nat) (a6 : Nat) (x7 : Int32) (a8 : Nat) (sx0 : Int32) : Option (Int32 × Hg) :=
nm (wrI g a0 49 (0 : Int32)) (fun g_1 =>
ck (inb (sx0 + (1 : Int32)) (hpL S a8)) (
ck (inb x7 (hpL S a6)) (
c2 (f_X12_layLog N S g_1 a0 (rdI g_1 a8 (sx0 + (1 : Int32)).toNatClampNeg) (0 : Int32) (rdI g_1 a6 x7.toNatClampNeg)) (fun u_3 g_2 =>
nn (rdR g_2 a0 65) (fun a_4 =>
c2 (f_X12_top N S g_2 a0 a_4 (0 : Int32)) (fun u_6 g_5 =>
nn (rdR g_5 a0 65) (fun a_7 =>
c2 (f_X12_areLike N S g_5 a_7 (0 : Int32) a6 (x7 + (4 : Int32))) (fun x_9 g_8 =>
if x_9 = 0 then (
some ((0 : Int32), g_8)) else (
ck (inb (sx0 + (1 : Int32)) (hpL S a8)) (
ck (inb x7 (hpL S a6)) (
ck (inb sx0 (hpL S a8)) (
c2 (f_X12_layLog N S g_8 a0 (rdI g_8 a8 (sx0 + (1 : Int32)).toNatClampNeg) (rdI g_8 a6 x7.toNatClampNeg) (rdI g_8 a8 sx0.toNatClampNeg)) (fun u_12 g_11 =>
nn (rdR g_11 a0 65) (fun a_13 =>
c2 (f_X12_top N S g_11 a0 a_13 (0 : Int32)) (fun u_15 g_14 =>
nn (rdR g_14 a0 65) (fun a_16 =>
c2 (f_X12_areLike N S g_14 a_16 (0 : Int32) a8 (sx0 + (4 : Int32))) (fun x_18 g_17 =>
ck (zb x_18) (
some (x_18, g_17)))))))))))))))))))
def b_X12_agree_100 (N : Nat) (S : Hs) (g : Hg) (a0 : Nat) (x2 : Int32) (x4 : Int32) (x5 : Int32) (a6 : Nat) (x7 : Int32) (sa0 : Nat) : Option (Int32 × Hg) :=
if x5 = 0 then (
b_X12_agree_113 N S g a0 a6 x7 sa0 x2) else (
b_X12_agree_113 N S g a0 a6 x7 sa0 x4)
def b_X12_agree_88 (N : Nat) (S : Hs) (g : Hg) (a0 : Nat) (a1 : Nat) (x2 : Int32) (a3 : Nat) (x4 : Int32) (x5 : Int32) (a6 : Nat) (sx0 : Int32) : Option (Int32 × Hg) :=
if x5 = 0 then (
b_X12_agree_100 N S g a0 x2 x4 x5 a6 sx0 a1) else (
b_X12_agree_100 N S g a0 x2 x4 x5 a6 sx0 a3)
def b_X12_agree_75 (N : Nat) (S : Hs) (g : Hg) (a0 : Nat) (a1 : Nat) (x2 : Int32) (a3 : Nat) (x4 : Int32) (x5 : Int32) (sa0 : Nat) : Option (Int32 × Hg) :=
if x5 = 0 then (
b_X12_agree_88 N S g a0 a1 x2 a3 x4 x5 sa0 x4) else (
b_X12_agree_88 N S g a0 a1 x2 a3 x4 x5 sa0 x2)
def b_X12_agree_63 (N : Nat) (S : Hs) (g : Hg) (a0 : Nat) (a1 : Nat) (x2 : Int32) (a3 : Nat) (x4 : Int32) (sx0 : Int32) : Option (Int32 × Hg) :=
if sx0 = 0 then (
b_X12_agree_75 N S g a0 a1 x2 a3 x4 sx0 a3) else (
b_X12_agree_75 N S g a0 a1 x2 a3 x4 sx0 a1)
def b_X12_agree_0 (N : Nat) (S : Hs) (g : Hg) (a0 : Nat) (a1 : Nat) (x2 : Int32) (a3 : Nat) (x4 : Int32) : Option (Int32 × Hg) :=
ck (inb x2 (hpL S a1)) (
ck (inb x4 (hpL S a3)) (
if (rdI g a1 x2.toNatClampNeg) = (rdI g a3 x4.toNatClampNeg) then (
c2 (f_X12_areLike N S g a1 (x2 + (4 : Int32)) a3 (x4 + (4 : Int32))) (fun x_4 g_3 =>
if x_4 = 0 then (
some ((0 : Int32), g_3)) else (
c2 (f_X12_areLike N S g_3 a1 (x2 + (12 : Int32)) a3 (x4 + (12 : Int32))) (fun x_7 g_6 =>
if x_7 = 0 then (
some ((0 : Int32), g_6)) else (
some ((1 : Int32), g_6)))))) else (
ck (inb x2 (hpL S a1)) (
ck (inb x4 (hpL S a3)) (
if (rdI g a3 x4.toNatClampNeg) ≤ (rdI g a1 x2.toNatClampNeg) then (
b_X12_agree_63 N S g a0 a1 x2 a3 x4 (0 : Int32)) else (
b_X12_agree_63 N S g a0 a1 x2 a3 x4 (1 : Int32)))))))
def f_X12_agree (N : Nat) (S : Hs) (g : Hg) (a0 : Nat) (a1 : Nat) (x2 : Int32) (a3 : Nat) (x4 : Int32) : Option (Int32 × Hg) := b_X12_agree_0 N S g a0 a1 x2 a3 x4
set_option maxHeartbeats 4000000 in
set_option maxRecDepth 100000 in
theorem w_X12_agree_113 (hx : p.tables.exec = Jvm.exec) (hb : c.code = cX12_agree) (hml : c.maxLocals = 10) (hr : meth.sig.returnType = (some .boolean)) (hlk : meth.locks = false) (hown : s.vm.findClass RX12 = some m.cls) (hX : Kx D cA lo tS s) (hRf : 306 ≤ R.frames) (hRl : 18360 ≤ R.locals) {N : Nat} {rv : Int32} {g1 : Hg} {S : Hs} : ∀ (H : Heap) (locs : List Loc) (ls : Array Slot) (g : Hg) (a0 : Nat) (a6 : Nat) (x7 : Int32) (a8 : Nat) (sx0 : Int32), Mm D cA lo S g s H locs → Rf lo S a0 12 → Rf lo S a6 20 → Rf lo S a8 20 → lv_has ls 10 [(0, .ref a0), (6, .ref a6), (7, .int x7), (8, .ref a8)] → b_X12_agree_113 N S g a0 a6 x7 a8 sx0 = some (rv, g1) → W p l e R s m args below meth c H locs 0 0 (MQ below (Qcx D cA lo S (some (.int rv)) S g1 True) args s 0 0 (fun q : Nat => lo ≤ q)) (F0 m 113 ls [.int sx0]) := by
  intro H locs ls g a0 a6 x7 a8 sx0 M ra0 ra6 ra8 hl q
  unfold b_X12_agree_113 at q
  refine lv_istore (lv' := [(9, .int sx0), (0, .ref a0), (6, .ref a6), (7, .int x7), (8, .ref a8)]) hx hb dX12_agree_113 hl (by decide) rfl (fun ls hl => ?_)
  refine lv_aload_n hx hb dX12_agree_115 rfl (lv_at hl 1 rfl) ?_
  refine lv_iconst (v := 0) hx hb dX12_agree_116 (by decide) ?_
  refine x_putI hx hb hown hX M (k := 49) okX12 ra0 (by decide) rfl (Or.inl rfl) rfl rfl kw_1061 dX12_agree_117 (fun H locs M => ?_)
  replace q := gen_g M q
  obtain ⟨g_1, -, M, q⟩ := q
  refine lv_aload_n hx hb dX12_agree_120 rfl (lv_at hl 1 rfl) ?_
  refine lv_aload hx hb dX12_agree_121 (lv_at hl 4 rfl) ?_
  refine lv_iload hx hb dX12_agree_123 (lv_at hl 0 rfl) ?_
  refine lv_iconst (v := 1) hx hb dX12_agree_125 (by decide) ?_
  refine lv_iadd hx hb dX12_agree_126 ?_
  replace q := ck_s q
  obtain ⟨hin, q⟩ := q
  refine x_iald hx hb hX M ra8 (inb_in hin) dX12_agree_127 ?_
  refine lv_iconst (v := 0) hx hb dX12_agree_128 (by decide) ?_
  refine lv_aload hx hb dX12_agree_129 (lv_at hl 2 rfl) ?_
  refine lv_iload hx hb dX12_agree_131 (lv_at hl 3 rfl) ?_
  replace q := ck_s q
  obtain ⟨hin, q⟩ := q
  refine x_iald hx hb hX M ra6 (inb_in hin) dX12_agree_133 ?_
  replace q := c2_s q
  obtain ⟨u_3, g_2, qc, q⟩ := q
  refine x_callV hx hb hml hl.1 hown hX M (S1 := S) (As := [.int (rdI g_1 a8 (sx0 + (1 : Int32)).toNatClampNeg), .int (0 : Int32), .int (rdI g_1 a6 x7.toNatClampNeg)]) (rest := []) okX12 ra0 rfl kw_1306 kw_27 mok_X12_layLog (c_X12_layLog ra0 qc (Nat.le_refl 305)) kw_1304 rfl rfl dX12_agree_134 (Nat.le_of_ble_eq_true rfl) ⟨Nat.le_trans (by decide) hRf, Nat.le_trans (by decide) hRl⟩ (Nat.zero_le _) (Nat.zero_le _) (fun H locs M hEF => ?_)
  refine lv_aload_n hx hb dX12_agree_137 rfl (lv_at hl 1 rfl) ?_
  refine lv_aload_n hx hb dX12_agree_138 rfl (lv_at hl 1 rfl) ?_
  replace q := nn_s q
  obtain ⟨a_4, e_a_4, q⟩ := q
  refine x_getR hx hb hown hX M e_a_4 okX12 ra0 (by decide) rfl kw_1077 dX12_agree_139 (fun ra_4 => ?_)
  refine lv_iconst (v := 0) hx hb dX12_agree_142 (by decide) ?_
  replace q := c2_s q
  obtain ⟨u_6, g_5, qc, q⟩ := q
  refine x_callV hx hb hml hl.1 hown hX M (S1 := S) (As := [.ref a_4, .int (0 : Int32)]) (rest := []) okX12 ra0 rfl kw_1329 kw_32 mok_X12_top (c_X12_top ra0 ra_4 qc (Nat.le_refl 4)) kw_1327 rfl rfl dX12_agree_143 (Nat.le_of_ble_eq_true rfl) ⟨Nat.le_trans (by decide) hRf, Nat.le_trans (by decide) hRl⟩ (Nat.zero_le _) (Nat.zero_le _) (fun H locs M hEF => ?_)
  refine lv_aload_n hx hb dX12_agree_146 rfl (lv_at hl 1 rfl) ?_
  replace q := nn_s q
  obtain ⟨a_7, e_a_7, q⟩ := q
  refine x_getR hx hb hown hX M e_a_7 okX12 ra0 (by decide) rfl kw_1077 dX12_agree_147 (fun ra_7 => ?_)
  refine lv_iconst (v := 0) hx hb dX12_agree_150 (by decide) ?_
  refine lv_aload hx hb dX12_agree_151 (lv_at hl 2 rfl) ?_
  refine lv_iload hx hb dX12_agree_153 (lv_at hl 3 rfl) ?_
  refine lv_iconst (v := 4) hx hb dX12_agree_155 (by decide) ?_
  refine lv_iadd hx hb dX12_agree_156 ?_
  replace q := c2_s q
  obtain ⟨x_9, g_8, qc, q⟩ := q
  refine x_callS hx hb hml hl.1 hown hX M (S1 := S) (As := [.ref a_7, .int (0 : Int32), .ref a6, .int (x7 + (4 : Int32))]) (rest := []) kw_1432 mok_X12_areLike (c_X12_areLike ra_7 ra6 qc (Nat.le_refl 1)) kw_1431 rfl rfl dX12_agree_157 (Nat.le_of_ble_eq_true rfl) ⟨Nat.le_trans (by decide) hRf, Nat.le_trans (by decide) hRl⟩ (Nat.zero_le _) (Nat.zero_le _) (fun H locs M hEF => ?_)
  refine lv_if_ne (tgt := 165) hx hb dX12_agree_160 (by decide) (fun c_10 => ?_) (fun c_10 => ?_)
  · replace q := if_f c_10 q
    refine lv_aload_n hx hb dX12_agree_165 rfl (lv_at hl 1 rfl) ?_
    refine lv_aload hx hb dX12_agree_166 (lv_at hl 4 rfl) ?_
    refine lv_iload hx hb dX12_agree_168 (lv_at hl 0 rfl) ?_
    refine lv_iconst (v := 1) hx hb dX12_agree_170 (by decide) ?_
    refine lv_iadd hx hb dX12_agree_171 ?_
    replace q := ck_s q
    obtain ⟨hin, q⟩ := q
    refine x_iald hx hb hX M ra8 (inb_in hin) dX12_agree_172 ?_
    refine lv_aload hx hb dX12_agree_173 (lv_at hl 2 rfl) ?_
    refine lv_iload hx hb dX12_agree_175 (lv_at hl 3 rfl) ?_
    replace q := ck_s q
    obtain ⟨hin, q⟩ := q
    refine x_iald hx hb hX M ra6 (inb_in hin) dX12_agree_177 ?_
    refine lv_aload hx hb dX12_agree_178 (lv_at hl 4 rfl) ?_
    refine lv_iload hx hb dX12_agree_180 (lv_at hl 0 rfl) ?_
    replace q := ck_s q
    obtain ⟨hin, q⟩ := q
    refine x_iald hx hb hX M ra8 (inb_in hin) dX12_agree_182 ?_
    replace q := c2_s q
    obtain ⟨u_12, g_11, qc, q⟩ := q
    refine x_callV hx hb hml hl.1 hown hX M (S1 := S) (As := [.int (rdI g_8 a8 (sx0 + (1 : Int32)).toNatClampNeg), .int (rdI g_8 a6 x7.toNatClampNeg), .int (rdI g_8 a8 sx0.toNatClampNeg)]) (rest := []) okX12 ra0 rfl kw_1306 kw_27 mok_X12_layLog (c_X12_layLog ra0 qc (Nat.le_refl 305)) kw_1304 rfl rfl dX12_agree_183 (Nat.le_of_ble_eq_true rfl) ⟨Nat.le_trans (by decide) hRf, Nat.le_trans (by decide) hRl⟩ (Nat.zero_le _) (Nat.zero_le _) (fun H locs M hEF => ?_)
    refine lv_aload_n hx hb dX12_agree_186 rfl (lv_at hl 1 rfl) ?_
    refine lv_aload_n hx hb dX12_agree_187 rfl (lv_at hl 1 rfl) ?_
    replace q := nn_s q
    obtain ⟨a_13, e_a_13, q⟩ := q
    refine x_getR hx hb hown hX M e_a_13 okX12 ra0 (by decide) rfl kw_1077 dX12_agree_188 (fun ra_13 => ?_)
    refine lv_iconst (v := 0) hx hb dX12_agree_191 (by decide) ?_
    replace q := c2_s q
    obtain ⟨u_15, g_14, qc, q⟩ := q
    refine x_callV hx hb hml hl.1 hown hX M (S1 := S) (As := [.ref a_13, .int (0 : Int32)]) (rest := []) okX12 ra0 rfl kw_1329 kw_32 mok_X12_top (c_X12_top ra0 ra_13 qc (Nat.le_refl 4)) kw_1327 rfl rfl dX12_agree_192 (Nat.le_of_ble_eq_true rfl) ⟨Nat.le_trans (by decide) hRf, Nat.le_trans (by decide) hRl⟩ (Nat.zero_le _) (Nat.zero_le _) (fun H locs M hEF => ?_)
    refine lv_aload_n hx hb dX12_agree_195 rfl (lv_at hl 1 rfl) ?_
    replace q := nn_s q
    obtain ⟨a_16, e_a_16, q⟩ := q
    refine x_getR hx hb hown hX M e_a_16 okX12 ra0 (by decide) rfl kw_1077 dX12_agree_196 (fun ra_16 => ?_)
    refine lv_iconst (v := 0) hx hb dX12_agree_199 (by decide) ?_
    refine lv_aload hx hb dX12_agree_200 (lv_at hl 4 rfl) ?_
    refine lv_iload hx hb dX12_agree_202 (lv_at hl 0 rfl) ?_
    refine lv_iconst (v := 4) hx hb dX12_agree_204 (by decide) ?_
    refine lv_iadd hx hb dX12_agree_205 ?_
    replace q := c2_s q
    obtain ⟨x_18, g_17, qc, q⟩ := q
    refine x_callS hx hb hml hl.1 hown hX M (S1 := S) (As := [.ref a_16, .int (0 : Int32), .ref a8, .int (sx0 + (4 : Int32))]) (rest := []) kw_1432 mok_X12_areLike (c_X12_areLike ra_16 ra8 qc (Nat.le_refl 1)) kw_1431 rfl rfl dX12_agree_206 (Nat.le_of_ble_eq_true rfl) ⟨Nat.le_trans (by decide) hRf, Nat.le_trans (by decide) hRl⟩ (Nat.zero_le _) (Nat.zero_le _) (fun H locs M hEF => ?_)
    replace q := ck_s q
    obtain ⟨hz, q⟩ := q
    cases q
    exact x_zret hx hb hr hlk (zb_nar hz) M Ext.rf dX12_agree_209
  · replace q := if_t c_10 q
    refine lv_iconst (v := 0) hx hb dX12_agree_163 (by decide) ?_
    cases q
    exact x_zret hx hb hr hlk rfl M Ext.rf dX12_agree_164
set_option maxHeartbeats 4000000 in
set_option maxRecDepth 100000 in
theorem w_X12_agree_100 (hx : p.tables.exec = Jvm.exec) (hb : c.code = cX12_agree) (hml : c.maxLocals = 10) (hr : meth.sig.returnType = (some .boolean)) (hlk : meth.locks = false) (hown : s.vm.findClass RX12 = some m.cls) (hX : Kx D cA lo tS s) (hRf : 306 ≤ R.frames) (hRl : 18360 ≤ R.locals) {N : Nat} {rv : Int32} {g1 : Hg} {S : Hs} : ∀ (H : Heap) (locs : List Loc) (ls : Array Slot) (g : Hg) (a0 : Nat) (x2 : Int32) (x4 : Int32) (x5 : Int32) (a6 : Nat) (x7 : Int32) (sa0 : Nat), Mm D cA lo S g s H locs → Rf lo S a0 12 → Rf lo S a6 20 → Rf lo S sa0 20 → lv_has ls 10 [(0, .ref a0), (2, .int x2), (4, .int x4), (5, .int x5), (6, .ref a6), (7, .int x7)] → b_X12_agree_100 N S g a0 x2 x4 x5 a6 x7 sa0 = some (rv, g1) → W p l e R s m args below meth c H locs 0 0 (MQ below (Qcx D cA lo S (some (.int rv)) S g1 True) args s 0 0 (fun q : Nat => lo ≤ q)) (F0 m 100 ls [.ref sa0]) := by
  intro H locs ls g a0 x2 x4 x5 a6 x7 sa0 M ra0 ra6 rsa0 hl q
  unfold b_X12_agree_100 at q
  refine lv_astore (lv' := [(8, .ref sa0), (0, .ref a0), (2, .int x2), (4, .int x4), (5, .int x5), (6, .ref a6), (7, .int x7)]) hx hb dX12_agree_100 hl (by decide) rfl (fun ls hl => ?_)
  refine lv_iload hx hb dX12_agree_102 (lv_at hl 4 rfl) ?_
  refine lv_if_eq (tgt := 112) hx hb dX12_agree_104 (by decide) (fun c_1 => ?_) (fun c_1 => ?_)
  · replace q := if_t c_1 q
    refine lv_iload_n hx hb dX12_agree_112 rfl (lv_at hl 2 rfl) ?_
    exact w_X12_agree_113 hx hb hml hr hlk hown hX hRf hRl (N := N)  _ _ _ _ _ _ _ _ _ M ra0 ra6 rsa0 (lv_sub hl [1, 5, 6, 0] rfl) q
  · replace q := if_f c_1 q
    refine lv_iload hx hb dX12_agree_107 (lv_at hl 3 rfl) ?_
    refine lv_goto (tgt := 113) hx hb dX12_agree_109 (by decide) ?_
    exact w_X12_agree_113 hx hb hml hr hlk hown hX hRf hRl (N := N)  _ _ _ _ _ _ _ _ _ M ra0 ra6 rsa0 (lv_sub hl [1, 5, 6, 0] rfl) q
set_option maxHeartbeats 4000000 in
set_option maxRecDepth 100000 in
theorem w_X12_agree_88 (hx : p.tables.exec = Jvm.exec) (hb : c.code = cX12_agree) (hml : c.maxLocals = 10) (hr : meth.sig.returnType = (some .boolean)) (hlk : meth.locks = false) (hown : s.vm.findClass RX12 = some m.cls) (hX : Kx D cA lo tS s) (hRf : 306 ≤ R.frames) (hRl : 18360 ≤ R.locals) {N : Nat} {rv : Int32} {g1 : Hg} {S : Hs} : ∀ (H : Heap) (locs : List Loc) (ls : Array Slot) (g : Hg) (a0 : Nat) (a1 : Nat) (x2 : Int32) (a3 : Nat) (x4 : Int32) (x5 : Int32) (a6 : Nat) (sx0 : Int32), Mm D cA lo S g s H locs → Rf lo S a0 12 → Rf lo S a1 20 → Rf lo S a3 20 → Rf lo S a6 20 → lv_has ls 10 [(0, .ref a0), (1, .ref a1), (2, .int x2), (3, .ref a3), (4, .int x4), (5, .int x5), (6, .ref a6)] → b_X12_agree_88 N S g a0 a1 x2 a3 x4 x5 a6 sx0 = some (rv, g1) → W p l e R s m args below meth c H locs 0 0 (MQ below (Qcx D cA lo S (some (.int rv)) S g1 True) args s 0 0 (fun q : Nat => lo ≤ q)) (F0 m 88 ls [.int sx0]) := by
  intro H locs ls g a0 a1 x2 a3 x4 x5 a6 sx0 M ra0 ra1 ra3 ra6 hl q
  unfold b_X12_agree_88 at q
  refine lv_istore (lv' := [(7, .int sx0), (0, .ref a0), (1, .ref a1), (2, .int x2), (3, .ref a3), (4, .int x4), (5, .int x5), (6, .ref a6)]) hx hb dX12_agree_88 hl (by decide) rfl (fun ls hl => ?_)
  refine lv_iload hx hb dX12_agree_90 (lv_at hl 6 rfl) ?_
  refine lv_if_eq (tgt := 99) hx hb dX12_agree_92 (by decide) (fun c_1 => ?_) (fun c_1 => ?_)
  · replace q := if_t c_1 q
    refine lv_aload_n hx hb dX12_agree_99 rfl (lv_at hl 2 rfl) ?_
    exact w_X12_agree_100 hx hb hml hr hlk hown hX hRf hRl (N := N)  _ _ _ _ _ _ _ _ _ _ _ M ra0 ra6 ra1 (lv_sub hl [1, 3, 5, 6, 7, 0] rfl) q
  · replace q := if_f c_1 q
    refine lv_aload_n hx hb dX12_agree_95 rfl (lv_at hl 4 rfl) ?_
    refine lv_goto (tgt := 100) hx hb dX12_agree_96 (by decide) ?_
    exact w_X12_agree_100 hx hb hml hr hlk hown hX hRf hRl (N := N)  _ _ _ _ _ _ _ _ _ _ _ M ra0 ra6 ra3 (lv_sub hl [1, 3, 5, 6, 7, 0] rfl) q
set_option maxHeartbeats 4000000 in
set_option maxRecDepth 100000 in
theorem w_X12_agree_75 (hx : p.tables.exec = Jvm.exec) (hb : c.code = cX12_agree) (hml : c.maxLocals = 10) (hr : meth.sig.returnType = (some .boolean)) (hlk : meth.locks = false) (hown : s.vm.findClass RX12 = some m.cls) (hX : Kx D cA lo tS s) (hRf : 306 ≤ R.frames) (hRl : 18360 ≤ R.locals) {N : Nat} {rv : Int32} {g1 : Hg} {S : Hs} : ∀ (H : Heap) (locs : List Loc) (ls : Array Slot) (g : Hg) (a0 : Nat) (a1 : Nat) (x2 : Int32) (a3 : Nat) (x4 : Int32) (x5 : Int32) (sa0 : Nat), Mm D cA lo S g s H locs → Rf lo S a0 12 → Rf lo S a1 20 → Rf lo S a3 20 → Rf lo S sa0 20 → lv_has ls 10 [(0, .ref a0), (1, .ref a1), (2, .int x2), (3, .ref a3), (4, .int x4), (5, .int x5)] → b_X12_agree_75 N S g a0 a1 x2 a3 x4 x5 sa0 = some (rv, g1) → W p l e R s m args below meth c H locs 0 0 (MQ below (Qcx D cA lo S (some (.int rv)) S g1 True) args s 0 0 (fun q : Nat => lo ≤ q)) (F0 m 75 ls [.ref sa0]) := by
  intro H locs ls g a0 a1 x2 a3 x4 x5 sa0 M ra0 ra1 ra3 rsa0 hl q
  unfold b_X12_agree_75 at q
  refine lv_astore (lv' := [(6, .ref sa0), (0, .ref a0), (1, .ref a1), (2, .int x2), (3, .ref a3), (4, .int x4), (5, .int x5)]) hx hb dX12_agree_75 hl (by decide) rfl (fun ls hl => ?_)
  refine lv_iload hx hb dX12_agree_77 (lv_at hl 6 rfl) ?_
  refine lv_if_eq (tgt := 86) hx hb dX12_agree_79 (by decide) (fun c_1 => ?_) (fun c_1 => ?_)
  · replace q := if_t c_1 q
    refine lv_iload hx hb dX12_agree_86 (lv_at hl 5 rfl) ?_
    exact w_X12_agree_88 hx hb hml hr hlk hown hX hRf hRl (N := N)  _ _ _ _ _ _ _ _ _ _ _ _ M ra0 ra1 ra3 rsa0 (lv_sub hl [1, 2, 3, 4, 5, 6, 0] rfl) q
  · replace q := if_f c_1 q
    refine lv_iload_n hx hb dX12_agree_82 rfl (lv_at hl 3 rfl) ?_
    refine lv_goto (tgt := 88) hx hb dX12_agree_83 (by decide) ?_
    exact w_X12_agree_88 hx hb hml hr hlk hown hX hRf hRl (N := N)  _ _ _ _ _ _ _ _ _ _ _ _ M ra0 ra1 ra3 rsa0 (lv_sub hl [1, 2, 3, 4, 5, 6, 0] rfl) q
set_option maxHeartbeats 4000000 in
set_option maxRecDepth 100000 in
theorem w_X12_agree_63 (hx : p.tables.exec = Jvm.exec) (hb : c.code = cX12_agree) (hml : c.maxLocals = 10) (hr : meth.sig.returnType = (some .boolean)) (hlk : meth.locks = false) (hown : s.vm.findClass RX12 = some m.cls) (hX : Kx D cA lo tS s) (hRf : 306 ≤ R.frames) (hRl : 18360 ≤ R.locals) {N : Nat} {rv : Int32} {g1 : Hg} {S : Hs} : ∀ (H : Heap) (locs : List Loc) (ls : Array Slot) (g : Hg) (a0 : Nat) (a1 : Nat) (x2 : Int32) (a3 : Nat) (x4 : Int32) (sx0 : Int32), Mm D cA lo S g s H locs → Rf lo S a0 12 → Rf lo S a1 20 → Rf lo S a3 20 → lv_has ls 10 [(0, .ref a0), (1, .ref a1), (2, .int x2), (3, .ref a3), (4, .int x4)] → b_X12_agree_63 N S g a0 a1 x2 a3 x4 sx0 = some (rv, g1) → W p l e R s m args below meth c H locs 0 0 (MQ below (Qcx D cA lo S (some (.int rv)) S g1 True) args s 0 0 (fun q : Nat => lo ≤ q)) (F0 m 63 ls [.int sx0]) := by
  intro H locs ls g a0 a1 x2 a3 x4 sx0 M ra0 ra1 ra3 hl q
  unfold b_X12_agree_63 at q
  refine lv_istore (lv' := [(5, .int sx0), (0, .ref a0), (1, .ref a1), (2, .int x2), (3, .ref a3), (4, .int x4)]) hx hb dX12_agree_63 hl (by decide) rfl (fun ls hl => ?_)
  refine lv_iload hx hb dX12_agree_65 (lv_at hl 0 rfl) ?_
  refine lv_if_eq (tgt := 74) hx hb dX12_agree_67 (by decide) (fun c_1 => ?_) (fun c_1 => ?_)
  · replace q := if_t c_1 q
    refine lv_aload_n hx hb dX12_agree_74 rfl (lv_at hl 4 rfl) ?_
    exact w_X12_agree_75 hx hb hml hr hlk hown hX hRf hRl (N := N)  _ _ _ _ _ _ _ _ _ _ _ M ra0 ra1 ra3 ra3 (lv_sub hl [1, 2, 3, 4, 5, 0] rfl) q
  · replace q := if_f c_1 q
    refine lv_aload_n hx hb dX12_agree_70 rfl (lv_at hl 2 rfl) ?_
    refine lv_goto (tgt := 75) hx hb dX12_agree_71 (by decide) ?_
    exact w_X12_agree_75 hx hb hml hr hlk hown hX hRf hRl (N := N)  _ _ _ _ _ _ _ _ _ _ _ M ra0 ra1 ra3 ra1 (lv_sub hl [1, 2, 3, 4, 5, 0] rfl) q
set_option maxHeartbeats 4000000 in
set_option maxRecDepth 100000 in
theorem w_X12_agree_0 (hx : p.tables.exec = Jvm.exec) (hb : c.code = cX12_agree) (hml : c.maxLocals = 10) (hr : meth.sig.returnType = (some .boolean)) (hlk : meth.locks = false) (hown : s.vm.findClass RX12 = some m.cls) (hX : Kx D cA lo tS s) (hRf : 306 ≤ R.frames) (hRl : 18360 ≤ R.locals) {N : Nat} {rv : Int32} {g1 : Hg} {S : Hs} : ∀ (H : Heap) (locs : List Loc) (ls : Array Slot) (g : Hg) (a0 : Nat) (a1 : Nat) (x2 : Int32) (a3 : Nat) (x4 : Int32), Mm D cA lo S g s H locs → Rf lo S a0 12 → Rf lo S a1 20 → Rf lo S a3 20 → lv_has ls 10 [(0, .ref a0), (1, .ref a1), (2, .int x2), (3, .ref a3), (4, .int x4)] → b_X12_agree_0 N S g a0 a1 x2 a3 x4 = some (rv, g1) → W p l e R s m args below meth c H locs 0 0 (MQ below (Qcx D cA lo S (some (.int rv)) S g1 True) args s 0 0 (fun q : Nat => lo ≤ q)) (F0 m 0 ls []) := by
  intro H locs ls g a0 a1 x2 a3 x4 M ra0 ra1 ra3 hl q
  unfold b_X12_agree_0 at q
  refine lv_aload_n hx hb dX12_agree_0 rfl (lv_at hl 1 rfl) ?_
  refine lv_iload_n hx hb dX12_agree_1 rfl (lv_at hl 2 rfl) ?_
  replace q := ck_s q
  obtain ⟨hin, q⟩ := q
  refine x_iald hx hb hX M ra1 (inb_in hin) dX12_agree_2 ?_
  refine lv_aload_n hx hb dX12_agree_3 rfl (lv_at hl 3 rfl) ?_
  refine lv_iload hx hb dX12_agree_4 (lv_at hl 4 rfl) ?_
  replace q := ck_s q
  obtain ⟨hin, q⟩ := q
  refine x_iald hx hb hX M ra3 (inb_in hin) dX12_agree_6 ?_
  refine lv_icmp_ne (tgt := 48) hx hb dX12_agree_7 (by decide) (fun c_1 => ?_) (fun c_1 => ?_)
  · replace q := if_f c_1 q
    refine lv_aload_n hx hb dX12_agree_48 rfl (lv_at hl 1 rfl) ?_
    refine lv_iload_n hx hb dX12_agree_49 rfl (lv_at hl 2 rfl) ?_
    replace q := ck_s q
    obtain ⟨hin, q⟩ := q
    refine x_iald hx hb hX M ra1 (inb_in hin) dX12_agree_50 ?_
    refine lv_aload_n hx hb dX12_agree_51 rfl (lv_at hl 3 rfl) ?_
    refine lv_iload hx hb dX12_agree_52 (lv_at hl 4 rfl) ?_
    replace q := ck_s q
    obtain ⟨hin, q⟩ := q
    refine x_iald hx hb hX M ra3 (inb_in hin) dX12_agree_54 ?_
    refine lv_icmp_ge (tgt := 62) hx hb dX12_agree_55 (by decide) (fun c_2 => ?_) (fun c_2 => ?_)
    · replace q := if_t c_2 q
      refine lv_iconst (v := 0) hx hb dX12_agree_62 (by decide) ?_
      exact w_X12_agree_63 hx hb hml hr hlk hown hX hRf hRl (N := N)  _ _ _ _ _ _ _ _ _ _ M ra0 ra1 ra3 (lv_sub hl [0, 1, 2, 3, 4] rfl) q
    · replace q := if_f c_2 q
      refine lv_iconst (v := 1) hx hb dX12_agree_58 (by decide) ?_
      refine lv_goto (tgt := 63) hx hb dX12_agree_59 (by decide) ?_
      exact w_X12_agree_63 hx hb hml hr hlk hown hX hRf hRl (N := N)  _ _ _ _ _ _ _ _ _ _ M ra0 ra1 ra3 (lv_sub hl [0, 1, 2, 3, 4] rfl) q
  · replace q := if_t c_1 q
    refine lv_aload_n hx hb dX12_agree_10 rfl (lv_at hl 1 rfl) ?_
    refine lv_iload_n hx hb dX12_agree_11 rfl (lv_at hl 2 rfl) ?_
    refine lv_iconst (v := 4) hx hb dX12_agree_12 (by decide) ?_
    refine lv_iadd hx hb dX12_agree_13 ?_
    refine lv_aload_n hx hb dX12_agree_14 rfl (lv_at hl 3 rfl) ?_
    refine lv_iload hx hb dX12_agree_15 (lv_at hl 4 rfl) ?_
    refine lv_iconst (v := 4) hx hb dX12_agree_17 (by decide) ?_
    refine lv_iadd hx hb dX12_agree_18 ?_
    replace q := c2_s q
    obtain ⟨x_4, g_3, qc, q⟩ := q
    refine x_callS hx hb hml hl.1 hown hX M (S1 := S) (As := [.ref a1, .int (x2 + (4 : Int32)), .ref a3, .int (x4 + (4 : Int32))]) (rest := []) kw_1432 mok_X12_areLike (c_X12_areLike ra1 ra3 qc (Nat.le_refl 1)) kw_1431 rfl rfl dX12_agree_19 (Nat.le_of_ble_eq_true rfl) ⟨Nat.le_trans (by decide) hRf, Nat.le_trans (by decide) hRl⟩ (Nat.zero_le _) (Nat.zero_le _) (fun H locs M hEF => ?_)
    refine lv_if_eq (tgt := 46) hx hb dX12_agree_22 (by decide) (fun c_5 => ?_) (fun c_5 => ?_)
    · replace q := if_t c_5 q
      refine lv_iconst (v := 0) hx hb dX12_agree_46 (by decide) ?_
      cases q
      exact x_zret hx hb hr hlk rfl M Ext.rf dX12_agree_47
    · replace q := if_f c_5 q
      refine lv_aload_n hx hb dX12_agree_25 rfl (lv_at hl 1 rfl) ?_
      refine lv_iload_n hx hb dX12_agree_26 rfl (lv_at hl 2 rfl) ?_
      refine lv_bipush (v := 12) hx hb dX12_agree_27 (by decide) ?_
      refine lv_iadd hx hb dX12_agree_29 ?_
      refine lv_aload_n hx hb dX12_agree_30 rfl (lv_at hl 3 rfl) ?_
      refine lv_iload hx hb dX12_agree_31 (lv_at hl 4 rfl) ?_
      refine lv_bipush (v := 12) hx hb dX12_agree_33 (by decide) ?_
      refine lv_iadd hx hb dX12_agree_35 ?_
      replace q := c2_s q
      obtain ⟨x_7, g_6, qc, q⟩ := q
      refine x_callS hx hb hml hl.1 hown hX M (S1 := S) (As := [.ref a1, .int (x2 + (12 : Int32)), .ref a3, .int (x4 + (12 : Int32))]) (rest := []) kw_1432 mok_X12_areLike (c_X12_areLike ra1 ra3 qc (Nat.le_refl 1)) kw_1431 rfl rfl dX12_agree_36 (Nat.le_of_ble_eq_true rfl) ⟨Nat.le_trans (by decide) hRf, Nat.le_trans (by decide) hRl⟩ (Nat.zero_le _) (Nat.zero_le _) (fun H locs M hEF => ?_)
      refine lv_if_eq (tgt := 46) hx hb dX12_agree_39 (by decide) (fun c_8 => ?_) (fun c_8 => ?_)
      · replace q := if_t c_8 q
        refine lv_iconst (v := 0) hx hb dX12_agree_46 (by decide) ?_
        cases q
        exact x_zret hx hb hr hlk rfl M Ext.rf dX12_agree_47
      · replace q := if_f c_8 q
        refine lv_iconst (v := 1) hx hb dX12_agree_42 (by decide) ?_
        refine lv_goto (tgt := 47) hx hb dX12_agree_43 (by decide) ?_
        cases q
        exact x_zret hx hb hr hlk rfl M Ext.rf dX12_agree_47
set_option maxRecDepth 100000 in
theorem c_X12_agree {l : Launch} {D : va_G} {cA : Nat → ClassId} {lo tS N : Nat} {S : Hs} {g g1 : Hg} {rv : Int32} {a0 : Nat} {a1 : Nat} {x2 : Int32} {a3 : Nat} {x4 : Int32} (ra0 : Rf lo S a0 12) (ra1 : Rf lo S a1 20) (ra3 : Rf lo S a3 20) (q : f_X12_agree N S g a0 a1 x2 a3 x4 = some (rv, g1)) {d : Nat} (hd : 306 ≤ d) : Ctr l yX12_agree cX12_agree 10 (some .boolean) D cA lo tS [.ref a0, .ref a1, .int x2, .ref a3, .int x4] S g d (some (.int rv)) S g1 True 0 0 := by
  refine x_met (by decide) (Nat.le_of_ble_eq_true rfl) ?_
  intro p e s m below meth c ls hx hb hml hr hlk hown hnm hX M hl
  exact w_X12_agree_0 hx hb hml hr hlk hown hX hd (Nat.mul_le_mul_left 60 hd) (N := N) _ _ _ _ _ _ _ _ _ M ra0 ra1 ra3 (lv_sub hl [0, 1, 2, 3, 4] rfl) q
def b_X12_copy_21 (N : Nat) (S : Hs) (k3 : Hg → Nat → Int32 → Nat → Int32 → Int32 → Int32 → Option (Unit × Hg)) (g : Hg) (a0 : Nat) (x1 : Int32) (a2 : Nat) (x3 : Int32) (x4 : Int32) (x5 : Int32) : Option (Unit × Hg) :=
ck (inb (x1 + x5) (hpL S a0)) (
ck (inb (x3 + x5) (hpL S a2)) (
nm (wrI g a2 (x3 + x5).toNatClampNeg (rdI g a0 (x1 + x5).toNatClampNeg)) (fun g_1 =>
nm (x5 + 1) (fun x_2 =>
k3 g_1 a0 x1 a2 x3 x4 x_2))))
def b_X12_copy_3 (N : Nat) (S : Hs) (k3 : Hg → Nat → Int32 → Nat → Int32 → Int32 → Int32 → Option (Unit × Hg)) (g : Hg) (a0 : Nat) (x1 : Int32) (a2 : Nat) (x3 : Int32) (x4 : Int32) (x5 : Int32) : Option (Unit × Hg) :=
if (28 : Int32) ≤ x5 then (
some ((), g)) else (
if x4 = 0 then (
if x5 = (3 : Int32) then (
nm (x5 + 1) (fun x_4 =>
k3 g a0 x1 a2 x3 x4 x_4)) else (
b_X12_copy_21 N S k3 g a0 x1 a2 x3 x4 x5)) else (
b_X12_copy_21 N S k3 g a0 x1 a2 x3 x4 x5))
def n_X12_copy_3 (N : Nat) (S : Hs) : Nat → Hg → Nat → Int32 → Nat → Int32 → Int32 → Int32 → Option (Unit × Hg)
  | 0 => fun _ _ _ _ _ _ _ => none
  | n + 1 => fun g a0 x1 a2 x3 x4 x5 => b_X12_copy_3 N S (n_X12_copy_3 N S n) g a0 x1 a2 x3 x4 x5
def b_X12_copy_0 (N : Nat) (S : Hs) (g : Hg) (a0 : Nat) (x1 : Int32) (a2 : Nat) (x3 : Int32) (x4 : Int32) : Option (Unit × Hg) :=
n_X12_copy_3 N S N g a0 x1 a2 x3 x4 (0 : Int32)
def f_X12_copy (N : Nat) (S : Hs) (g : Hg) (a0 : Nat) (x1 : Int32) (a2 : Nat) (x3 : Int32) (x4 : Int32) : Option (Unit × Hg) := b_X12_copy_0 N S g a0 x1 a2 x3 x4
set_option maxHeartbeats 4000000 in
set_option maxRecDepth 100000 in
theorem w_X12_copy_21 (hx : p.tables.exec = Jvm.exec) (hb : c.code = cX12_copy) (hml : c.maxLocals = 6) (hr : meth.sig.returnType = none) (hlk : meth.locks = false) (hown : s.vm.findClass RX12 = some m.cls) (hX : Kx D cA lo tS s) (hRf : 1 ≤ R.frames) (hRl : 60 ≤ R.locals) {N : Nat} {rv : Unit} {g1 : Hg} {S : Hs} {k3 : Hg → Nat → Int32 → Nat → Int32 → Int32 → Int32 → Option (Unit × Hg)} (hk3 : ∀ (H : Heap) (locs : List Loc) (ls : Array Slot) (g : Hg) (a0 : Nat) (x1 : Int32) (a2 : Nat) (x3 : Int32) (x4 : Int32) (x5 : Int32), Mm D cA lo S g s H locs → Rf lo S a0 20 → Rf lo S a2 20 → lv_has ls 6 [(0, .ref a0), (1, .int x1), (2, .ref a2), (3, .int x3), (4, .int x4), (5, .int x5)] → k3 g a0 x1 a2 x3 x4 x5 = some (rv, g1) → W p l e R s m args below meth c H locs 0 0 (MQ below (Qcx D cA lo S none S g1 True) args s 0 0 (fun q : Nat => lo ≤ q)) (F0 m 3 ls [])) : ∀ (H : Heap) (locs : List Loc) (ls : Array Slot) (g : Hg) (a0 : Nat) (x1 : Int32) (a2 : Nat) (x3 : Int32) (x4 : Int32) (x5 : Int32), Mm D cA lo S g s H locs → Rf lo S a0 20 → Rf lo S a2 20 → lv_has ls 6 [(0, .ref a0), (1, .int x1), (2, .ref a2), (3, .int x3), (4, .int x4), (5, .int x5)] → b_X12_copy_21 N S k3 g a0 x1 a2 x3 x4 x5 = some (rv, g1) → W p l e R s m args below meth c H locs 0 0 (MQ below (Qcx D cA lo S none S g1 True) args s 0 0 (fun q : Nat => lo ≤ q)) (F0 m 21 ls []) := by
  intro H locs ls g a0 x1 a2 x3 x4 x5 M ra0 ra2 hl q
  unfold b_X12_copy_21 at q
  refine lv_aload_n hx hb dX12_copy_21 rfl (lv_at hl 2 rfl) ?_
  refine lv_iload_n hx hb dX12_copy_22 rfl (lv_at hl 3 rfl) ?_
  refine lv_iload hx hb dX12_copy_23 (lv_at hl 5 rfl) ?_
  refine lv_iadd hx hb dX12_copy_25 ?_
  refine lv_aload_n hx hb dX12_copy_26 rfl (lv_at hl 0 rfl) ?_
  refine lv_iload_n hx hb dX12_copy_27 rfl (lv_at hl 1 rfl) ?_
  refine lv_iload hx hb dX12_copy_28 (lv_at hl 5 rfl) ?_
  refine lv_iadd hx hb dX12_copy_30 ?_
  replace q := ck_s q
  obtain ⟨hin, q⟩ := q
  refine x_iald hx hb hX M ra0 (inb_in hin) dX12_copy_31 ?_
  replace q := ck_s q
  obtain ⟨hin, q⟩ := q
  refine x_iast hx hb hX M ra2 (inb_in hin) dX12_copy_32 (fun H locs M => ?_)
  replace q := gen_g M q
  obtain ⟨g_1, -, M, q⟩ := q
  obtain ⟨x_2, e_x_2⟩ : ∃ y : Int32, y = x5 + 1 := ⟨_, rfl⟩
  replace q := nm_s q e_x_2
  refine lv_iinc (v := x_2) (lv' := [(5, .int x_2), (0, .ref a0), (1, .int x1), (2, .ref a2), (3, .int x3), (4, .int x4)]) hx hb dX12_copy_33 hl (k := 5) rfl (by rw [e_x_2]; rfl) (by decide) rfl (fun ls hl => ?_)
  refine lv_goto (tgt := 3) hx hb dX12_copy_36 (by decide) ?_
  exact hk3 _ _ _ _ _ _ _ _ _ _ M ra0 ra2 (lv_sub hl [1, 2, 3, 4, 5, 0] rfl) q
set_option maxHeartbeats 4000000 in
set_option maxRecDepth 100000 in
theorem w_X12_copy_3 (hx : p.tables.exec = Jvm.exec) (hb : c.code = cX12_copy) (hml : c.maxLocals = 6) (hr : meth.sig.returnType = none) (hlk : meth.locks = false) (hown : s.vm.findClass RX12 = some m.cls) (hX : Kx D cA lo tS s) (hRf : 1 ≤ R.frames) (hRl : 60 ≤ R.locals) {N : Nat} {rv : Unit} {g1 : Hg} {S : Hs} {k3 : Hg → Nat → Int32 → Nat → Int32 → Int32 → Int32 → Option (Unit × Hg)} (hk3 : ∀ (H : Heap) (locs : List Loc) (ls : Array Slot) (g : Hg) (a0 : Nat) (x1 : Int32) (a2 : Nat) (x3 : Int32) (x4 : Int32) (x5 : Int32), Mm D cA lo S g s H locs → Rf lo S a0 20 → Rf lo S a2 20 → lv_has ls 6 [(0, .ref a0), (1, .int x1), (2, .ref a2), (3, .int x3), (4, .int x4), (5, .int x5)] → k3 g a0 x1 a2 x3 x4 x5 = some (rv, g1) → W p l e R s m args below meth c H locs 0 0 (MQ below (Qcx D cA lo S none S g1 True) args s 0 0 (fun q : Nat => lo ≤ q)) (F0 m 3 ls [])) : ∀ (H : Heap) (locs : List Loc) (ls : Array Slot) (g : Hg) (a0 : Nat) (x1 : Int32) (a2 : Nat) (x3 : Int32) (x4 : Int32) (x5 : Int32), Mm D cA lo S g s H locs → Rf lo S a0 20 → Rf lo S a2 20 → lv_has ls 6 [(0, .ref a0), (1, .int x1), (2, .ref a2), (3, .int x3), (4, .int x4), (5, .int x5)] → b_X12_copy_3 N S k3 g a0 x1 a2 x3 x4 x5 = some (rv, g1) → W p l e R s m args below meth c H locs 0 0 (MQ below (Qcx D cA lo S none S g1 True) args s 0 0 (fun q : Nat => lo ≤ q)) (F0 m 3 ls []) := by
  intro H locs ls g a0 x1 a2 x3 x4 x5 M ra0 ra2 hl q
  unfold b_X12_copy_3 at q
  refine lv_iload hx hb dX12_copy_3 (lv_at hl 5 rfl) ?_
  refine lv_bipush (v := 28) hx hb dX12_copy_5 (by decide) ?_
  refine lv_icmp_ge (tgt := 39) hx hb dX12_copy_7 (by decide) (fun c_1 => ?_) (fun c_1 => ?_)
  · replace q := if_t c_1 q
    cases q
    exact x_vret hx hb hr hlk M Ext.rf dX12_copy_39
  · replace q := if_f c_1 q
    refine lv_iload hx hb dX12_copy_10 (lv_at hl 4 rfl) ?_
    refine lv_if_ne (tgt := 21) hx hb dX12_copy_12 (by decide) (fun c_2 => ?_) (fun c_2 => ?_)
    · replace q := if_f c_2 q
      exact w_X12_copy_21 hx hb hml hr hlk hown hX hRf hRl (N := N) hk3 _ _ _ _ _ _ _ _ _ _ M ra0 ra2 (lv_sub hl [0, 1, 2, 3, 4, 5] rfl) q
    · replace q := if_t c_2 q
      refine lv_iload hx hb dX12_copy_15 (lv_at hl 5 rfl) ?_
      refine lv_iconst (v := 3) hx hb dX12_copy_17 (by decide) ?_
      refine lv_icmp_eq (tgt := 33) hx hb dX12_copy_18 (by decide) (fun c_3 => ?_) (fun c_3 => ?_)
      · replace q := if_t c_3 q
        obtain ⟨x_4, e_x_4⟩ : ∃ y : Int32, y = x5 + 1 := ⟨_, rfl⟩
        replace q := nm_s q e_x_4
        refine lv_iinc (v := x_4) (lv' := [(5, .int x_4), (0, .ref a0), (1, .int x1), (2, .ref a2), (3, .int x3), (4, .int x4)]) hx hb dX12_copy_33 hl (k := 5) rfl (by rw [e_x_4]; rfl) (by decide) rfl (fun ls hl => ?_)
        refine lv_goto (tgt := 3) hx hb dX12_copy_36 (by decide) ?_
        exact hk3 _ _ _ _ _ _ _ _ _ _ M ra0 ra2 (lv_sub hl [1, 2, 3, 4, 5, 0] rfl) q
      · replace q := if_f c_3 q
        exact w_X12_copy_21 hx hb hml hr hlk hown hX hRf hRl (N := N) hk3 _ _ _ _ _ _ _ _ _ _ M ra0 ra2 (lv_sub hl [0, 1, 2, 3, 4, 5] rfl) q
set_option maxRecDepth 100000 in
theorem l_X12_copy_3 (hx : p.tables.exec = Jvm.exec) (hb : c.code = cX12_copy) (hml : c.maxLocals = 6) (hr : meth.sig.returnType = none) (hlk : meth.locks = false) (hown : s.vm.findClass RX12 = some m.cls) (hX : Kx D cA lo tS s) (hRf : 1 ≤ R.frames) (hRl : 60 ≤ R.locals) {N : Nat} {rv : Unit} {g1 : Hg} {S : Hs} : ∀ (n : Nat), ∀ (H : Heap) (locs : List Loc) (ls : Array Slot) (g : Hg) (a0 : Nat) (x1 : Int32) (a2 : Nat) (x3 : Int32) (x4 : Int32) (x5 : Int32), Mm D cA lo S g s H locs → Rf lo S a0 20 → Rf lo S a2 20 → lv_has ls 6 [(0, .ref a0), (1, .int x1), (2, .ref a2), (3, .int x3), (4, .int x4), (5, .int x5)] → n_X12_copy_3 N S n g a0 x1 a2 x3 x4 x5 = some (rv, g1) → W p l e R s m args below meth c H locs 0 0 (MQ below (Qcx D cA lo S none S g1 True) args s 0 0 (fun q : Nat => lo ≤ q)) (F0 m 3 ls []) := by
  intro n
  induction n with
  | zero =>
    intro H locs ls g a0 x1 a2 x3 x4 x5 M ra0 ra2 hl q
    exact absurd q (by simp [n_X12_copy_3])
  | succ n ih => exact w_X12_copy_3 hx hb hml hr hlk hown hX hRf hRl (N := N)  ih
set_option maxHeartbeats 4000000 in
set_option maxRecDepth 100000 in
theorem w_X12_copy_0 (hx : p.tables.exec = Jvm.exec) (hb : c.code = cX12_copy) (hml : c.maxLocals = 6) (hr : meth.sig.returnType = none) (hlk : meth.locks = false) (hown : s.vm.findClass RX12 = some m.cls) (hX : Kx D cA lo tS s) (hRf : 1 ≤ R.frames) (hRl : 60 ≤ R.locals) {N : Nat} {rv : Unit} {g1 : Hg} {S : Hs} : ∀ (H : Heap) (locs : List Loc) (ls : Array Slot) (g : Hg) (a0 : Nat) (x1 : Int32) (a2 : Nat) (x3 : Int32) (x4 : Int32), Mm D cA lo S g s H locs → Rf lo S a0 20 → Rf lo S a2 20 → lv_has ls 6 [(0, .ref a0), (1, .int x1), (2, .ref a2), (3, .int x3), (4, .int x4)] → b_X12_copy_0 N S g a0 x1 a2 x3 x4 = some (rv, g1) → W p l e R s m args below meth c H locs 0 0 (MQ below (Qcx D cA lo S none S g1 True) args s 0 0 (fun q : Nat => lo ≤ q)) (F0 m 0 ls []) := by
  intro H locs ls g a0 x1 a2 x3 x4 M ra0 ra2 hl q
  unfold b_X12_copy_0 at q
  refine lv_iconst (v := 0) hx hb dX12_copy_0 (by decide) ?_
  refine lv_istore (lv' := [(5, .int (0 : Int32)), (0, .ref a0), (1, .int x1), (2, .ref a2), (3, .int x3), (4, .int x4)]) hx hb dX12_copy_1 hl (by decide) rfl (fun ls hl => ?_)
  exact l_X12_copy_3 hx hb hml hr hlk hown hX hRf hRl (N := N)  N _ _ _ _ _ _ _ _ _ _ M ra0 ra2 (lv_sub hl [1, 2, 3, 4, 5, 0] rfl) q
set_option maxRecDepth 100000 in
theorem c_X12_copy {l : Launch} {D : va_G} {cA : Nat → ClassId} {lo tS N : Nat} {S : Hs} {g g1 : Hg} {rv : Unit} {a0 : Nat} {x1 : Int32} {a2 : Nat} {x3 : Int32} {x4 : Int32} (ra0 : Rf lo S a0 20) (ra2 : Rf lo S a2 20) (q : f_X12_copy N S g a0 x1 a2 x3 x4 = some (rv, g1)) {d : Nat} (hd : 1 ≤ d) : Ctr l yX12_copy cX12_copy 6 none D cA lo tS [.ref a0, .int x1, .ref a2, .int x3, .int x4] S g d none S g1 True 0 0 := by
  refine x_met (by decide) (Nat.le_of_ble_eq_true rfl) ?_
  intro p e s m below meth c ls hx hb hml hr hlk hown hnm hX M hl
  exact w_X12_copy_0 hx hb hml hr hlk hown hX hd (Nat.mul_le_mul_left 60 hd) (N := N) _ _ _ _ _ _ _ _ _ M ra0 ra2 (lv_sub hl [0, 1, 2, 3, 4] rfl) q
def b_X12_blame_0 (N : Nat) (S : Hs) (g : Hg) (a0 : Nat) (a1 : Nat) (x2 : Int32) (a3 : Nat) (x4 : Int32) : Option (Unit × Hg) :=
if (rdI g a0 16) = (60 : Int32) then (
some ((), g)) else (
nn (rdR g a0 15) (fun a_2 =>
c2 (f_X12_copy N S g a1 x2 a_2 ((56 : Int32) * (rdI g a0 16)) (1 : Int32)) (fun u_4 g_3 =>
nn (rdR g_3 a0 15) (fun a_5 =>
c2 (f_X12_copy N S g_3 a3 x4 a_5 (((56 : Int32) * (rdI g_3 a0 16)) + (28 : Int32)) (1 : Int32)) (fun u_7 g_6 =>
nm (wrI g_6 a0 16 ((rdI g_6 a0 16) + (1 : Int32))) (fun g_8 =>
some ((), g_8)))))))
def f_X12_blame (N : Nat) (S : Hs) (g : Hg) (a0 : Nat) (a1 : Nat) (x2 : Int32) (a3 : Nat) (x4 : Int32) : Option (Unit × Hg) := b_X12_blame_0 N S g a0 a1 x2 a3 x4
set_option maxHeartbeats 4000000 in
set_option maxRecDepth 100000 in
theorem w_X12_blame_0 (hx : p.tables.exec = Jvm.exec) (hb : c.code = cX12_blame) (hml : c.maxLocals = 5) (hr : meth.sig.returnType = none) (hlk : meth.locks = false) (hown : s.vm.findClass RX12 = some m.cls) (hX : Kx D cA lo tS s) (hRf : 2 ≤ R.frames) (hRl : 120 ≤ R.locals) {N : Nat} {rv : Unit} {g1 : Hg} {S : Hs} : ∀ (H : Heap) (locs : List Loc) (ls : Array Slot) (g : Hg) (a0 : Nat) (a1 : Nat) (x2 : Int32) (a3 : Nat) (x4 : Int32), Mm D cA lo S g s H locs → Rf lo S a0 12 → Rf lo S a1 20 → Rf lo S a3 20 → lv_has ls 5 [(0, .ref a0), (1, .ref a1), (2, .int x2), (3, .ref a3), (4, .int x4)] → b_X12_blame_0 N S g a0 a1 x2 a3 x4 = some (rv, g1) → W p l e R s m args below meth c H locs 0 0 (MQ below (Qcx D cA lo S none S g1 True) args s 0 0 (fun q : Nat => lo ≤ q)) (F0 m 0 ls []) := by
  intro H locs ls g a0 a1 x2 a3 x4 M ra0 ra1 ra3 hl q
  unfold b_X12_blame_0 at q
  refine lv_aload_n hx hb dX12_blame_0 rfl (lv_at hl 0 rfl) ?_
  refine x_getI hx hb hown hX M (k := 16) okX12 ra0 (by decide) rfl kw_1028 dX12_blame_1 ?_
  refine lv_bipush (v := 60) hx hb dX12_blame_4 (by decide) ?_
  refine lv_icmp_ne (tgt := 10) hx hb dX12_blame_6 (by decide) (fun c_1 => ?_) (fun c_1 => ?_)
  · replace q := if_f c_1 q
    refine lv_aload_n hx hb dX12_blame_10 rfl (lv_at hl 1 rfl) ?_
    refine lv_iload_n hx hb dX12_blame_11 rfl (lv_at hl 2 rfl) ?_
    refine lv_aload_n hx hb dX12_blame_12 rfl (lv_at hl 0 rfl) ?_
    replace q := nn_s q
    obtain ⟨a_2, e_a_2, q⟩ := q
    refine x_getR hx hb hown hX M e_a_2 okX12 ra0 (by decide) rfl kw_1027 dX12_blame_13 (fun ra_2 => ?_)
    refine lv_bipush (v := 56) hx hb dX12_blame_16 (by decide) ?_
    refine lv_aload_n hx hb dX12_blame_18 rfl (lv_at hl 0 rfl) ?_
    refine x_getI hx hb hown hX M (k := 16) okX12 ra0 (by decide) rfl kw_1028 dX12_blame_19 ?_
    refine lv_imul hx hb dX12_blame_22 ?_
    refine lv_iconst (v := 1) hx hb dX12_blame_23 (by decide) ?_
    replace q := c2_s q
    obtain ⟨u_4, g_3, qc, q⟩ := q
    refine x_callS hx hb hml hl.1 hown hX M (S1 := S) (As := [.ref a1, .int x2, .ref a_2, .int ((56 : Int32) * (rdI g a0 16)), .int (1 : Int32)]) (rest := []) kw_1455 mok_X12_copy (c_X12_copy ra1 ra_2 qc (Nat.le_refl 1)) kw_1454 rfl rfl dX12_blame_24 (Nat.le_of_ble_eq_true rfl) ⟨Nat.le_trans (by decide) hRf, Nat.le_trans (by decide) hRl⟩ (Nat.zero_le _) (Nat.zero_le _) (fun H locs M hEF => ?_)
    refine lv_aload_n hx hb dX12_blame_27 rfl (lv_at hl 3 rfl) ?_
    refine lv_iload hx hb dX12_blame_28 (lv_at hl 4 rfl) ?_
    refine lv_aload_n hx hb dX12_blame_30 rfl (lv_at hl 0 rfl) ?_
    replace q := nn_s q
    obtain ⟨a_5, e_a_5, q⟩ := q
    refine x_getR hx hb hown hX M e_a_5 okX12 ra0 (by decide) rfl kw_1027 dX12_blame_31 (fun ra_5 => ?_)
    refine lv_bipush (v := 56) hx hb dX12_blame_34 (by decide) ?_
    refine lv_aload_n hx hb dX12_blame_36 rfl (lv_at hl 0 rfl) ?_
    refine x_getI hx hb hown hX M (k := 16) okX12 ra0 (by decide) rfl kw_1028 dX12_blame_37 ?_
    refine lv_imul hx hb dX12_blame_40 ?_
    refine lv_bipush (v := 28) hx hb dX12_blame_41 (by decide) ?_
    refine lv_iadd hx hb dX12_blame_43 ?_
    refine lv_iconst (v := 1) hx hb dX12_blame_44 (by decide) ?_
    replace q := c2_s q
    obtain ⟨u_7, g_6, qc, q⟩ := q
    refine x_callS hx hb hml hl.1 hown hX M (S1 := S) (As := [.ref a3, .int x4, .ref a_5, .int (((56 : Int32) * (rdI g_3 a0 16)) + (28 : Int32)), .int (1 : Int32)]) (rest := []) kw_1455 mok_X12_copy (c_X12_copy ra3 ra_5 qc (Nat.le_refl 1)) kw_1454 rfl rfl dX12_blame_45 (Nat.le_of_ble_eq_true rfl) ⟨Nat.le_trans (by decide) hRf, Nat.le_trans (by decide) hRl⟩ (Nat.zero_le _) (Nat.zero_le _) (fun H locs M hEF => ?_)
    refine lv_aload_n hx hb dX12_blame_48 rfl (lv_at hl 0 rfl) ?_
    refine lv_dup hx hb dX12_blame_49 rfl ?_
    refine x_getI hx hb hown hX M (k := 16) okX12 ra0 (by decide) rfl kw_1028 dX12_blame_50 ?_
    refine lv_iconst (v := 1) hx hb dX12_blame_53 (by decide) ?_
    refine lv_iadd hx hb dX12_blame_54 ?_
    refine x_putI hx hb hown hX M (k := 16) okX12 ra0 (by decide) rfl (Or.inl rfl) rfl rfl kw_1028 dX12_blame_55 (fun H locs M => ?_)
    replace q := gen_g M q
    obtain ⟨g_8, -, M, q⟩ := q
    cases q
    exact x_vret hx hb hr hlk M Ext.rf dX12_blame_58
  · replace q := if_t c_1 q
    cases q
    exact x_vret hx hb hr hlk M Ext.rf dX12_blame_9
set_option maxRecDepth 100000 in
theorem c_X12_blame {l : Launch} {D : va_G} {cA : Nat → ClassId} {lo tS N : Nat} {S : Hs} {g g1 : Hg} {rv : Unit} {a0 : Nat} {a1 : Nat} {x2 : Int32} {a3 : Nat} {x4 : Int32} (ra0 : Rf lo S a0 12) (ra1 : Rf lo S a1 20) (ra3 : Rf lo S a3 20) (q : f_X12_blame N S g a0 a1 x2 a3 x4 = some (rv, g1)) {d : Nat} (hd : 2 ≤ d) : Ctr l yX12_blame cX12_blame 5 none D cA lo tS [.ref a0, .ref a1, .int x2, .ref a3, .int x4] S g d none S g1 True 0 0 := by
  refine x_met (by decide) (Nat.le_of_ble_eq_true rfl) ?_
  intro p e s m below meth c ls hx hb hml hr hlk hown hnm hX M hl
  exact w_X12_blame_0 hx hb hml hr hlk hown hX hd (Nat.mul_le_mul_left 60 hd) (N := N) _ _ _ _ _ _ _ _ _ M ra0 ra1 ra3 (lv_sub hl [0, 1, 2, 3, 4] rfl) q
def b_X12_take_129 (N : Nat) (S : Hs) (g : Hg) (a0 : Nat) (x1 : Int32) (x4 : Int32) : Option (Int32 × Hg) :=
nn (rdR g a0 59) (fun a_1 =>
nn (rdR g a0 13) (fun a_2 =>
c2 (f_X12_copy N S g a_1 (0 : Int32) a_2 x4 (0 : Int32)) (fun u_4 g_3 =>
nn (rdR g_3 a0 14) (fun a_5 =>
ck (inb x1 (hpL S a_5)) (
nm (wrI g_3 a_5 x1.toNatClampNeg (1 : Int32)) (fun g_6 =>
some ((1 : Int32), g_6)))))))
def b_X12_take_0 (N : Nat) (S : Hs) (g : Hg) (a0 : Nat) (x1 : Int32) (x2 : Int32) (x3 : Int32) : Option (Int32 × Hg) :=
c2 (f_X12_isReader N S g a0 x1) (fun x_2 g_1 =>
if x_2 = 0 then (
some ((-1 : Int32), g_1)) else (
c2 (f_X12_isCount N S g_1 a0 x2 x3) (fun x_5 g_4 =>
if x_5 = 0 then (
some ((-1 : Int32), g_4)) else (
nn (rdR g_4 a0 59) (fun a_7 =>
c2 (f_X12_head N S g_4 a0 x2 x3 a_7 (0 : Int32)) (fun u_9 g_8 =>
nm ((28 : Int32) * x1) (fun x_10 =>
nn (rdR g_8 a0 14) (fun a_11 =>
ck (inb x1 (hpL S a_11)) (
if (rdI g_8 a_11 x1.toNatClampNeg) = 0 then (
b_X12_take_129 N S g_8 a0 x1 x_10) else (
nn (rdR g_8 a0 13) (fun a_13 =>
ck (inb (x_10 + (2 : Int32)) (hpL S a_13)) (
nn (rdR g_8 a0 59) (fun a_14 =>
ck (inb (2 : Int32) (hpL S a_14)) (
if (rdI g_8 a_13 (x_10 + (2 : Int32)).toNatClampNeg) = (rdI g_8 a_14 (2 : Int32).toNatClampNeg) then (
nn (rdR g_8 a0 13) (fun a_16 =>
nn (rdR g_8 a0 59) (fun a_17 =>
c2 (f_X12_agree N S g_8 a0 a_16 x_10 a_17 (0 : Int32)) (fun x_19 g_18 =>
if x_19 = 0 then (
nn (rdR g_18 a0 13) (fun a_24 =>
nn (rdR g_18 a0 59) (fun a_25 =>
c2 (f_X12_blame N S g_18 a0 a_24 x_10 a_25 (0 : Int32)) (fun u_27 g_26 =>
nn (rdR g_26 a0 13) (fun a_28 =>
ck (inb (x_10 + (3 : Int32)) (hpL S a_28)) (
ck (inb (x_10 + (3 : Int32)) (hpL S a_28)) (
nm (wrI g_26 a_28 (x_10 + (3 : Int32)).toNatClampNeg ((rdI g_26 a_28 (x_10 + (3 : Int32)).toNatClampNeg) + (1 : Int32))) (fun g_29 =>
some ((0 : Int32), g_29))))))))) else (
nn (rdR g_18 a0 59) (fun a_21 =>
ck (inb (0 : Int32) (hpL S a_21)) (
nn (rdR g_18 a0 13) (fun a_22 =>
ck (inb x_10 (hpL S a_22)) (
if (rdI g_18 a_22 x_10.toNatClampNeg) < (rdI g_18 a_21 (0 : Int32).toNatClampNeg) then (
b_X12_take_129 N S g_18 a0 x1 x_10) else (
some ((1 : Int32), g_18))))))))))) else (
b_X12_take_129 N S g_8 a0 x1 x_10)))))))))))))))
def f_X12_take (N : Nat) (S : Hs) (g : Hg) (a0 : Nat) (x1 : Int32) (x2 : Int32) (x3 : Int32) : Option (Int32 × Hg) := b_X12_take_0 N S g a0 x1 x2 x3
set_option maxHeartbeats 4000000 in
set_option maxRecDepth 100000 in
theorem w_X12_take_129 (hx : p.tables.exec = Jvm.exec) (hb : c.code = cX12_take) (hml : c.maxLocals = 5) (hr : meth.sig.returnType = (some .int)) (hlk : meth.locks = false) (hown : s.vm.findClass RX12 = some m.cls) (hX : Kx D cA lo tS s) (hRf : 307 ≤ R.frames) (hRl : 18420 ≤ R.locals) {N : Nat} {rv : Int32} {g1 : Hg} {S : Hs} : ∀ (H : Heap) (locs : List Loc) (ls : Array Slot) (g : Hg) (a0 : Nat) (x1 : Int32) (x4 : Int32), Mm D cA lo S g s H locs → Rf lo S a0 12 → lv_has ls 5 [(0, .ref a0), (1, .int x1), (4, .int x4)] → b_X12_take_129 N S g a0 x1 x4 = some (rv, g1) → W p l e R s m args below meth c H locs 0 0 (MQ below (Qcx D cA lo S (some (.int rv)) S g1 True) args s 0 0 (fun q : Nat => lo ≤ q)) (F0 m 129 ls []) := by
  intro H locs ls g a0 x1 x4 M ra0 hl q
  unfold b_X12_take_129 at q
  refine lv_aload_n hx hb dX12_take_129 rfl (lv_at hl 0 rfl) ?_
  replace q := nn_s q
  obtain ⟨a_1, e_a_1, q⟩ := q
  refine x_getR hx hb hown hX M e_a_1 okX12 ra0 (by decide) rfl kw_1071 dX12_take_130 (fun ra_1 => ?_)
  refine lv_iconst (v := 0) hx hb dX12_take_133 (by decide) ?_
  refine lv_aload_n hx hb dX12_take_134 rfl (lv_at hl 0 rfl) ?_
  replace q := nn_s q
  obtain ⟨a_2, e_a_2, q⟩ := q
  refine x_getR hx hb hown hX M e_a_2 okX12 ra0 (by decide) rfl kw_1025 dX12_take_135 (fun ra_2 => ?_)
  refine lv_iload hx hb dX12_take_138 (lv_at hl 2 rfl) ?_
  refine lv_iconst (v := 0) hx hb dX12_take_140 (by decide) ?_
  replace q := c2_s q
  obtain ⟨u_4, g_3, qc, q⟩ := q
  refine x_callS hx hb hml hl.1 hown hX M (S1 := S) (As := [.ref a_1, .int (0 : Int32), .ref a_2, .int x4, .int (0 : Int32)]) (rest := []) kw_1455 mok_X12_copy (c_X12_copy ra_1 ra_2 qc (Nat.le_refl 1)) kw_1454 rfl rfl dX12_take_141 (Nat.le_of_ble_eq_true rfl) ⟨Nat.le_trans (by decide) hRf, Nat.le_trans (by decide) hRl⟩ (Nat.zero_le _) (Nat.zero_le _) (fun H locs M hEF => ?_)
  refine lv_aload_n hx hb dX12_take_144 rfl (lv_at hl 0 rfl) ?_
  replace q := nn_s q
  obtain ⟨a_5, e_a_5, q⟩ := q
  refine x_getR hx hb hown hX M e_a_5 okX12 ra0 (by decide) rfl kw_1026 dX12_take_145 (fun ra_5 => ?_)
  refine lv_iload_n hx hb dX12_take_148 rfl (lv_at hl 1 rfl) ?_
  refine lv_iconst (v := 1) hx hb dX12_take_149 (by decide) ?_
  replace q := ck_s q
  obtain ⟨hin, q⟩ := q
  refine x_zast hx hb hX M ra_5 rfl (inb_in hin) dX12_take_150 (fun H locs M => ?_)
  replace q := gen_g M q
  obtain ⟨g_6, -, M, q⟩ := q
  refine lv_iconst (v := 1) hx hb dX12_take_151 (by decide) ?_
  cases q
  exact x_iret hx hb hr hlk M Ext.rf dX12_take_152
set_option maxHeartbeats 4000000 in
set_option maxRecDepth 100000 in
theorem w_X12_take_0 (hx : p.tables.exec = Jvm.exec) (hb : c.code = cX12_take) (hml : c.maxLocals = 5) (hr : meth.sig.returnType = (some .int)) (hlk : meth.locks = false) (hown : s.vm.findClass RX12 = some m.cls) (hX : Kx D cA lo tS s) (hRf : 307 ≤ R.frames) (hRl : 18420 ≤ R.locals) {N : Nat} {rv : Int32} {g1 : Hg} {S : Hs} : ∀ (H : Heap) (locs : List Loc) (ls : Array Slot) (g : Hg) (a0 : Nat) (x1 : Int32) (x2 : Int32) (x3 : Int32), Mm D cA lo S g s H locs → Rf lo S a0 12 → lv_has ls 5 [(0, .ref a0), (1, .int x1), (2, .int x2), (3, .int x3)] → b_X12_take_0 N S g a0 x1 x2 x3 = some (rv, g1) → W p l e R s m args below meth c H locs 0 0 (MQ below (Qcx D cA lo S (some (.int rv)) S g1 True) args s 0 0 (fun q : Nat => lo ≤ q)) (F0 m 0 ls []) := by
  intro H locs ls g a0 x1 x2 x3 M ra0 hl q
  unfold b_X12_take_0 at q
  refine lv_aload_n hx hb dX12_take_0 rfl (lv_at hl 0 rfl) ?_
  refine lv_iload_n hx hb dX12_take_1 rfl (lv_at hl 1 rfl) ?_
  replace q := c2_s q
  obtain ⟨x_2, g_1, qc, q⟩ := q
  refine x_callV hx hb hml hl.1 hown hX M (S1 := S) (As := [.int x1]) (rest := []) okX12 ra0 rfl kw_1421 kw_43 mok_X12_isReader (c_X12_isReader ra0 qc (Nat.le_refl 1)) kw_1419 rfl rfl dX12_take_2 (Nat.le_of_ble_eq_true rfl) ⟨Nat.le_trans (by decide) hRf, Nat.le_trans (by decide) hRl⟩ (Nat.zero_le _) (Nat.zero_le _) (fun H locs M hEF => ?_)
  refine lv_if_eq (tgt := 17) hx hb dX12_take_5 (by decide) (fun c_3 => ?_) (fun c_3 => ?_)
  · replace q := if_t c_3 q
    refine lv_iconst (v := -1) hx hb dX12_take_17 (by decide) ?_
    cases q
    exact x_iret hx hb hr hlk M Ext.rf dX12_take_18
  · replace q := if_f c_3 q
    refine lv_aload_n hx hb dX12_take_8 rfl (lv_at hl 0 rfl) ?_
    refine lv_iload_n hx hb dX12_take_9 rfl (lv_at hl 2 rfl) ?_
    refine lv_iload_n hx hb dX12_take_10 rfl (lv_at hl 3 rfl) ?_
    replace q := c2_s q
    obtain ⟨x_5, g_4, qc, q⟩ := q
    refine x_callV hx hb hml hl.1 hown hX M (S1 := S) (As := [.int x2, .int x3]) (rest := []) okX12 ra0 rfl kw_1233 kw_16 mok_X12_isCount (c_X12_isCount ra0 qc (Nat.le_refl 2)) kw_1231 rfl rfl dX12_take_11 (Nat.le_of_ble_eq_true rfl) ⟨Nat.le_trans (by decide) hRf, Nat.le_trans (by decide) hRl⟩ (Nat.zero_le _) (Nat.zero_le _) (fun H locs M hEF => ?_)
    refine lv_if_ne (tgt := 19) hx hb dX12_take_14 (by decide) (fun c_6 => ?_) (fun c_6 => ?_)
    · replace q := if_f c_6 q
      refine lv_aload_n hx hb dX12_take_19 rfl (lv_at hl 0 rfl) ?_
      refine lv_iload_n hx hb dX12_take_20 rfl (lv_at hl 2 rfl) ?_
      refine lv_iload_n hx hb dX12_take_21 rfl (lv_at hl 3 rfl) ?_
      refine lv_aload_n hx hb dX12_take_22 rfl (lv_at hl 0 rfl) ?_
      replace q := nn_s q
      obtain ⟨a_7, e_a_7, q⟩ := q
      refine x_getR hx hb hown hX M e_a_7 okX12 ra0 (by decide) rfl kw_1071 dX12_take_23 (fun ra_7 => ?_)
      refine lv_iconst (v := 0) hx hb dX12_take_26 (by decide) ?_
      replace q := c2_s q
      obtain ⟨u_9, g_8, qc, q⟩ := q
      refine x_callV hx hb hml hl.1 hown hX M (S1 := S) (As := [.int x2, .int x3, .ref a_7, .int (0 : Int32)]) (rest := []) okX12 ra0 rfl kw_1302 kw_26 mok_X12_head (c_X12_head ra0 ra_7 qc (Nat.le_refl 306)) kw_1300 rfl rfl dX12_take_27 (Nat.le_of_ble_eq_true rfl) ⟨Nat.le_trans (by decide) hRf, Nat.le_trans (by decide) hRl⟩ (Nat.zero_le _) (Nat.zero_le _) (fun H locs M hEF => ?_)
      refine lv_bipush (v := 28) hx hb dX12_take_30 (by decide) ?_
      refine lv_iload_n hx hb dX12_take_32 rfl (lv_at hl 1 rfl) ?_
      refine lv_imul hx hb dX12_take_33 ?_
      refine lv_topi (fun x_10 e_x_10 => ?_)
      replace q := nm_s q e_x_10
      refine lv_istore (lv' := [(4, .int x_10), (0, .ref a0), (1, .int x1), (2, .int x2), (3, .int x3)]) hx hb dX12_take_34 hl (by decide) rfl (fun ls hl => ?_)
      refine lv_aload_n hx hb dX12_take_36 rfl (lv_at hl 1 rfl) ?_
      replace q := nn_s q
      obtain ⟨a_11, e_a_11, q⟩ := q
      refine x_getR hx hb hown hX M e_a_11 okX12 ra0 (by decide) rfl kw_1026 dX12_take_37 (fun ra_11 => ?_)
      refine lv_iload_n hx hb dX12_take_40 rfl (lv_at hl 2 rfl) ?_
      replace q := ck_s q
      obtain ⟨hin, q⟩ := q
      refine x_zald hx hb hX M ra_11 (inb_in hin) dX12_take_41 ?_
      refine lv_if_eq (tgt := 129) hx hb dX12_take_42 (by decide) (fun c_12 => ?_) (fun c_12 => ?_)
      · replace q := if_t c_12 q
        exact w_X12_take_129 hx hb hml hr hlk hown hX hRf hRl (N := N)  _ _ _ _ _ _ _ M ra0 (lv_sub hl [1, 2, 0] rfl) q
      · replace q := if_f c_12 q
        refine lv_aload_n hx hb dX12_take_45 rfl (lv_at hl 1 rfl) ?_
        replace q := nn_s q
        obtain ⟨a_13, e_a_13, q⟩ := q
        refine x_getR hx hb hown hX M e_a_13 okX12 ra0 (by decide) rfl kw_1025 dX12_take_46 (fun ra_13 => ?_)
        refine lv_iload hx hb dX12_take_49 (lv_at hl 0 rfl) ?_
        refine lv_iconst (v := 2) hx hb dX12_take_51 (by decide) ?_
        refine lv_iadd hx hb dX12_take_52 ?_
        replace q := ck_s q
        obtain ⟨hin, q⟩ := q
        refine x_iald hx hb hX M ra_13 (inb_in hin) dX12_take_53 ?_
        refine lv_aload_n hx hb dX12_take_54 rfl (lv_at hl 1 rfl) ?_
        replace q := nn_s q
        obtain ⟨a_14, e_a_14, q⟩ := q
        refine x_getR hx hb hown hX M e_a_14 okX12 ra0 (by decide) rfl kw_1071 dX12_take_55 (fun ra_14 => ?_)
        refine lv_iconst (v := 2) hx hb dX12_take_58 (by decide) ?_
        replace q := ck_s q
        obtain ⟨hin, q⟩ := q
        refine x_iald hx hb hX M ra_14 (inb_in hin) dX12_take_59 ?_
        refine lv_icmp_ne (tgt := 129) hx hb dX12_take_60 (by decide) (fun c_15 => ?_) (fun c_15 => ?_)
        · replace q := if_f c_15 q
          exact w_X12_take_129 hx hb hml hr hlk hown hX hRf hRl (N := N)  _ _ _ _ _ _ _ M ra0 (lv_sub hl [1, 2, 0] rfl) q
        · replace q := if_t c_15 q
          refine lv_aload_n hx hb dX12_take_63 rfl (lv_at hl 1 rfl) ?_
          refine lv_aload_n hx hb dX12_take_64 rfl (lv_at hl 1 rfl) ?_
          replace q := nn_s q
          obtain ⟨a_16, e_a_16, q⟩ := q
          refine x_getR hx hb hown hX M e_a_16 okX12 ra0 (by decide) rfl kw_1025 dX12_take_65 (fun ra_16 => ?_)
          refine lv_iload hx hb dX12_take_68 (lv_at hl 0 rfl) ?_
          refine lv_aload_n hx hb dX12_take_70 rfl (lv_at hl 1 rfl) ?_
          replace q := nn_s q
          obtain ⟨a_17, e_a_17, q⟩ := q
          refine x_getR hx hb hown hX M e_a_17 okX12 ra0 (by decide) rfl kw_1071 dX12_take_71 (fun ra_17 => ?_)
          refine lv_iconst (v := 0) hx hb dX12_take_74 (by decide) ?_
          replace q := c2_s q
          obtain ⟨x_19, g_18, qc, q⟩ := q
          refine x_callV hx hb hml hl.1 hown hX M (S1 := S) (As := [.ref a_16, .int x_10, .ref a_17, .int (0 : Int32)]) (rest := []) okX12 ra0 rfl kw_1448 kw_48 mok_X12_agree (c_X12_agree ra0 ra_16 ra_17 qc (Nat.le_refl 306)) kw_1446 rfl rfl dX12_take_75 (Nat.le_of_ble_eq_true rfl) ⟨Nat.le_trans (by decide) hRf, Nat.le_trans (by decide) hRl⟩ (Nat.zero_le _) (Nat.zero_le _) (fun H locs M hEF => ?_)
          refine lv_if_ne (tgt := 111) hx hb dX12_take_78 (by decide) (fun c_20 => ?_) (fun c_20 => ?_)
          · replace q := if_f c_20 q
            refine lv_aload_n hx hb dX12_take_111 rfl (lv_at hl 1 rfl) ?_
            replace q := nn_s q
            obtain ⟨a_21, e_a_21, q⟩ := q
            refine x_getR hx hb hown hX M e_a_21 okX12 ra0 (by decide) rfl kw_1071 dX12_take_112 (fun ra_21 => ?_)
            refine lv_iconst (v := 0) hx hb dX12_take_115 (by decide) ?_
            replace q := ck_s q
            obtain ⟨hin, q⟩ := q
            refine x_iald hx hb hX M ra_21 (inb_in hin) dX12_take_116 ?_
            refine lv_aload_n hx hb dX12_take_117 rfl (lv_at hl 1 rfl) ?_
            replace q := nn_s q
            obtain ⟨a_22, e_a_22, q⟩ := q
            refine x_getR hx hb hown hX M e_a_22 okX12 ra0 (by decide) rfl kw_1025 dX12_take_118 (fun ra_22 => ?_)
            refine lv_iload hx hb dX12_take_121 (lv_at hl 0 rfl) ?_
            replace q := ck_s q
            obtain ⟨hin, q⟩ := q
            refine x_iald hx hb hX M ra_22 (inb_in hin) dX12_take_123 ?_
            refine lv_icmp_gt (tgt := 129) hx hb dX12_take_124 (by decide) (fun c_23 => ?_) (fun c_23 => ?_)
            · replace q := if_t c_23 q
              exact w_X12_take_129 hx hb hml hr hlk hown hX hRf hRl (N := N)  _ _ _ _ _ _ _ M ra0 (lv_sub hl [1, 2, 0] rfl) q
            · replace q := if_f c_23 q
              refine lv_iconst (v := 1) hx hb dX12_take_127 (by decide) ?_
              cases q
              exact x_iret hx hb hr hlk M Ext.rf dX12_take_128
          · replace q := if_t c_20 q
            refine lv_aload_n hx hb dX12_take_81 rfl (lv_at hl 1 rfl) ?_
            refine lv_aload_n hx hb dX12_take_82 rfl (lv_at hl 1 rfl) ?_
            replace q := nn_s q
            obtain ⟨a_24, e_a_24, q⟩ := q
            refine x_getR hx hb hown hX M e_a_24 okX12 ra0 (by decide) rfl kw_1025 dX12_take_83 (fun ra_24 => ?_)
            refine lv_iload hx hb dX12_take_86 (lv_at hl 0 rfl) ?_
            refine lv_aload_n hx hb dX12_take_88 rfl (lv_at hl 1 rfl) ?_
            replace q := nn_s q
            obtain ⟨a_25, e_a_25, q⟩ := q
            refine x_getR hx hb hown hX M e_a_25 okX12 ra0 (by decide) rfl kw_1071 dX12_take_89 (fun ra_25 => ?_)
            refine lv_iconst (v := 0) hx hb dX12_take_92 (by decide) ?_
            replace q := c2_s q
            obtain ⟨u_27, g_26, qc, q⟩ := q
            refine x_callV hx hb hml hl.1 hown hX M (S1 := S) (As := [.ref a_24, .int x_10, .ref a_25, .int (0 : Int32)]) (rest := []) okX12 ra0 rfl kw_1452 kw_49 mok_X12_blame (c_X12_blame ra0 ra_24 ra_25 qc (Nat.le_refl 2)) kw_1450 rfl rfl dX12_take_93 (Nat.le_of_ble_eq_true rfl) ⟨Nat.le_trans (by decide) hRf, Nat.le_trans (by decide) hRl⟩ (Nat.zero_le _) (Nat.zero_le _) (fun H locs M hEF => ?_)
            refine lv_aload_n hx hb dX12_take_96 rfl (lv_at hl 1 rfl) ?_
            replace q := nn_s q
            obtain ⟨a_28, e_a_28, q⟩ := q
            refine x_getR hx hb hown hX M e_a_28 okX12 ra0 (by decide) rfl kw_1025 dX12_take_97 (fun ra_28 => ?_)
            refine lv_iload hx hb dX12_take_100 (lv_at hl 0 rfl) ?_
            refine lv_iconst (v := 3) hx hb dX12_take_102 (by decide) ?_
            refine lv_iadd hx hb dX12_take_103 ?_
            refine lv_dup2_11 hx hb dX12_take_104 rfl rfl ?_
            replace q := ck_s q
            obtain ⟨hin, q⟩ := q
            refine x_iald hx hb hX M ra_28 (inb_in hin) dX12_take_105 ?_
            refine lv_iconst (v := 1) hx hb dX12_take_106 (by decide) ?_
            refine lv_iadd hx hb dX12_take_107 ?_
            replace q := ck_s q
            obtain ⟨hin, q⟩ := q
            refine x_iast hx hb hX M ra_28 (inb_in hin) dX12_take_108 (fun H locs M => ?_)
            replace q := gen_g M q
            obtain ⟨g_29, -, M, q⟩ := q
            refine lv_iconst (v := 0) hx hb dX12_take_109 (by decide) ?_
            cases q
            exact x_iret hx hb hr hlk M Ext.rf dX12_take_110
    · replace q := if_t c_6 q
      refine lv_iconst (v := -1) hx hb dX12_take_17 (by decide) ?_
      cases q
      exact x_iret hx hb hr hlk M Ext.rf dX12_take_18
set_option maxRecDepth 100000 in
theorem c_X12_take {l : Launch} {D : va_G} {cA : Nat → ClassId} {lo tS N : Nat} {S : Hs} {g g1 : Hg} {rv : Int32} {a0 : Nat} {x1 : Int32} {x2 : Int32} {x3 : Int32} (ra0 : Rf lo S a0 12) (q : f_X12_take N S g a0 x1 x2 x3 = some (rv, g1)) {d : Nat} (hd : 307 ≤ d) : Ctr l yX12_take cX12_take 5 (some .int) D cA lo tS [.ref a0, .int x1, .int x2, .int x3] S g d (some (.int rv)) S g1 True 0 0 := by
  refine x_met (by decide) (Nat.le_of_ble_eq_true rfl) ?_
  intro p e s m below meth c ls hx hb hml hr hlk hown hnm hX M hl
  exact w_X12_take_0 hx hb hml hr hlk hown hX hd (Nat.mul_le_mul_left 60 hd) (N := N) _ _ _ _ _ _ _ _ M ra0 (lv_sub hl [0, 1, 2, 3] rfl) q
def b_X12_talk_0 (N : Nat) (S : Hs) (g : Hg) (a0 : Nat) (x1 : Int32) (x2 : Int32) : Option (Int32 × Hg) :=
c2 (f_X12_isReader N S g a0 x1) (fun x_2 g_1 =>
if x_2 = 0 then (
some ((-1 : Int32), g_1)) else (
c2 (f_X12_isReader N S g_1 a0 x2) (fun x_5 g_4 =>
if x_5 = 0 then (
some ((-1 : Int32), g_4)) else (
if x1 = x2 then (
some ((-1 : Int32), g_4)) else (
nn (rdR g_4 a0 14) (fun a_8 =>
ck (inb x1 (hpL S a_8)) (
if (rdI g_4 a_8 x1.toNatClampNeg) = 0 then (
some ((-1 : Int32), g_4)) else (
nn (rdR g_4 a0 14) (fun a_10 =>
ck (inb x2 (hpL S a_10)) (
if (rdI g_4 a_10 x2.toNatClampNeg) = 0 then (
some ((-1 : Int32), g_4)) else (
nm ((28 : Int32) * x1) (fun x_12 =>
nm ((28 : Int32) * x2) (fun x_13 =>
nn (rdR g_4 a0 13) (fun a_14 =>
ck (inb (x_12 + (2 : Int32)) (hpL S a_14)) (
nn (rdR g_4 a0 13) (fun a_15 =>
ck (inb (x_13 + (2 : Int32)) (hpL S a_15)) (
if (rdI g_4 a_14 (x_12 + (2 : Int32)).toNatClampNeg) = (rdI g_4 a_15 (x_13 + (2 : Int32)).toNatClampNeg) then (
nn (rdR g_4 a0 13) (fun a_17 =>
nn (rdR g_4 a0 13) (fun a_18 =>
c2 (f_X12_agree N S g_4 a0 a_17 x_12 a_18 x_13) (fun x_20 g_19 =>
if x_20 = 0 then (
nn (rdR g_19 a0 13) (fun a_36 =>
nn (rdR g_19 a0 13) (fun a_37 =>
c2 (f_X12_blame N S g_19 a0 a_36 x_12 a_37 x_13) (fun u_39 g_38 =>
nn (rdR g_38 a0 13) (fun a_40 =>
ck (inb (x_12 + (3 : Int32)) (hpL S a_40)) (
ck (inb (x_12 + (3 : Int32)) (hpL S a_40)) (
nm (wrI g_38 a_40 (x_12 + (3 : Int32)).toNatClampNeg ((rdI g_38 a_40 (x_12 + (3 : Int32)).toNatClampNeg) + (1 : Int32))) (fun g_41 =>
nn (rdR g_41 a0 13) (fun a_42 =>
ck (inb (x_13 + (3 : Int32)) (hpL S a_42)) (
ck (inb (x_13 + (3 : Int32)) (hpL S a_42)) (
nm (wrI g_41 a_42 (x_13 + (3 : Int32)).toNatClampNeg ((rdI g_41 a_42 (x_13 + (3 : Int32)).toNatClampNeg) + (1 : Int32))) (fun g_43 =>
some ((0 : Int32), g_43))))))))))))) else (
nn (rdR g_19 a0 13) (fun a_22 =>
ck (inb x_12 (hpL S a_22)) (
nn (rdR g_19 a0 13) (fun a_23 =>
ck (inb x_13 (hpL S a_23)) (
if (rdI g_19 a_23 x_13.toNatClampNeg) ≤ (rdI g_19 a_22 x_12.toNatClampNeg) then (
nn (rdR g_19 a0 13) (fun a_25 =>
ck (inb x_13 (hpL S a_25)) (
nn (rdR g_19 a0 13) (fun a_26 =>
ck (inb x_12 (hpL S a_26)) (
if (rdI g_19 a_26 x_12.toNatClampNeg) ≤ (rdI g_19 a_25 x_13.toNatClampNeg) then (
some ((1 : Int32), g_19)) else (
nn (rdR g_19 a0 13) (fun a_28 =>
nn (rdR g_19 a0 13) (fun a_29 =>
c2 (f_X12_copy N S g_19 a_28 x_12 a_29 x_13 (0 : Int32)) (fun u_31 g_30 =>
some ((1 : Int32), g_30)))))))))) else (
nn (rdR g_19 a0 13) (fun a_32 =>
nn (rdR g_19 a0 13) (fun a_33 =>
c2 (f_X12_copy N S g_19 a_32 x_13 a_33 x_12 (0 : Int32)) (fun u_35 g_34 =>
some ((1 : Int32), g_34)))))))))))))) else (
some ((-1 : Int32), g_4)))))))))))))))))))
def f_X12_talk (N : Nat) (S : Hs) (g : Hg) (a0 : Nat) (x1 : Int32) (x2 : Int32) : Option (Int32 × Hg) := b_X12_talk_0 N S g a0 x1 x2
set_option maxHeartbeats 4000000 in
set_option maxRecDepth 100000 in
theorem w_X12_talk_0 (hx : p.tables.exec = Jvm.exec) (hb : c.code = cX12_talk) (hml : c.maxLocals = 5) (hr : meth.sig.returnType = (some .int)) (hlk : meth.locks = false) (hown : s.vm.findClass RX12 = some m.cls) (hX : Kx D cA lo tS s) (hRf : 307 ≤ R.frames) (hRl : 18420 ≤ R.locals) {N : Nat} {rv : Int32} {g1 : Hg} {S : Hs} : ∀ (H : Heap) (locs : List Loc) (ls : Array Slot) (g : Hg) (a0 : Nat) (x1 : Int32) (x2 : Int32), Mm D cA lo S g s H locs → Rf lo S a0 12 → lv_has ls 5 [(0, .ref a0), (1, .int x1), (2, .int x2)] → b_X12_talk_0 N S g a0 x1 x2 = some (rv, g1) → W p l e R s m args below meth c H locs 0 0 (MQ below (Qcx D cA lo S (some (.int rv)) S g1 True) args s 0 0 (fun q : Nat => lo ≤ q)) (F0 m 0 ls []) := by
  intro H locs ls g a0 x1 x2 M ra0 hl q
  unfold b_X12_talk_0 at q
  refine lv_aload_n hx hb dX12_talk_0 rfl (lv_at hl 0 rfl) ?_
  refine lv_iload_n hx hb dX12_talk_1 rfl (lv_at hl 1 rfl) ?_
  replace q := c2_s q
  obtain ⟨x_2, g_1, qc, q⟩ := q
  refine x_callV hx hb hml hl.1 hown hX M (S1 := S) (As := [.int x1]) (rest := []) okX12 ra0 rfl kw_1421 kw_43 mok_X12_isReader (c_X12_isReader ra0 qc (Nat.le_refl 1)) kw_1419 rfl rfl dX12_talk_2 (Nat.le_of_ble_eq_true rfl) ⟨Nat.le_trans (by decide) hRf, Nat.le_trans (by decide) hRl⟩ (Nat.zero_le _) (Nat.zero_le _) (fun H locs M hEF => ?_)
  refine lv_if_eq (tgt := 39) hx hb dX12_talk_5 (by decide) (fun c_3 => ?_) (fun c_3 => ?_)
  · replace q := if_t c_3 q
    refine lv_iconst (v := -1) hx hb dX12_talk_39 (by decide) ?_
    cases q
    exact x_iret hx hb hr hlk M Ext.rf dX12_talk_40
  · replace q := if_f c_3 q
    refine lv_aload_n hx hb dX12_talk_8 rfl (lv_at hl 0 rfl) ?_
    refine lv_iload_n hx hb dX12_talk_9 rfl (lv_at hl 2 rfl) ?_
    replace q := c2_s q
    obtain ⟨x_5, g_4, qc, q⟩ := q
    refine x_callV hx hb hml hl.1 hown hX M (S1 := S) (As := [.int x2]) (rest := []) okX12 ra0 rfl kw_1421 kw_43 mok_X12_isReader (c_X12_isReader ra0 qc (Nat.le_refl 1)) kw_1419 rfl rfl dX12_talk_10 (Nat.le_of_ble_eq_true rfl) ⟨Nat.le_trans (by decide) hRf, Nat.le_trans (by decide) hRl⟩ (Nat.zero_le _) (Nat.zero_le _) (fun H locs M hEF => ?_)
    refine lv_if_eq (tgt := 39) hx hb dX12_talk_13 (by decide) (fun c_6 => ?_) (fun c_6 => ?_)
    · replace q := if_t c_6 q
      refine lv_iconst (v := -1) hx hb dX12_talk_39 (by decide) ?_
      cases q
      exact x_iret hx hb hr hlk M Ext.rf dX12_talk_40
    · replace q := if_f c_6 q
      refine lv_iload_n hx hb dX12_talk_16 rfl (lv_at hl 1 rfl) ?_
      refine lv_iload_n hx hb dX12_talk_17 rfl (lv_at hl 2 rfl) ?_
      refine lv_icmp_eq (tgt := 39) hx hb dX12_talk_18 (by decide) (fun c_7 => ?_) (fun c_7 => ?_)
      · replace q := if_t c_7 q
        refine lv_iconst (v := -1) hx hb dX12_talk_39 (by decide) ?_
        cases q
        exact x_iret hx hb hr hlk M Ext.rf dX12_talk_40
      · replace q := if_f c_7 q
        refine lv_aload_n hx hb dX12_talk_21 rfl (lv_at hl 0 rfl) ?_
        replace q := nn_s q
        obtain ⟨a_8, e_a_8, q⟩ := q
        refine x_getR hx hb hown hX M e_a_8 okX12 ra0 (by decide) rfl kw_1026 dX12_talk_22 (fun ra_8 => ?_)
        refine lv_iload_n hx hb dX12_talk_25 rfl (lv_at hl 1 rfl) ?_
        replace q := ck_s q
        obtain ⟨hin, q⟩ := q
        refine x_zald hx hb hX M ra_8 (inb_in hin) dX12_talk_26 ?_
        refine lv_if_eq (tgt := 39) hx hb dX12_talk_27 (by decide) (fun c_9 => ?_) (fun c_9 => ?_)
        · replace q := if_t c_9 q
          refine lv_iconst (v := -1) hx hb dX12_talk_39 (by decide) ?_
          cases q
          exact x_iret hx hb hr hlk M Ext.rf dX12_talk_40
        · replace q := if_f c_9 q
          refine lv_aload_n hx hb dX12_talk_30 rfl (lv_at hl 0 rfl) ?_
          replace q := nn_s q
          obtain ⟨a_10, e_a_10, q⟩ := q
          refine x_getR hx hb hown hX M e_a_10 okX12 ra0 (by decide) rfl kw_1026 dX12_talk_31 (fun ra_10 => ?_)
          refine lv_iload_n hx hb dX12_talk_34 rfl (lv_at hl 2 rfl) ?_
          replace q := ck_s q
          obtain ⟨hin, q⟩ := q
          refine x_zald hx hb hX M ra_10 (inb_in hin) dX12_talk_35 ?_
          refine lv_if_ne (tgt := 41) hx hb dX12_talk_36 (by decide) (fun c_11 => ?_) (fun c_11 => ?_)
          · replace q := if_f c_11 q
            refine lv_bipush (v := 28) hx hb dX12_talk_41 (by decide) ?_
            refine lv_iload_n hx hb dX12_talk_43 rfl (lv_at hl 1 rfl) ?_
            refine lv_imul hx hb dX12_talk_44 ?_
            refine lv_topi (fun x_12 e_x_12 => ?_)
            replace q := nm_s q e_x_12
            refine lv_istore_n (lv' := [(3, .int x_12), (0, .ref a0), (1, .int x1), (2, .int x2)]) hx hb dX12_talk_45 rfl hl (by decide) rfl (fun ls hl => ?_)
            refine lv_bipush (v := 28) hx hb dX12_talk_46 (by decide) ?_
            refine lv_iload_n hx hb dX12_talk_48 rfl (lv_at hl 3 rfl) ?_
            refine lv_imul hx hb dX12_talk_49 ?_
            refine lv_topi (fun x_13 e_x_13 => ?_)
            replace q := nm_s q e_x_13
            refine lv_istore (lv' := [(4, .int x_13), (3, .int x_12), (0, .ref a0), (1, .int x1), (2, .int x2)]) hx hb dX12_talk_50 hl (by decide) rfl (fun ls hl => ?_)
            refine lv_aload_n hx hb dX12_talk_52 rfl (lv_at hl 2 rfl) ?_
            replace q := nn_s q
            obtain ⟨a_14, e_a_14, q⟩ := q
            refine x_getR hx hb hown hX M e_a_14 okX12 ra0 (by decide) rfl kw_1025 dX12_talk_53 (fun ra_14 => ?_)
            refine lv_iload_n hx hb dX12_talk_56 rfl (lv_at hl 1 rfl) ?_
            refine lv_iconst (v := 2) hx hb dX12_talk_57 (by decide) ?_
            refine lv_iadd hx hb dX12_talk_58 ?_
            replace q := ck_s q
            obtain ⟨hin, q⟩ := q
            refine x_iald hx hb hX M ra_14 (inb_in hin) dX12_talk_59 ?_
            refine lv_aload_n hx hb dX12_talk_60 rfl (lv_at hl 2 rfl) ?_
            replace q := nn_s q
            obtain ⟨a_15, e_a_15, q⟩ := q
            refine x_getR hx hb hown hX M e_a_15 okX12 ra0 (by decide) rfl kw_1025 dX12_talk_61 (fun ra_15 => ?_)
            refine lv_iload hx hb dX12_talk_64 (lv_at hl 0 rfl) ?_
            refine lv_iconst (v := 2) hx hb dX12_talk_66 (by decide) ?_
            refine lv_iadd hx hb dX12_talk_67 ?_
            replace q := ck_s q
            obtain ⟨hin, q⟩ := q
            refine x_iald hx hb hX M ra_15 (inb_in hin) dX12_talk_68 ?_
            refine lv_icmp_eq (tgt := 74) hx hb dX12_talk_69 (by decide) (fun c_16 => ?_) (fun c_16 => ?_)
            · replace q := if_t c_16 q
              refine lv_aload_n hx hb dX12_talk_74 rfl (lv_at hl 2 rfl) ?_
              refine lv_aload_n hx hb dX12_talk_75 rfl (lv_at hl 2 rfl) ?_
              replace q := nn_s q
              obtain ⟨a_17, e_a_17, q⟩ := q
              refine x_getR hx hb hown hX M e_a_17 okX12 ra0 (by decide) rfl kw_1025 dX12_talk_76 (fun ra_17 => ?_)
              refine lv_iload_n hx hb dX12_talk_79 rfl (lv_at hl 1 rfl) ?_
              refine lv_aload_n hx hb dX12_talk_80 rfl (lv_at hl 2 rfl) ?_
              replace q := nn_s q
              obtain ⟨a_18, e_a_18, q⟩ := q
              refine x_getR hx hb hown hX M e_a_18 okX12 ra0 (by decide) rfl kw_1025 dX12_talk_81 (fun ra_18 => ?_)
              refine lv_iload hx hb dX12_talk_84 (lv_at hl 0 rfl) ?_
              replace q := c2_s q
              obtain ⟨x_20, g_19, qc, q⟩ := q
              refine x_callV hx hb hml hl.1 hown hX M (S1 := S) (As := [.ref a_17, .int x_12, .ref a_18, .int x_13]) (rest := []) okX12 ra0 rfl kw_1448 kw_48 mok_X12_agree (c_X12_agree ra0 ra_17 ra_18 qc (Nat.le_refl 306)) kw_1446 rfl rfl dX12_talk_86 (Nat.le_of_ble_eq_true rfl) ⟨Nat.le_trans (by decide) hRf, Nat.le_trans (by decide) hRl⟩ (Nat.zero_le _) (Nat.zero_le _) (fun H locs M hEF => ?_)
              refine lv_if_ne (tgt := 134) hx hb dX12_talk_89 (by decide) (fun c_21 => ?_) (fun c_21 => ?_)
              · replace q := if_f c_21 q
                refine lv_aload_n hx hb dX12_talk_134 rfl (lv_at hl 2 rfl) ?_
                replace q := nn_s q
                obtain ⟨a_22, e_a_22, q⟩ := q
                refine x_getR hx hb hown hX M e_a_22 okX12 ra0 (by decide) rfl kw_1025 dX12_talk_135 (fun ra_22 => ?_)
                refine lv_iload_n hx hb dX12_talk_138 rfl (lv_at hl 1 rfl) ?_
                replace q := ck_s q
                obtain ⟨hin, q⟩ := q
                refine x_iald hx hb hX M ra_22 (inb_in hin) dX12_talk_139 ?_
                refine lv_aload_n hx hb dX12_talk_140 rfl (lv_at hl 2 rfl) ?_
                replace q := nn_s q
                obtain ⟨a_23, e_a_23, q⟩ := q
                refine x_getR hx hb hown hX M e_a_23 okX12 ra0 (by decide) rfl kw_1025 dX12_talk_141 (fun ra_23 => ?_)
                refine lv_iload hx hb dX12_talk_144 (lv_at hl 0 rfl) ?_
                replace q := ck_s q
                obtain ⟨hin, q⟩ := q
                refine x_iald hx hb hX M ra_23 (inb_in hin) dX12_talk_146 ?_
                refine lv_icmp_ge (tgt := 168) hx hb dX12_talk_147 (by decide) (fun c_24 => ?_) (fun c_24 => ?_)
                · replace q := if_t c_24 q
                  refine lv_aload_n hx hb dX12_talk_168 rfl (lv_at hl 2 rfl) ?_
                  replace q := nn_s q
                  obtain ⟨a_25, e_a_25, q⟩ := q
                  refine x_getR hx hb hown hX M e_a_25 okX12 ra0 (by decide) rfl kw_1025 dX12_talk_169 (fun ra_25 => ?_)
                  refine lv_iload hx hb dX12_talk_172 (lv_at hl 0 rfl) ?_
                  replace q := ck_s q
                  obtain ⟨hin, q⟩ := q
                  refine x_iald hx hb hX M ra_25 (inb_in hin) dX12_talk_174 ?_
                  refine lv_aload_n hx hb dX12_talk_175 rfl (lv_at hl 2 rfl) ?_
                  replace q := nn_s q
                  obtain ⟨a_26, e_a_26, q⟩ := q
                  refine x_getR hx hb hown hX M e_a_26 okX12 ra0 (by decide) rfl kw_1025 dX12_talk_176 (fun ra_26 => ?_)
                  refine lv_iload_n hx hb dX12_talk_179 rfl (lv_at hl 1 rfl) ?_
                  replace q := ck_s q
                  obtain ⟨hin, q⟩ := q
                  refine x_iald hx hb hX M ra_26 (inb_in hin) dX12_talk_180 ?_
                  refine lv_icmp_ge (tgt := 199) hx hb dX12_talk_181 (by decide) (fun c_27 => ?_) (fun c_27 => ?_)
                  · replace q := if_t c_27 q
                    refine lv_iconst (v := 1) hx hb dX12_talk_199 (by decide) ?_
                    cases q
                    exact x_iret hx hb hr hlk M Ext.rf dX12_talk_200
                  · replace q := if_f c_27 q
                    refine lv_aload_n hx hb dX12_talk_184 rfl (lv_at hl 2 rfl) ?_
                    replace q := nn_s q
                    obtain ⟨a_28, e_a_28, q⟩ := q
                    refine x_getR hx hb hown hX M e_a_28 okX12 ra0 (by decide) rfl kw_1025 dX12_talk_185 (fun ra_28 => ?_)
                    refine lv_iload_n hx hb dX12_talk_188 rfl (lv_at hl 1 rfl) ?_
                    refine lv_aload_n hx hb dX12_talk_189 rfl (lv_at hl 2 rfl) ?_
                    replace q := nn_s q
                    obtain ⟨a_29, e_a_29, q⟩ := q
                    refine x_getR hx hb hown hX M e_a_29 okX12 ra0 (by decide) rfl kw_1025 dX12_talk_190 (fun ra_29 => ?_)
                    refine lv_iload hx hb dX12_talk_193 (lv_at hl 0 rfl) ?_
                    refine lv_iconst (v := 0) hx hb dX12_talk_195 (by decide) ?_
                    replace q := c2_s q
                    obtain ⟨u_31, g_30, qc, q⟩ := q
                    refine x_callS hx hb hml hl.1 hown hX M (S1 := S) (As := [.ref a_28, .int x_12, .ref a_29, .int x_13, .int (0 : Int32)]) (rest := []) kw_1455 mok_X12_copy (c_X12_copy ra_28 ra_29 qc (Nat.le_refl 1)) kw_1454 rfl rfl dX12_talk_196 (Nat.le_of_ble_eq_true rfl) ⟨Nat.le_trans (by decide) hRf, Nat.le_trans (by decide) hRl⟩ (Nat.zero_le _) (Nat.zero_le _) (fun H locs M hEF => ?_)
                    refine lv_iconst (v := 1) hx hb dX12_talk_199 (by decide) ?_
                    cases q
                    exact x_iret hx hb hr hlk M Ext.rf dX12_talk_200
                · replace q := if_f c_24 q
                  refine lv_aload_n hx hb dX12_talk_150 rfl (lv_at hl 2 rfl) ?_
                  replace q := nn_s q
                  obtain ⟨a_32, e_a_32, q⟩ := q
                  refine x_getR hx hb hown hX M e_a_32 okX12 ra0 (by decide) rfl kw_1025 dX12_talk_151 (fun ra_32 => ?_)
                  refine lv_iload hx hb dX12_talk_154 (lv_at hl 0 rfl) ?_
                  refine lv_aload_n hx hb dX12_talk_156 rfl (lv_at hl 2 rfl) ?_
                  replace q := nn_s q
                  obtain ⟨a_33, e_a_33, q⟩ := q
                  refine x_getR hx hb hown hX M e_a_33 okX12 ra0 (by decide) rfl kw_1025 dX12_talk_157 (fun ra_33 => ?_)
                  refine lv_iload_n hx hb dX12_talk_160 rfl (lv_at hl 1 rfl) ?_
                  refine lv_iconst (v := 0) hx hb dX12_talk_161 (by decide) ?_
                  replace q := c2_s q
                  obtain ⟨u_35, g_34, qc, q⟩ := q
                  refine x_callS hx hb hml hl.1 hown hX M (S1 := S) (As := [.ref a_32, .int x_13, .ref a_33, .int x_12, .int (0 : Int32)]) (rest := []) kw_1455 mok_X12_copy (c_X12_copy ra_32 ra_33 qc (Nat.le_refl 1)) kw_1454 rfl rfl dX12_talk_162 (Nat.le_of_ble_eq_true rfl) ⟨Nat.le_trans (by decide) hRf, Nat.le_trans (by decide) hRl⟩ (Nat.zero_le _) (Nat.zero_le _) (fun H locs M hEF => ?_)
                  refine lv_goto (tgt := 199) hx hb dX12_talk_165 (by decide) ?_
                  refine lv_iconst (v := 1) hx hb dX12_talk_199 (by decide) ?_
                  cases q
                  exact x_iret hx hb hr hlk M Ext.rf dX12_talk_200
              · replace q := if_t c_21 q
                refine lv_aload_n hx hb dX12_talk_92 rfl (lv_at hl 2 rfl) ?_
                refine lv_aload_n hx hb dX12_talk_93 rfl (lv_at hl 2 rfl) ?_
                replace q := nn_s q
                obtain ⟨a_36, e_a_36, q⟩ := q
                refine x_getR hx hb hown hX M e_a_36 okX12 ra0 (by decide) rfl kw_1025 dX12_talk_94 (fun ra_36 => ?_)
                refine lv_iload_n hx hb dX12_talk_97 rfl (lv_at hl 1 rfl) ?_
                refine lv_aload_n hx hb dX12_talk_98 rfl (lv_at hl 2 rfl) ?_
                replace q := nn_s q
                obtain ⟨a_37, e_a_37, q⟩ := q
                refine x_getR hx hb hown hX M e_a_37 okX12 ra0 (by decide) rfl kw_1025 dX12_talk_99 (fun ra_37 => ?_)
                refine lv_iload hx hb dX12_talk_102 (lv_at hl 0 rfl) ?_
                replace q := c2_s q
                obtain ⟨u_39, g_38, qc, q⟩ := q
                refine x_callV hx hb hml hl.1 hown hX M (S1 := S) (As := [.ref a_36, .int x_12, .ref a_37, .int x_13]) (rest := []) okX12 ra0 rfl kw_1452 kw_49 mok_X12_blame (c_X12_blame ra0 ra_36 ra_37 qc (Nat.le_refl 2)) kw_1450 rfl rfl dX12_talk_104 (Nat.le_of_ble_eq_true rfl) ⟨Nat.le_trans (by decide) hRf, Nat.le_trans (by decide) hRl⟩ (Nat.zero_le _) (Nat.zero_le _) (fun H locs M hEF => ?_)
                refine lv_aload_n hx hb dX12_talk_107 rfl (lv_at hl 2 rfl) ?_
                replace q := nn_s q
                obtain ⟨a_40, e_a_40, q⟩ := q
                refine x_getR hx hb hown hX M e_a_40 okX12 ra0 (by decide) rfl kw_1025 dX12_talk_108 (fun ra_40 => ?_)
                refine lv_iload_n hx hb dX12_talk_111 rfl (lv_at hl 1 rfl) ?_
                refine lv_iconst (v := 3) hx hb dX12_talk_112 (by decide) ?_
                refine lv_iadd hx hb dX12_talk_113 ?_
                refine lv_dup2_11 hx hb dX12_talk_114 rfl rfl ?_
                replace q := ck_s q
                obtain ⟨hin, q⟩ := q
                refine x_iald hx hb hX M ra_40 (inb_in hin) dX12_talk_115 ?_
                refine lv_iconst (v := 1) hx hb dX12_talk_116 (by decide) ?_
                refine lv_iadd hx hb dX12_talk_117 ?_
                replace q := ck_s q
                obtain ⟨hin, q⟩ := q
                refine x_iast hx hb hX M ra_40 (inb_in hin) dX12_talk_118 (fun H locs M => ?_)
                replace q := gen_g M q
                obtain ⟨g_41, -, M, q⟩ := q
                refine lv_aload_n hx hb dX12_talk_119 rfl (lv_at hl 2 rfl) ?_
                replace q := nn_s q
                obtain ⟨a_42, e_a_42, q⟩ := q
                refine x_getR hx hb hown hX M e_a_42 okX12 ra0 (by decide) rfl kw_1025 dX12_talk_120 (fun ra_42 => ?_)
                refine lv_iload hx hb dX12_talk_123 (lv_at hl 0 rfl) ?_
                refine lv_iconst (v := 3) hx hb dX12_talk_125 (by decide) ?_
                refine lv_iadd hx hb dX12_talk_126 ?_
                refine lv_dup2_11 hx hb dX12_talk_127 rfl rfl ?_
                replace q := ck_s q
                obtain ⟨hin, q⟩ := q
                refine x_iald hx hb hX M ra_42 (inb_in hin) dX12_talk_128 ?_
                refine lv_iconst (v := 1) hx hb dX12_talk_129 (by decide) ?_
                refine lv_iadd hx hb dX12_talk_130 ?_
                replace q := ck_s q
                obtain ⟨hin, q⟩ := q
                refine x_iast hx hb hX M ra_42 (inb_in hin) dX12_talk_131 (fun H locs M => ?_)
                replace q := gen_g M q
                obtain ⟨g_43, -, M, q⟩ := q
                refine lv_iconst (v := 0) hx hb dX12_talk_132 (by decide) ?_
                cases q
                exact x_iret hx hb hr hlk M Ext.rf dX12_talk_133
            · replace q := if_f c_16 q
              refine lv_iconst (v := -1) hx hb dX12_talk_72 (by decide) ?_
              cases q
              exact x_iret hx hb hr hlk M Ext.rf dX12_talk_73
          · replace q := if_t c_11 q
            refine lv_iconst (v := -1) hx hb dX12_talk_39 (by decide) ?_
            cases q
            exact x_iret hx hb hr hlk M Ext.rf dX12_talk_40
set_option maxRecDepth 100000 in
theorem c_X12_talk {l : Launch} {D : va_G} {cA : Nat → ClassId} {lo tS N : Nat} {S : Hs} {g g1 : Hg} {rv : Int32} {a0 : Nat} {x1 : Int32} {x2 : Int32} (ra0 : Rf lo S a0 12) (q : f_X12_talk N S g a0 x1 x2 = some (rv, g1)) {d : Nat} (hd : 307 ≤ d) : Ctr l yX12_talk cX12_talk 5 (some .int) D cA lo tS [.ref a0, .int x1, .int x2] S g d (some (.int rv)) S g1 True 0 0 := by
  refine x_met (by decide) (Nat.le_of_ble_eq_true rfl) ?_
  intro p e s m below meth c ls hx hb hml hr hlk hown hnm hX M hl
  exact w_X12_talk_0 hx hb hml hr hlk hown hX hd (Nat.mul_le_mul_left 60 hd) (N := N) _ _ _ _ _ _ _ M ra0 (lv_sub hl [0, 1, 2] rfl) q
def b_X12_isWatcher_0 (N : Nat) (S : Hs) (g : Hg) (x1 : Int32) : Option (Int32 × Hg) :=
if x1 < 0 then (
some ((0 : Int32), g)) else (
if (8 : Int32) ≤ x1 then (
some ((0 : Int32), g)) else (
some ((1 : Int32), g)))
def f_X12_isWatcher (N : Nat) (S : Hs) (g : Hg) (a0 : Nat) (x1 : Int32) : Option (Int32 × Hg) := b_X12_isWatcher_0 N S g x1
set_option maxHeartbeats 4000000 in
set_option maxRecDepth 100000 in
theorem w_X12_isWatcher_0 (hx : p.tables.exec = Jvm.exec) (hb : c.code = cX12_isWatcher) (hml : c.maxLocals = 2) (hr : meth.sig.returnType = (some .boolean)) (hlk : meth.locks = false) (hown : s.vm.findClass RX12 = some m.cls) (hX : Kx D cA lo tS s) (hRf : 1 ≤ R.frames) (hRl : 60 ≤ R.locals) {N : Nat} {rv : Int32} {g1 : Hg} {S : Hs} : ∀ (H : Heap) (locs : List Loc) (ls : Array Slot) (g : Hg) (x1 : Int32), Mm D cA lo S g s H locs → lv_has ls 2 [(1, .int x1)] → b_X12_isWatcher_0 N S g x1 = some (rv, g1) → W p l e R s m args below meth c H locs 0 0 (MQ below (Qcx D cA lo S (some (.int rv)) S g1 True) args s 0 0 (fun q : Nat => lo ≤ q)) (F0 m 0 ls []) := by
  intro H locs ls g x1 M hl q
  unfold b_X12_isWatcher_0 at q
  refine lv_iload_n hx hb dX12_isWatcher_0 rfl (lv_at hl 0 rfl) ?_
  refine lv_if_lt (tgt := 14) hx hb dX12_isWatcher_1 (by decide) (fun c_1 => ?_) (fun c_1 => ?_)
  · replace q := if_t c_1 q
    refine lv_iconst (v := 0) hx hb dX12_isWatcher_14 (by decide) ?_
    cases q
    exact x_zret hx hb hr hlk rfl M Ext.rf dX12_isWatcher_15
  · replace q := if_f c_1 q
    refine lv_iload_n hx hb dX12_isWatcher_4 rfl (lv_at hl 0 rfl) ?_
    refine lv_bipush (v := 8) hx hb dX12_isWatcher_5 (by decide) ?_
    refine lv_icmp_ge (tgt := 14) hx hb dX12_isWatcher_7 (by decide) (fun c_2 => ?_) (fun c_2 => ?_)
    · replace q := if_t c_2 q
      refine lv_iconst (v := 0) hx hb dX12_isWatcher_14 (by decide) ?_
      cases q
      exact x_zret hx hb hr hlk rfl M Ext.rf dX12_isWatcher_15
    · replace q := if_f c_2 q
      refine lv_iconst (v := 1) hx hb dX12_isWatcher_10 (by decide) ?_
      refine lv_goto (tgt := 15) hx hb dX12_isWatcher_11 (by decide) ?_
      cases q
      exact x_zret hx hb hr hlk rfl M Ext.rf dX12_isWatcher_15
set_option maxRecDepth 100000 in
theorem c_X12_isWatcher {l : Launch} {D : va_G} {cA : Nat → ClassId} {lo tS N : Nat} {S : Hs} {g g1 : Hg} {rv : Int32} {a0 : Nat} {x1 : Int32} (ra0 : Rf lo S a0 12) (q : f_X12_isWatcher N S g a0 x1 = some (rv, g1)) {d : Nat} (hd : 1 ≤ d) : Ctr l yX12_isWatcher cX12_isWatcher 2 (some .boolean) D cA lo tS [.ref a0, .int x1] S g d (some (.int rv)) S g1 True 0 0 := by
  refine x_met (by decide) (Nat.le_of_ble_eq_true rfl) ?_
  intro p e s m below meth c ls hx hb hml hr hlk hown hnm hX M hl
  exact w_X12_isWatcher_0 hx hb hml hr hlk hown hX hd (Nat.mul_le_mul_left 60 hd) (N := N) _ _ _ _ _ M  (lv_sub hl [1] rfl) q
end W19
