section W13
variable {p : Program} {l : Launch} {e : Env} {R : Room} {s : State} {m : MethodId} {args : Array Value} {below : List Frame} {meth : Method} {c : Code} {D : va_G} {cA : Nat → ClassId} {lo tS : Nat}
def b_X12_add_0 (N : Nat) (S : Hs) (g : Hg) (a0 : Nat) (x1 : Int32) (x2 : Int32) (y3 : Int64) : Option (Int32 × Hg) :=
c2 (f_X12_isLog N S g a0 x1) (fun x_2 g_1 =>
if x_2 = 0 then (
some ((-1 : Int32), g_1)) else (
c2 (f_X12_many N S g_1 a0 x1) (fun x_5 g_4 =>
if x_5 = (400 : Int32) then (
some ((-1 : Int32), g_4)) else (
c2 (f_X12_many N S g_4 a0 x1) (fun x_8 g_7 =>
nm (((400 : Int32) * x1) + x_8) (fun x_9 =>
nn (rdR g_7 a0 2) (fun a_10 =>
ck (inb x_9 (hpL S a_10)) (
nm (wrI g_7 a_10 x_9.toNatClampNeg x2) (fun g_11 =>
nn (rdR g_11 a0 3) (fun a_12 =>
ck (inb x_9 (hpL S a_12)) (
nm (wrL g_11 a_12 x_9.toNatClampNeg y3) (fun g_13 =>
nn (rdR g_13 a0 4) (fun a_14 =>
ck (inb x_9 (hpL S a_14)) (
nm (wrI g_13 a_14 x_9.toNatClampNeg (0 : Int32)) (fun g_15 =>
nn (rdR g_15 a0 5) (fun a_16 =>
ck (inb x_9 (hpL S a_16)) (
nm (wrI g_15 a_16 x_9.toNatClampNeg (0 : Int32)) (fun g_17 =>
nn (rdR g_17 a0 0) (fun a_18 =>
ck (inb (((4 : Int32) * x1) + (1 : Int32)) (hpL S a_18)) (
ck (inb (((4 : Int32) * x1) + (1 : Int32)) (hpL S a_18)) (
nm (wrI g_17 a_18 (((4 : Int32) * x1) + (1 : Int32)).toNatClampNeg ((rdI g_17 a_18 (((4 : Int32) * x1) + (1 : Int32)).toNatClampNeg) + (1 : Int32))) (fun g_19 =>
c2 (f_X12_many N S g_19 a0 x1) (fun x_21 g_20 =>
some (x_21, g_20))))))))))))))))))))))))
def f_X12_add (N : Nat) (S : Hs) (g : Hg) (a0 : Nat) (x1 : Int32) (x2 : Int32) (y3 : Int64) : Option (Int32 × Hg) := b_X12_add_0 N S g a0 x1 x2 y3
set_option maxHeartbeats 4000000 in
set_option maxRecDepth 100000 in
theorem w_X12_add_0 (hx : p.tables.exec = Jvm.exec) (hb : c.code = cX12_add) (hml : c.maxLocals = 6) (hr : meth.sig.returnType = (some .int)) (hlk : meth.locks = false) (hown : s.vm.findClass RX12 = some m.cls) (hX : Kx D cA lo tS s) (hRf : 2 ≤ R.frames) (hRl : 120 ≤ R.locals) {N : Nat} {rv : Int32} {g1 : Hg} {S : Hs} : ∀ (H : Heap) (locs : List Loc) (ls : Array Slot) (g : Hg) (a0 : Nat) (x1 : Int32) (x2 : Int32) (y3 : Int64), Mm D cA lo S g s H locs → Rf lo S a0 12 → lv_has ls 6 [(0, .ref a0), (1, .int x1), (2, .int x2), (3, .long y3)] → b_X12_add_0 N S g a0 x1 x2 y3 = some (rv, g1) → W p l e R s m args below meth c H locs 0 0 (MQ below (Qcx D cA lo S (some (.int rv)) S g1 True) args s 0 0 (fun q : Nat => lo ≤ q)) (F0 m 0 ls []) := by
  intro H locs ls g a0 x1 x2 y3 M ra0 hl q
  unfold b_X12_add_0 at q
  refine lv_aload_n hx hb dX12_add_0 rfl (lv_at hl 0 rfl) ?_
  refine lv_iload_n hx hb dX12_add_1 rfl (lv_at hl 1 rfl) ?_
  replace q := c2_s q
  obtain ⟨x_2, g_1, qc, q⟩ := q
  refine x_callV hx hb hml hl.1 hown hX M (S1 := S) (As := [.int x1]) (rest := []) okX12 ra0 rfl kw_1221 kw_14 mok_X12_isLog (c_X12_isLog ra0 qc (Nat.le_refl 1)) kw_1219 rfl rfl dX12_add_2 (Nat.le_of_ble_eq_true rfl) ⟨Nat.le_trans (by decide) hRf, Nat.le_trans (by decide) hRl⟩ (Nat.zero_le _) (Nat.zero_le _) (fun H locs M hEF => ?_)
  refine lv_if_eq (tgt := 19) hx hb dX12_add_5 (by decide) (fun c_3 => ?_) (fun c_3 => ?_)
  · replace q := if_t c_3 q
    refine lv_iconst (v := -1) hx hb dX12_add_19 (by decide) ?_
    cases q
    exact x_iret hx hb hr hlk M Ext.rf dX12_add_20
  · replace q := if_f c_3 q
    refine lv_aload_n hx hb dX12_add_8 rfl (lv_at hl 0 rfl) ?_
    refine lv_iload_n hx hb dX12_add_9 rfl (lv_at hl 1 rfl) ?_
    replace q := c2_s q
    obtain ⟨x_5, g_4, qc, q⟩ := q
    refine x_callV hx hb hml hl.1 hown hX M (S1 := S) (As := [.int x1]) (rest := []) okX12 ra0 rfl kw_1225 kw_15 mok_X12_many (c_X12_many ra0 qc (Nat.le_refl 1)) kw_1223 rfl rfl dX12_add_10 (Nat.le_of_ble_eq_true rfl) ⟨Nat.le_trans (by decide) hRf, Nat.le_trans (by decide) hRl⟩ (Nat.zero_le _) (Nat.zero_le _) (fun H locs M hEF => ?_)
    refine lv_sipush (v := 400) hx hb dX12_add_13 (by decide) ?_
    refine lv_icmp_ne (tgt := 21) hx hb dX12_add_16 (by decide) (fun c_6 => ?_) (fun c_6 => ?_)
    · replace q := if_f c_6 q
      refine lv_sipush (v := 400) hx hb dX12_add_21 (by decide) ?_
      refine lv_iload_n hx hb dX12_add_24 rfl (lv_at hl 1 rfl) ?_
      refine lv_imul hx hb dX12_add_25 ?_
      refine lv_aload_n hx hb dX12_add_26 rfl (lv_at hl 0 rfl) ?_
      refine lv_iload_n hx hb dX12_add_27 rfl (lv_at hl 1 rfl) ?_
      replace q := c2_s q
      obtain ⟨x_8, g_7, qc, q⟩ := q
      refine x_callV hx hb hml hl.1 hown hX M (S1 := S) (As := [.int x1]) (rest := [.int ((400 : Int32) * x1)]) okX12 ra0 rfl kw_1225 kw_15 mok_X12_many (c_X12_many ra0 qc (Nat.le_refl 1)) kw_1223 rfl rfl dX12_add_28 (Nat.le_of_ble_eq_true rfl) ⟨Nat.le_trans (by decide) hRf, Nat.le_trans (by decide) hRl⟩ (Nat.zero_le _) (Nat.zero_le _) (fun H locs M hEF => ?_)
      refine lv_iadd hx hb dX12_add_31 ?_
      refine lv_topi (fun x_9 e_x_9 => ?_)
      replace q := nm_s q e_x_9
      refine lv_istore (lv' := [(5, .int x_9), (0, .ref a0), (1, .int x1), (2, .int x2), (3, .long y3)]) hx hb dX12_add_32 hl (by decide) rfl (fun ls hl => ?_)
      refine lv_aload_n hx hb dX12_add_34 rfl (lv_at hl 1 rfl) ?_
      replace q := nn_s q
      obtain ⟨a_10, e_a_10, q⟩ := q
      refine x_getR hx hb hown hX M e_a_10 okX12 ra0 (by decide) rfl kw_1014 dX12_add_35 (fun ra_10 => ?_)
      refine lv_iload hx hb dX12_add_38 (lv_at hl 0 rfl) ?_
      refine lv_iload_n hx hb dX12_add_40 rfl (lv_at hl 3 rfl) ?_
      replace q := ck_s q
      obtain ⟨hin, q⟩ := q
      refine x_iast hx hb hX M ra_10 (inb_in hin) dX12_add_41 (fun H locs M => ?_)
      replace q := gen_g M q
      obtain ⟨g_11, -, M, q⟩ := q
      refine lv_aload_n hx hb dX12_add_42 rfl (lv_at hl 1 rfl) ?_
      replace q := nn_s q
      obtain ⟨a_12, e_a_12, q⟩ := q
      refine x_getR hx hb hown hX M e_a_12 okX12 ra0 (by decide) rfl kw_1015 dX12_add_43 (fun ra_12 => ?_)
      refine lv_iload hx hb dX12_add_46 (lv_at hl 0 rfl) ?_
      refine lv_lload_n hx hb dX12_add_48 rfl (lv_at hl 4 rfl) ?_
      replace q := ck_s q
      obtain ⟨hin, q⟩ := q
      refine x_last hx hb hX M ra_12 (inb_in hin) dX12_add_49 (fun H locs M => ?_)
      replace q := gen_g M q
      obtain ⟨g_13, -, M, q⟩ := q
      refine lv_aload_n hx hb dX12_add_50 rfl (lv_at hl 1 rfl) ?_
      replace q := nn_s q
      obtain ⟨a_14, e_a_14, q⟩ := q
      refine x_getR hx hb hown hX M e_a_14 okX12 ra0 (by decide) rfl kw_1016 dX12_add_51 (fun ra_14 => ?_)
      refine lv_iload hx hb dX12_add_54 (lv_at hl 0 rfl) ?_
      refine lv_iconst (v := 0) hx hb dX12_add_56 (by decide) ?_
      replace q := ck_s q
      obtain ⟨hin, q⟩ := q
      refine x_zast hx hb hX M ra_14 rfl (inb_in hin) dX12_add_57 (fun H locs M => ?_)
      replace q := gen_g M q
      obtain ⟨g_15, -, M, q⟩ := q
      refine lv_aload_n hx hb dX12_add_58 rfl (lv_at hl 1 rfl) ?_
      replace q := nn_s q
      obtain ⟨a_16, e_a_16, q⟩ := q
      refine x_getR hx hb hown hX M e_a_16 okX12 ra0 (by decide) rfl kw_1017 dX12_add_59 (fun ra_16 => ?_)
      refine lv_iload hx hb dX12_add_62 (lv_at hl 0 rfl) ?_
      refine lv_iconst (v := 0) hx hb dX12_add_64 (by decide) ?_
      replace q := ck_s q
      obtain ⟨hin, q⟩ := q
      refine x_zast hx hb hX M ra_16 rfl (inb_in hin) dX12_add_65 (fun H locs M => ?_)
      replace q := gen_g M q
      obtain ⟨g_17, -, M, q⟩ := q
      refine lv_aload_n hx hb dX12_add_66 rfl (lv_at hl 1 rfl) ?_
      replace q := nn_s q
      obtain ⟨a_18, e_a_18, q⟩ := q
      refine x_getR hx hb hown hX M e_a_18 okX12 ra0 (by decide) rfl kw_1012 dX12_add_67 (fun ra_18 => ?_)
      refine lv_iconst (v := 4) hx hb dX12_add_70 (by decide) ?_
      refine lv_iload_n hx hb dX12_add_71 rfl (lv_at hl 2 rfl) ?_
      refine lv_imul hx hb dX12_add_72 ?_
      refine lv_iconst (v := 1) hx hb dX12_add_73 (by decide) ?_
      refine lv_iadd hx hb dX12_add_74 ?_
      refine lv_dup2_11 hx hb dX12_add_75 rfl rfl ?_
      replace q := ck_s q
      obtain ⟨hin, q⟩ := q
      refine x_iald hx hb hX M ra_18 (inb_in hin) dX12_add_76 ?_
      refine lv_iconst (v := 1) hx hb dX12_add_77 (by decide) ?_
      refine lv_iadd hx hb dX12_add_78 ?_
      replace q := ck_s q
      obtain ⟨hin, q⟩ := q
      refine x_iast hx hb hX M ra_18 (inb_in hin) dX12_add_79 (fun H locs M => ?_)
      replace q := gen_g M q
      obtain ⟨g_19, -, M, q⟩ := q
      refine lv_aload_n hx hb dX12_add_80 rfl (lv_at hl 1 rfl) ?_
      refine lv_iload_n hx hb dX12_add_81 rfl (lv_at hl 2 rfl) ?_
      replace q := c2_s q
      obtain ⟨x_21, g_20, qc, q⟩ := q
      refine x_callV hx hb hml hl.1 hown hX M (S1 := S) (As := [.int x1]) (rest := []) okX12 ra0 rfl kw_1225 kw_15 mok_X12_many (c_X12_many ra0 qc (Nat.le_refl 1)) kw_1223 rfl rfl dX12_add_82 (Nat.le_of_ble_eq_true rfl) ⟨Nat.le_trans (by decide) hRf, Nat.le_trans (by decide) hRl⟩ (Nat.zero_le _) (Nat.zero_le _) (fun H locs M hEF => ?_)
      cases q
      exact x_iret hx hb hr hlk M Ext.rf dX12_add_85
    · replace q := if_t c_6 q
      refine lv_iconst (v := -1) hx hb dX12_add_19 (by decide) ?_
      cases q
      exact x_iret hx hb hr hlk M Ext.rf dX12_add_20
set_option maxRecDepth 100000 in
theorem c_X12_add {l : Launch} {D : va_G} {cA : Nat → ClassId} {lo tS N : Nat} {S : Hs} {g g1 : Hg} {rv : Int32} {a0 : Nat} {x1 : Int32} {x2 : Int32} {y3 : Int64} (ra0 : Rf lo S a0 12) (q : f_X12_add N S g a0 x1 x2 y3 = some (rv, g1)) {d : Nat} (hd : 2 ≤ d) : Ctr l yX12_add cX12_add 6 (some .int) D cA lo tS [.ref a0, .int x1, .int x2, .long y3] S g d (some (.int rv)) S g1 True 0 0 := by
  refine x_met (by decide) (Nat.le_of_ble_eq_true rfl) ?_
  intro p e s m below meth c ls hx hb hml hr hlk hown hnm hX M hl
  exact w_X12_add_0 hx hb hml hr hlk hown hX hd (Nat.mul_le_mul_left 60 hd) (N := N) _ _ _ _ _ _ _ _ M ra0 (lv_sub hl [0, 1, 2, 3] rfl) q
def b_X12_all_107 (N : Nat) (S : Hs) (k107 : Hg → Nat → Int32 → Int32 → Option (Int32 × Hg)) (g : Hg) (a0 : Nat) (x2 : Int32) (x3 : Int32) : Option (Int32 × Hg) :=
if (rdI g a0 1) ≤ x3 then (
some (x2, g)) else (
c2 (f_X12_many N S g a0 x3) (fun x_3 g_2 =>
nm (x2 + x_3) (fun x_4 =>
nm (x3 + 1) (fun x_5 =>
k107 g_2 a0 x_4 x_5))))
def n_X12_all_107 (N : Nat) (S : Hs) : Nat → Hg → Nat → Int32 → Int32 → Option (Int32 × Hg)
  | 0 => fun _ _ _ _ => none
  | n + 1 => fun g a0 x2 x3 => b_X12_all_107 N S (n_X12_all_107 N S n) g a0 x2 x3
def b_X12_all_74 (N : Nat) (S : Hs) (k74 : Hg → Nat → Int32 → Int32 → Option (Int32 × Hg)) (g : Hg) (a0 : Nat) (x2 : Int32) (x3 : Int32) : Option (Int32 × Hg) :=
if (12 : Int32) ≤ x3 then (
some (x2, g)) else (
nn (rdR g a0 14) (fun a_2 =>
ck (inb x3 (hpL S a_2)) (
if (rdI g a_2 x3.toNatClampNeg) = 0 then (
nm (x3 + 1) (fun x_4 =>
k74 g a0 x2 x_4)) else (
nm (x2 + 1) (fun x_5 =>
nm (x3 + 1) (fun x_6 =>
k74 g a0 x_5 x_6))))))
def n_X12_all_74 (N : Nat) (S : Hs) : Nat → Hg → Nat → Int32 → Int32 → Option (Int32 × Hg)
  | 0 => fun _ _ _ _ => none
  | n + 1 => fun g a0 x2 x3 => b_X12_all_74 N S (n_X12_all_74 N S n) g a0 x2 x3
def b_X12_all_43 (N : Nat) (S : Hs) (k43 : Hg → Nat → Int32 → Int32 → Option (Int32 × Hg)) (g : Hg) (a0 : Nat) (x2 : Int32) (x3 : Int32) : Option (Int32 × Hg) :=
if (16 : Int32) ≤ x3 then (
some (x2, g)) else (
nn (rdR g a0 9) (fun a_2 =>
ck (inb ((8 : Int32) * x3) (hpL S a_2)) (
if (rdI g a_2 ((8 : Int32) * x3).toNatClampNeg) ≤ 0 then (
nm (x3 + 1) (fun x_4 =>
k43 g a0 x2 x_4)) else (
nm (x2 + 1) (fun x_5 =>
nm (x3 + 1) (fun x_6 =>
k43 g a0 x_5 x_6))))))
def n_X12_all_43 (N : Nat) (S : Hs) : Nat → Hg → Nat → Int32 → Int32 → Option (Int32 × Hg)
  | 0 => fun _ _ _ _ => none
  | n + 1 => fun g a0 x2 x3 => b_X12_all_43 N S (n_X12_all_43 N S n) g a0 x2 x3
def b_X12_all_0 (N : Nat) (S : Hs) (g : Hg) (a0 : Nat) (x1 : Int32) : Option (Int32 × Hg) :=
nm x1 (fun x_1 =>
if x_1 = 0 then (
some ((rdI g a0 1), g)) else (
if x_1 = 1 then (
n_X12_all_43 N S N g a0 (0 : Int32) (0 : Int32)) else (
if x_1 = 2 then (
n_X12_all_74 N S N g a0 (0 : Int32) (0 : Int32)) else (
if x_1 = 3 then (
some ((rdI g a0 16), g)) else (
if x_1 = 4 then (
n_X12_all_107 N S N g a0 (0 : Int32) (0 : Int32)) else (
some ((-1 : Int32), g)))))))
def f_X12_all (N : Nat) (S : Hs) (g : Hg) (a0 : Nat) (x1 : Int32) : Option (Int32 × Hg) := b_X12_all_0 N S g a0 x1
set_option maxHeartbeats 4000000 in
set_option maxRecDepth 100000 in
theorem w_X12_all_107 (hx : p.tables.exec = Jvm.exec) (hb : c.code = cX12_all) (hml : c.maxLocals = 4) (hr : meth.sig.returnType = (some .int)) (hlk : meth.locks = false) (hown : s.vm.findClass RX12 = some m.cls) (hX : Kx D cA lo tS s) (hRf : 2 ≤ R.frames) (hRl : 120 ≤ R.locals) {N : Nat} {rv : Int32} {g1 : Hg} {S : Hs} {k107 : Hg → Nat → Int32 → Int32 → Option (Int32 × Hg)} (hk107 : ∀ (H : Heap) (locs : List Loc) (ls : Array Slot) (g : Hg) (a0 : Nat) (x2 : Int32) (x3 : Int32), Mm D cA lo S g s H locs → Rf lo S a0 12 → lv_has ls 4 [(0, .ref a0), (2, .int x2), (3, .int x3)] → k107 g a0 x2 x3 = some (rv, g1) → W p l e R s m args below meth c H locs 0 0 (MQ below (Qcx D cA lo S (some (.int rv)) S g1 True) args s 0 0 (fun q : Nat => lo ≤ q)) (F0 m 107 ls [])) : ∀ (H : Heap) (locs : List Loc) (ls : Array Slot) (g : Hg) (a0 : Nat) (x2 : Int32) (x3 : Int32), Mm D cA lo S g s H locs → Rf lo S a0 12 → lv_has ls 4 [(0, .ref a0), (2, .int x2), (3, .int x3)] → b_X12_all_107 N S k107 g a0 x2 x3 = some (rv, g1) → W p l e R s m args below meth c H locs 0 0 (MQ below (Qcx D cA lo S (some (.int rv)) S g1 True) args s 0 0 (fun q : Nat => lo ≤ q)) (F0 m 107 ls []) := by
  intro H locs ls g a0 x2 x3 M ra0 hl q
  unfold b_X12_all_107 at q
  refine lv_iload_n hx hb dX12_all_107 rfl (lv_at hl 2 rfl) ?_
  refine lv_aload_n hx hb dX12_all_108 rfl (lv_at hl 0 rfl) ?_
  refine x_getI hx hb hown hX M (k := 1) okX12 ra0 (by decide) rfl kw_1013 dX12_all_109 ?_
  refine lv_icmp_ge (tgt := 129) hx hb dX12_all_112 (by decide) (fun c_1 => ?_) (fun c_1 => ?_)
  · replace q := if_t c_1 q
    refine lv_iload_n hx hb dX12_all_129 rfl (lv_at hl 1 rfl) ?_
    cases q
    exact x_iret hx hb hr hlk M Ext.rf dX12_all_130
  · replace q := if_f c_1 q
    refine lv_iload_n hx hb dX12_all_115 rfl (lv_at hl 1 rfl) ?_
    refine lv_aload_n hx hb dX12_all_116 rfl (lv_at hl 0 rfl) ?_
    refine lv_iload_n hx hb dX12_all_117 rfl (lv_at hl 2 rfl) ?_
    replace q := c2_s q
    obtain ⟨x_3, g_2, qc, q⟩ := q
    refine x_callV hx hb hml hl.1 hown hX M (S1 := S) (As := [.int x3]) (rest := [.int x2]) okX12 ra0 rfl kw_1225 kw_15 mok_X12_many (c_X12_many ra0 qc (Nat.le_refl 1)) kw_1223 rfl rfl dX12_all_118 (Nat.le_of_ble_eq_true rfl) ⟨Nat.le_trans (by decide) hRf, Nat.le_trans (by decide) hRl⟩ (Nat.zero_le _) (Nat.zero_le _) (fun H locs M hEF => ?_)
    refine lv_iadd hx hb dX12_all_121 ?_
    refine lv_topi (fun x_4 e_x_4 => ?_)
    replace q := nm_s q e_x_4
    refine lv_istore_n (lv' := [(2, .int x_4), (0, .ref a0), (3, .int x3)]) hx hb dX12_all_122 rfl hl (by decide) rfl (fun ls hl => ?_)
    obtain ⟨x_5, e_x_5⟩ : ∃ y : Int32, y = x3 + 1 := ⟨_, rfl⟩
    replace q := nm_s q e_x_5
    refine lv_iinc (v := x_5) (lv' := [(3, .int x_5), (2, .int x_4), (0, .ref a0)]) hx hb dX12_all_123 hl (k := 2) rfl (by rw [e_x_5]; rfl) (by decide) rfl (fun ls hl => ?_)
    refine lv_goto (tgt := 107) hx hb dX12_all_126 (by decide) ?_
    exact hk107 _ _ _ _ _ _ _ M ra0 (lv_sub hl [2, 1, 0] rfl) q
set_option maxRecDepth 100000 in
theorem l_X12_all_107 (hx : p.tables.exec = Jvm.exec) (hb : c.code = cX12_all) (hml : c.maxLocals = 4) (hr : meth.sig.returnType = (some .int)) (hlk : meth.locks = false) (hown : s.vm.findClass RX12 = some m.cls) (hX : Kx D cA lo tS s) (hRf : 2 ≤ R.frames) (hRl : 120 ≤ R.locals) {N : Nat} {rv : Int32} {g1 : Hg} {S : Hs} : ∀ (n : Nat), ∀ (H : Heap) (locs : List Loc) (ls : Array Slot) (g : Hg) (a0 : Nat) (x2 : Int32) (x3 : Int32), Mm D cA lo S g s H locs → Rf lo S a0 12 → lv_has ls 4 [(0, .ref a0), (2, .int x2), (3, .int x3)] → n_X12_all_107 N S n g a0 x2 x3 = some (rv, g1) → W p l e R s m args below meth c H locs 0 0 (MQ below (Qcx D cA lo S (some (.int rv)) S g1 True) args s 0 0 (fun q : Nat => lo ≤ q)) (F0 m 107 ls []) := by
  intro n
  induction n with
  | zero =>
    intro H locs ls g a0 x2 x3 M ra0 hl q
    exact absurd q (by simp [n_X12_all_107])
  | succ n ih => exact w_X12_all_107 hx hb hml hr hlk hown hX hRf hRl (N := N)  ih
set_option maxHeartbeats 4000000 in
set_option maxRecDepth 100000 in
theorem w_X12_all_74 (hx : p.tables.exec = Jvm.exec) (hb : c.code = cX12_all) (hml : c.maxLocals = 4) (hr : meth.sig.returnType = (some .int)) (hlk : meth.locks = false) (hown : s.vm.findClass RX12 = some m.cls) (hX : Kx D cA lo tS s) (hRf : 2 ≤ R.frames) (hRl : 120 ≤ R.locals) {N : Nat} {rv : Int32} {g1 : Hg} {S : Hs} {k74 : Hg → Nat → Int32 → Int32 → Option (Int32 × Hg)} (hk74 : ∀ (H : Heap) (locs : List Loc) (ls : Array Slot) (g : Hg) (a0 : Nat) (x2 : Int32) (x3 : Int32), Mm D cA lo S g s H locs → Rf lo S a0 12 → lv_has ls 4 [(0, .ref a0), (2, .int x2), (3, .int x3)] → k74 g a0 x2 x3 = some (rv, g1) → W p l e R s m args below meth c H locs 0 0 (MQ below (Qcx D cA lo S (some (.int rv)) S g1 True) args s 0 0 (fun q : Nat => lo ≤ q)) (F0 m 74 ls [])) : ∀ (H : Heap) (locs : List Loc) (ls : Array Slot) (g : Hg) (a0 : Nat) (x2 : Int32) (x3 : Int32), Mm D cA lo S g s H locs → Rf lo S a0 12 → lv_has ls 4 [(0, .ref a0), (2, .int x2), (3, .int x3)] → b_X12_all_74 N S k74 g a0 x2 x3 = some (rv, g1) → W p l e R s m args below meth c H locs 0 0 (MQ below (Qcx D cA lo S (some (.int rv)) S g1 True) args s 0 0 (fun q : Nat => lo ≤ q)) (F0 m 74 ls []) := by
  intro H locs ls g a0 x2 x3 M ra0 hl q
  unfold b_X12_all_74 at q
  refine lv_iload_n hx hb dX12_all_74 rfl (lv_at hl 2 rfl) ?_
  refine lv_bipush (v := 12) hx hb dX12_all_75 (by decide) ?_
  refine lv_icmp_ge (tgt := 98) hx hb dX12_all_77 (by decide) (fun c_1 => ?_) (fun c_1 => ?_)
  · replace q := if_t c_1 q
    refine lv_iload_n hx hb dX12_all_98 rfl (lv_at hl 1 rfl) ?_
    cases q
    exact x_iret hx hb hr hlk M Ext.rf dX12_all_99
  · replace q := if_f c_1 q
    refine lv_aload_n hx hb dX12_all_80 rfl (lv_at hl 0 rfl) ?_
    replace q := nn_s q
    obtain ⟨a_2, e_a_2, q⟩ := q
    refine x_getR hx hb hown hX M e_a_2 okX12 ra0 (by decide) rfl kw_1026 dX12_all_81 (fun ra_2 => ?_)
    refine lv_iload_n hx hb dX12_all_84 rfl (lv_at hl 2 rfl) ?_
    replace q := ck_s q
    obtain ⟨hin, q⟩ := q
    refine x_zald hx hb hX M ra_2 (inb_in hin) dX12_all_85 ?_
    refine lv_if_eq (tgt := 92) hx hb dX12_all_86 (by decide) (fun c_3 => ?_) (fun c_3 => ?_)
    · replace q := if_t c_3 q
      obtain ⟨x_4, e_x_4⟩ : ∃ y : Int32, y = x3 + 1 := ⟨_, rfl⟩
      replace q := nm_s q e_x_4
      refine lv_iinc (v := x_4) (lv' := [(3, .int x_4), (0, .ref a0), (2, .int x2)]) hx hb dX12_all_92 hl (k := 2) rfl (by rw [e_x_4]; rfl) (by decide) rfl (fun ls hl => ?_)
      refine lv_goto (tgt := 74) hx hb dX12_all_95 (by decide) ?_
      exact hk74 _ _ _ _ _ _ _ M ra0 (lv_sub hl [1, 2, 0] rfl) q
    · replace q := if_f c_3 q
      obtain ⟨x_5, e_x_5⟩ : ∃ y : Int32, y = x2 + 1 := ⟨_, rfl⟩
      replace q := nm_s q e_x_5
      refine lv_iinc (v := x_5) (lv' := [(2, .int x_5), (0, .ref a0), (3, .int x3)]) hx hb dX12_all_89 hl (k := 1) rfl (by rw [e_x_5]; rfl) (by decide) rfl (fun ls hl => ?_)
      obtain ⟨x_6, e_x_6⟩ : ∃ y : Int32, y = x3 + 1 := ⟨_, rfl⟩
      replace q := nm_s q e_x_6
      refine lv_iinc (v := x_6) (lv' := [(3, .int x_6), (2, .int x_5), (0, .ref a0)]) hx hb dX12_all_92 hl (k := 2) rfl (by rw [e_x_6]; rfl) (by decide) rfl (fun ls hl => ?_)
      refine lv_goto (tgt := 74) hx hb dX12_all_95 (by decide) ?_
      exact hk74 _ _ _ _ _ _ _ M ra0 (lv_sub hl [2, 1, 0] rfl) q
set_option maxRecDepth 100000 in
theorem l_X12_all_74 (hx : p.tables.exec = Jvm.exec) (hb : c.code = cX12_all) (hml : c.maxLocals = 4) (hr : meth.sig.returnType = (some .int)) (hlk : meth.locks = false) (hown : s.vm.findClass RX12 = some m.cls) (hX : Kx D cA lo tS s) (hRf : 2 ≤ R.frames) (hRl : 120 ≤ R.locals) {N : Nat} {rv : Int32} {g1 : Hg} {S : Hs} : ∀ (n : Nat), ∀ (H : Heap) (locs : List Loc) (ls : Array Slot) (g : Hg) (a0 : Nat) (x2 : Int32) (x3 : Int32), Mm D cA lo S g s H locs → Rf lo S a0 12 → lv_has ls 4 [(0, .ref a0), (2, .int x2), (3, .int x3)] → n_X12_all_74 N S n g a0 x2 x3 = some (rv, g1) → W p l e R s m args below meth c H locs 0 0 (MQ below (Qcx D cA lo S (some (.int rv)) S g1 True) args s 0 0 (fun q : Nat => lo ≤ q)) (F0 m 74 ls []) := by
  intro n
  induction n with
  | zero =>
    intro H locs ls g a0 x2 x3 M ra0 hl q
    exact absurd q (by simp [n_X12_all_74])
  | succ n ih => exact w_X12_all_74 hx hb hml hr hlk hown hX hRf hRl (N := N)  ih
set_option maxHeartbeats 4000000 in
set_option maxRecDepth 100000 in
theorem w_X12_all_43 (hx : p.tables.exec = Jvm.exec) (hb : c.code = cX12_all) (hml : c.maxLocals = 4) (hr : meth.sig.returnType = (some .int)) (hlk : meth.locks = false) (hown : s.vm.findClass RX12 = some m.cls) (hX : Kx D cA lo tS s) (hRf : 2 ≤ R.frames) (hRl : 120 ≤ R.locals) {N : Nat} {rv : Int32} {g1 : Hg} {S : Hs} {k43 : Hg → Nat → Int32 → Int32 → Option (Int32 × Hg)} (hk43 : ∀ (H : Heap) (locs : List Loc) (ls : Array Slot) (g : Hg) (a0 : Nat) (x2 : Int32) (x3 : Int32), Mm D cA lo S g s H locs → Rf lo S a0 12 → lv_has ls 4 [(0, .ref a0), (2, .int x2), (3, .int x3)] → k43 g a0 x2 x3 = some (rv, g1) → W p l e R s m args below meth c H locs 0 0 (MQ below (Qcx D cA lo S (some (.int rv)) S g1 True) args s 0 0 (fun q : Nat => lo ≤ q)) (F0 m 43 ls [])) : ∀ (H : Heap) (locs : List Loc) (ls : Array Slot) (g : Hg) (a0 : Nat) (x2 : Int32) (x3 : Int32), Mm D cA lo S g s H locs → Rf lo S a0 12 → lv_has ls 4 [(0, .ref a0), (2, .int x2), (3, .int x3)] → b_X12_all_43 N S k43 g a0 x2 x3 = some (rv, g1) → W p l e R s m args below meth c H locs 0 0 (MQ below (Qcx D cA lo S (some (.int rv)) S g1 True) args s 0 0 (fun q : Nat => lo ≤ q)) (F0 m 43 ls []) := by
  intro H locs ls g a0 x2 x3 M ra0 hl q
  unfold b_X12_all_43 at q
  refine lv_iload_n hx hb dX12_all_43 rfl (lv_at hl 2 rfl) ?_
  refine lv_bipush (v := 16) hx hb dX12_all_44 (by decide) ?_
  refine lv_icmp_ge (tgt := 70) hx hb dX12_all_46 (by decide) (fun c_1 => ?_) (fun c_1 => ?_)
  · replace q := if_t c_1 q
    refine lv_iload_n hx hb dX12_all_70 rfl (lv_at hl 1 rfl) ?_
    cases q
    exact x_iret hx hb hr hlk M Ext.rf dX12_all_71
  · replace q := if_f c_1 q
    refine lv_aload_n hx hb dX12_all_49 rfl (lv_at hl 0 rfl) ?_
    replace q := nn_s q
    obtain ⟨a_2, e_a_2, q⟩ := q
    refine x_getR hx hb hown hX M e_a_2 okX12 ra0 (by decide) rfl kw_1021 dX12_all_50 (fun ra_2 => ?_)
    refine lv_bipush (v := 8) hx hb dX12_all_53 (by decide) ?_
    refine lv_iload_n hx hb dX12_all_55 rfl (lv_at hl 2 rfl) ?_
    refine lv_imul hx hb dX12_all_56 ?_
    replace q := ck_s q
    obtain ⟨hin, q⟩ := q
    refine x_iald hx hb hX M ra_2 (inb_in hin) dX12_all_57 ?_
    refine lv_if_le (tgt := 64) hx hb dX12_all_58 (by decide) (fun c_3 => ?_) (fun c_3 => ?_)
    · replace q := if_t c_3 q
      obtain ⟨x_4, e_x_4⟩ : ∃ y : Int32, y = x3 + 1 := ⟨_, rfl⟩
      replace q := nm_s q e_x_4
      refine lv_iinc (v := x_4) (lv' := [(3, .int x_4), (0, .ref a0), (2, .int x2)]) hx hb dX12_all_64 hl (k := 2) rfl (by rw [e_x_4]; rfl) (by decide) rfl (fun ls hl => ?_)
      refine lv_goto (tgt := 43) hx hb dX12_all_67 (by decide) ?_
      exact hk43 _ _ _ _ _ _ _ M ra0 (lv_sub hl [1, 2, 0] rfl) q
    · replace q := if_f c_3 q
      obtain ⟨x_5, e_x_5⟩ : ∃ y : Int32, y = x2 + 1 := ⟨_, rfl⟩
      replace q := nm_s q e_x_5
      refine lv_iinc (v := x_5) (lv' := [(2, .int x_5), (0, .ref a0), (3, .int x3)]) hx hb dX12_all_61 hl (k := 1) rfl (by rw [e_x_5]; rfl) (by decide) rfl (fun ls hl => ?_)
      obtain ⟨x_6, e_x_6⟩ : ∃ y : Int32, y = x3 + 1 := ⟨_, rfl⟩
      replace q := nm_s q e_x_6
      refine lv_iinc (v := x_6) (lv' := [(3, .int x_6), (2, .int x_5), (0, .ref a0)]) hx hb dX12_all_64 hl (k := 2) rfl (by rw [e_x_6]; rfl) (by decide) rfl (fun ls hl => ?_)
      refine lv_goto (tgt := 43) hx hb dX12_all_67 (by decide) ?_
      exact hk43 _ _ _ _ _ _ _ M ra0 (lv_sub hl [2, 1, 0] rfl) q
set_option maxRecDepth 100000 in
theorem l_X12_all_43 (hx : p.tables.exec = Jvm.exec) (hb : c.code = cX12_all) (hml : c.maxLocals = 4) (hr : meth.sig.returnType = (some .int)) (hlk : meth.locks = false) (hown : s.vm.findClass RX12 = some m.cls) (hX : Kx D cA lo tS s) (hRf : 2 ≤ R.frames) (hRl : 120 ≤ R.locals) {N : Nat} {rv : Int32} {g1 : Hg} {S : Hs} : ∀ (n : Nat), ∀ (H : Heap) (locs : List Loc) (ls : Array Slot) (g : Hg) (a0 : Nat) (x2 : Int32) (x3 : Int32), Mm D cA lo S g s H locs → Rf lo S a0 12 → lv_has ls 4 [(0, .ref a0), (2, .int x2), (3, .int x3)] → n_X12_all_43 N S n g a0 x2 x3 = some (rv, g1) → W p l e R s m args below meth c H locs 0 0 (MQ below (Qcx D cA lo S (some (.int rv)) S g1 True) args s 0 0 (fun q : Nat => lo ≤ q)) (F0 m 43 ls []) := by
  intro n
  induction n with
  | zero =>
    intro H locs ls g a0 x2 x3 M ra0 hl q
    exact absurd q (by simp [n_X12_all_43])
  | succ n ih => exact w_X12_all_43 hx hb hml hr hlk hown hX hRf hRl (N := N)  ih
set_option maxHeartbeats 4000000 in
set_option maxRecDepth 100000 in
theorem w_X12_all_0 (hx : p.tables.exec = Jvm.exec) (hb : c.code = cX12_all) (hml : c.maxLocals = 4) (hr : meth.sig.returnType = (some .int)) (hlk : meth.locks = false) (hown : s.vm.findClass RX12 = some m.cls) (hX : Kx D cA lo tS s) (hRf : 2 ≤ R.frames) (hRl : 120 ≤ R.locals) {N : Nat} {rv : Int32} {g1 : Hg} {S : Hs} : ∀ (H : Heap) (locs : List Loc) (ls : Array Slot) (g : Hg) (a0 : Nat) (x1 : Int32), Mm D cA lo S g s H locs → Rf lo S a0 12 → lv_has ls 4 [(0, .ref a0), (1, .int x1)] → b_X12_all_0 N S g a0 x1 = some (rv, g1) → W p l e R s m args below meth c H locs 0 0 (MQ below (Qcx D cA lo S (some (.int rv)) S g1 True) args s 0 0 (fun q : Nat => lo ≤ q)) (F0 m 0 ls []) := by
  intro H locs ls g a0 x1 M ra0 hl q
  unfold b_X12_all_0 at q
  refine lv_iconst (v := 0) hx hb dX12_all_0 (by decide) ?_
  refine lv_istore_n (lv' := [(2, .int (0 : Int32)), (0, .ref a0), (1, .int x1)]) hx hb dX12_all_1 rfl hl (by decide) rfl (fun ls hl => ?_)
  refine lv_iload_n hx hb dX12_all_2 rfl (lv_at hl 2 rfl) ?_
  refine lv_topi (fun x_1 e_x_1 => ?_)
  replace q := nm_s q e_x_1
  clear e_x_1
  by_cases cx_1_0 : x_1 = 0
  · replace q := if_t cx_1_0 q
    subst cx_1_0
    refine lv_tableIn (off := 33) (tgt := 36) hx hb dX12_all_3 (by decide) (by decide) (by decide) (by decide) ?_
    refine lv_aload_n hx hb dX12_all_36 rfl (lv_at hl 1 rfl) ?_
    refine x_getI hx hb hown hX M (k := 1) okX12 ra0 (by decide) rfl kw_1013 dX12_all_37 ?_
    cases q
    exact x_iret hx hb hr hlk M Ext.rf dX12_all_40
  replace q := if_f cx_1_0 q
  by_cases cx_1_1 : x_1 = 1
  · replace q := if_t cx_1_1 q
    subst cx_1_1
    refine lv_tableIn (off := 38) (tgt := 41) hx hb dX12_all_3 (by decide) (by decide) (by decide) (by decide) ?_
    refine lv_iconst (v := 0) hx hb dX12_all_41 (by decide) ?_
    refine lv_istore_n (lv' := [(3, .int (0 : Int32)), (2, .int (0 : Int32)), (0, .ref a0), (1, .int x1)]) hx hb dX12_all_42 rfl hl (by decide) rfl (fun ls hl => ?_)
    exact l_X12_all_43 hx hb hml hr hlk hown hX hRf hRl (N := N)  N _ _ _ _ _ _ _ M ra0 (lv_sub hl [2, 1, 0] rfl) q
  replace q := if_f cx_1_1 q
  by_cases cx_1_2 : x_1 = 2
  · replace q := if_t cx_1_2 q
    subst cx_1_2
    refine lv_tableIn (off := 69) (tgt := 72) hx hb dX12_all_3 (by decide) (by decide) (by decide) (by decide) ?_
    refine lv_iconst (v := 0) hx hb dX12_all_72 (by decide) ?_
    refine lv_istore_n (lv' := [(3, .int (0 : Int32)), (2, .int (0 : Int32)), (0, .ref a0), (1, .int x1)]) hx hb dX12_all_73 rfl hl (by decide) rfl (fun ls hl => ?_)
    exact l_X12_all_74 hx hb hml hr hlk hown hX hRf hRl (N := N)  N _ _ _ _ _ _ _ M ra0 (lv_sub hl [2, 1, 0] rfl) q
  replace q := if_f cx_1_2 q
  by_cases cx_1_3 : x_1 = 3
  · replace q := if_t cx_1_3 q
    subst cx_1_3
    refine lv_tableIn (off := 97) (tgt := 100) hx hb dX12_all_3 (by decide) (by decide) (by decide) (by decide) ?_
    refine lv_aload_n hx hb dX12_all_100 rfl (lv_at hl 1 rfl) ?_
    refine x_getI hx hb hown hX M (k := 16) okX12 ra0 (by decide) rfl kw_1028 dX12_all_101 ?_
    cases q
    exact x_iret hx hb hr hlk M Ext.rf dX12_all_104
  replace q := if_f cx_1_3 q
  by_cases cx_1_4 : x_1 = 4
  · replace q := if_t cx_1_4 q
    subst cx_1_4
    refine lv_tableIn (off := 102) (tgt := 105) hx hb dX12_all_3 (by decide) (by decide) (by decide) (by decide) ?_
    refine lv_iconst (v := 0) hx hb dX12_all_105 (by decide) ?_
    refine lv_istore_n (lv' := [(3, .int (0 : Int32)), (2, .int (0 : Int32)), (0, .ref a0), (1, .int x1)]) hx hb dX12_all_106 rfl hl (by decide) rfl (fun ls hl => ?_)
    exact l_X12_all_107 hx hb hml hr hlk hown hX hRf hRl (N := N)  N _ _ _ _ _ _ _ M ra0 (lv_sub hl [2, 1, 0] rfl) q
  replace q := if_f cx_1_4 q
  refine lv_tableOut (tgt := 131) hx hb dX12_all_3 (sw_def (fun z h1 h2 => ?_)) (by decide) ?_
  · have hz : z = 0 ∨ z = 1 ∨ z = 2 ∨ z = 3 ∨ z = 4 := by omega
    rcases hz with rfl | rfl | rfl | rfl | rfl
    · exact cx_1_0
    · exact cx_1_1
    · exact cx_1_2
    · exact cx_1_3
    · exact cx_1_4
  · refine lv_iconst (v := -1) hx hb dX12_all_131 (by decide) ?_
    cases q
    exact x_iret hx hb hr hlk M Ext.rf dX12_all_132
set_option maxRecDepth 100000 in
theorem c_X12_all {l : Launch} {D : va_G} {cA : Nat → ClassId} {lo tS N : Nat} {S : Hs} {g g1 : Hg} {rv : Int32} {a0 : Nat} {x1 : Int32} (ra0 : Rf lo S a0 12) (q : f_X12_all N S g a0 x1 = some (rv, g1)) {d : Nat} (hd : 2 ≤ d) : Ctr l yX12_all cX12_all 4 (some .int) D cA lo tS [.ref a0, .int x1] S g d (some (.int rv)) S g1 True 0 0 := by
  refine x_met (by decide) (Nat.le_of_ble_eq_true rfl) ?_
  intro p e s m below meth c ls hx hb hml hr hlk hown hnm hX M hl
  exact w_X12_all_0 hx hb hml hr hlk hown hX hd (Nat.mul_le_mul_left 60 hd) (N := N) _ _ _ _ _ _ M ra0 (lv_sub hl [0, 1] rfl) q
def b_X12_ints_2 (N : Nat) (S : Hs) (k2 : Hg → Nat → Nat → Int32 → Option (Unit × Hg)) (g : Hg) (a0 : Nat) (a1 : Nat) (x2 : Int32) : Option (Unit × Hg) :=
if (nI (hpL S a0)) ≤ x2 then (
some ((), g)) else (
ck (inb x2 (hpL S a0)) (
ck (inb x2 (hpL S a1)) (
nm (wrI g a1 x2.toNatClampNeg (rdI g a0 x2.toNatClampNeg)) (fun g_2 =>
nm (x2 + 1) (fun x_3 =>
k2 g_2 a0 a1 x_3)))))
def n_X12_ints_2 (N : Nat) (S : Hs) : Nat → Hg → Nat → Nat → Int32 → Option (Unit × Hg)
  | 0 => fun _ _ _ _ => none
  | n + 1 => fun g a0 a1 x2 => b_X12_ints_2 N S (n_X12_ints_2 N S n) g a0 a1 x2
def b_X12_ints_0 (N : Nat) (S : Hs) (g : Hg) (a0 : Nat) (a1 : Nat) : Option (Unit × Hg) :=
n_X12_ints_2 N S N g a0 a1 (0 : Int32)
def f_X12_ints (N : Nat) (S : Hs) (g : Hg) (a0 : Nat) (a1 : Nat) : Option (Unit × Hg) := b_X12_ints_0 N S g a0 a1
set_option maxHeartbeats 4000000 in
set_option maxRecDepth 100000 in
theorem w_X12_ints_2 (hx : p.tables.exec = Jvm.exec) (hb : c.code = cX12_ints) (hml : c.maxLocals = 3) (hr : meth.sig.returnType = none) (hlk : meth.locks = false) (hown : s.vm.findClass RX12 = some m.cls) (hX : Kx D cA lo tS s) (hRf : 1 ≤ R.frames) (hRl : 60 ≤ R.locals) {N : Nat} {rv : Unit} {g1 : Hg} {S : Hs} {k2 : Hg → Nat → Nat → Int32 → Option (Unit × Hg)} (hk2 : ∀ (H : Heap) (locs : List Loc) (ls : Array Slot) (g : Hg) (a0 : Nat) (a1 : Nat) (x2 : Int32), Mm D cA lo S g s H locs → Rf lo S a0 20 → Rf lo S a1 20 → lv_has ls 3 [(0, .ref a0), (1, .ref a1), (2, .int x2)] → k2 g a0 a1 x2 = some (rv, g1) → W p l e R s m args below meth c H locs 0 0 (MQ below (Qcx D cA lo S none S g1 True) args s 0 0 (fun q : Nat => lo ≤ q)) (F0 m 2 ls [])) : ∀ (H : Heap) (locs : List Loc) (ls : Array Slot) (g : Hg) (a0 : Nat) (a1 : Nat) (x2 : Int32), Mm D cA lo S g s H locs → Rf lo S a0 20 → Rf lo S a1 20 → lv_has ls 3 [(0, .ref a0), (1, .ref a1), (2, .int x2)] → b_X12_ints_2 N S k2 g a0 a1 x2 = some (rv, g1) → W p l e R s m args below meth c H locs 0 0 (MQ below (Qcx D cA lo S none S g1 True) args s 0 0 (fun q : Nat => lo ≤ q)) (F0 m 2 ls []) := by
  intro H locs ls g a0 a1 x2 M ra0 ra1 hl q
  unfold b_X12_ints_2 at q
  refine lv_iload_n hx hb dX12_ints_2 rfl (lv_at hl 2 rfl) ?_
  refine lv_aload_n hx hb dX12_ints_3 rfl (lv_at hl 0 rfl) ?_
  refine x_alen20 hx hb hX M ra0 dX12_ints_4 ?_
  refine lv_icmp_ge (tgt := 20) hx hb dX12_ints_5 (by decide) (fun c_1 => ?_) (fun c_1 => ?_)
  · replace q := if_t c_1 q
    cases q
    exact x_vret hx hb hr hlk M Ext.rf dX12_ints_20
  · replace q := if_f c_1 q
    refine lv_aload_n hx hb dX12_ints_8 rfl (lv_at hl 1 rfl) ?_
    refine lv_iload_n hx hb dX12_ints_9 rfl (lv_at hl 2 rfl) ?_
    refine lv_aload_n hx hb dX12_ints_10 rfl (lv_at hl 0 rfl) ?_
    refine lv_iload_n hx hb dX12_ints_11 rfl (lv_at hl 2 rfl) ?_
    replace q := ck_s q
    obtain ⟨hin, q⟩ := q
    refine x_iald hx hb hX M ra0 (inb_in hin) dX12_ints_12 ?_
    replace q := ck_s q
    obtain ⟨hin, q⟩ := q
    refine x_iast hx hb hX M ra1 (inb_in hin) dX12_ints_13 (fun H locs M => ?_)
    replace q := gen_g M q
    obtain ⟨g_2, -, M, q⟩ := q
    obtain ⟨x_3, e_x_3⟩ : ∃ y : Int32, y = x2 + 1 := ⟨_, rfl⟩
    replace q := nm_s q e_x_3
    refine lv_iinc (v := x_3) (lv' := [(2, .int x_3), (0, .ref a0), (1, .ref a1)]) hx hb dX12_ints_14 hl (k := 2) rfl (by rw [e_x_3]; rfl) (by decide) rfl (fun ls hl => ?_)
    refine lv_goto (tgt := 2) hx hb dX12_ints_17 (by decide) ?_
    exact hk2 _ _ _ _ _ _ _ M ra0 ra1 (lv_sub hl [1, 2, 0] rfl) q
set_option maxRecDepth 100000 in
theorem l_X12_ints_2 (hx : p.tables.exec = Jvm.exec) (hb : c.code = cX12_ints) (hml : c.maxLocals = 3) (hr : meth.sig.returnType = none) (hlk : meth.locks = false) (hown : s.vm.findClass RX12 = some m.cls) (hX : Kx D cA lo tS s) (hRf : 1 ≤ R.frames) (hRl : 60 ≤ R.locals) {N : Nat} {rv : Unit} {g1 : Hg} {S : Hs} : ∀ (n : Nat), ∀ (H : Heap) (locs : List Loc) (ls : Array Slot) (g : Hg) (a0 : Nat) (a1 : Nat) (x2 : Int32), Mm D cA lo S g s H locs → Rf lo S a0 20 → Rf lo S a1 20 → lv_has ls 3 [(0, .ref a0), (1, .ref a1), (2, .int x2)] → n_X12_ints_2 N S n g a0 a1 x2 = some (rv, g1) → W p l e R s m args below meth c H locs 0 0 (MQ below (Qcx D cA lo S none S g1 True) args s 0 0 (fun q : Nat => lo ≤ q)) (F0 m 2 ls []) := by
  intro n
  induction n with
  | zero =>
    intro H locs ls g a0 a1 x2 M ra0 ra1 hl q
    exact absurd q (by simp [n_X12_ints_2])
  | succ n ih => exact w_X12_ints_2 hx hb hml hr hlk hown hX hRf hRl (N := N)  ih
set_option maxHeartbeats 4000000 in
set_option maxRecDepth 100000 in
theorem w_X12_ints_0 (hx : p.tables.exec = Jvm.exec) (hb : c.code = cX12_ints) (hml : c.maxLocals = 3) (hr : meth.sig.returnType = none) (hlk : meth.locks = false) (hown : s.vm.findClass RX12 = some m.cls) (hX : Kx D cA lo tS s) (hRf : 1 ≤ R.frames) (hRl : 60 ≤ R.locals) {N : Nat} {rv : Unit} {g1 : Hg} {S : Hs} : ∀ (H : Heap) (locs : List Loc) (ls : Array Slot) (g : Hg) (a0 : Nat) (a1 : Nat), Mm D cA lo S g s H locs → Rf lo S a0 20 → Rf lo S a1 20 → lv_has ls 3 [(0, .ref a0), (1, .ref a1)] → b_X12_ints_0 N S g a0 a1 = some (rv, g1) → W p l e R s m args below meth c H locs 0 0 (MQ below (Qcx D cA lo S none S g1 True) args s 0 0 (fun q : Nat => lo ≤ q)) (F0 m 0 ls []) := by
  intro H locs ls g a0 a1 M ra0 ra1 hl q
  unfold b_X12_ints_0 at q
  refine lv_iconst (v := 0) hx hb dX12_ints_0 (by decide) ?_
  refine lv_istore_n (lv' := [(2, .int (0 : Int32)), (0, .ref a0), (1, .ref a1)]) hx hb dX12_ints_1 rfl hl (by decide) rfl (fun ls hl => ?_)
  exact l_X12_ints_2 hx hb hml hr hlk hown hX hRf hRl (N := N)  N _ _ _ _ _ _ _ M ra0 ra1 (lv_sub hl [1, 2, 0] rfl) q
set_option maxRecDepth 100000 in
theorem c_X12_ints {l : Launch} {D : va_G} {cA : Nat → ClassId} {lo tS N : Nat} {S : Hs} {g g1 : Hg} {rv : Unit} {a0 : Nat} {a1 : Nat} (ra0 : Rf lo S a0 20) (ra1 : Rf lo S a1 20) (q : f_X12_ints N S g a0 a1 = some (rv, g1)) {d : Nat} (hd : 1 ≤ d) : Ctr l yX12_ints cX12_ints 3 none D cA lo tS [.ref a0, .ref a1] S g d none S g1 True 0 0 := by
  refine x_met (by decide) (Nat.le_of_ble_eq_true rfl) ?_
  intro p e s m below meth c ls hx hb hml hr hlk hown hnm hX M hl
  exact w_X12_ints_0 hx hb hml hr hlk hown hX hd (Nat.mul_le_mul_left 60 hd) (N := N) _ _ _ _ _ _ M ra0 ra1 (lv_sub hl [0, 1] rfl) q
def b_X12_longs_2 (N : Nat) (S : Hs) (k2 : Hg → Nat → Nat → Int32 → Option (Unit × Hg)) (g : Hg) (a0 : Nat) (a1 : Nat) (x2 : Int32) : Option (Unit × Hg) :=
if (nI (hpL S a0)) ≤ x2 then (
some ((), g)) else (
ck (inb x2 (hpL S a0)) (
ck (inb x2 (hpL S a1)) (
nm (wrL g a1 x2.toNatClampNeg (rdL g a0 x2.toNatClampNeg)) (fun g_2 =>
nm (x2 + 1) (fun x_3 =>
k2 g_2 a0 a1 x_3)))))
def n_X12_longs_2 (N : Nat) (S : Hs) : Nat → Hg → Nat → Nat → Int32 → Option (Unit × Hg)
  | 0 => fun _ _ _ _ => none
  | n + 1 => fun g a0 a1 x2 => b_X12_longs_2 N S (n_X12_longs_2 N S n) g a0 a1 x2
def b_X12_longs_0 (N : Nat) (S : Hs) (g : Hg) (a0 : Nat) (a1 : Nat) : Option (Unit × Hg) :=
n_X12_longs_2 N S N g a0 a1 (0 : Int32)
def f_X12_longs (N : Nat) (S : Hs) (g : Hg) (a0 : Nat) (a1 : Nat) : Option (Unit × Hg) := b_X12_longs_0 N S g a0 a1
set_option maxHeartbeats 4000000 in
set_option maxRecDepth 100000 in
theorem w_X12_longs_2 (hx : p.tables.exec = Jvm.exec) (hb : c.code = cX12_longs) (hml : c.maxLocals = 3) (hr : meth.sig.returnType = none) (hlk : meth.locks = false) (hown : s.vm.findClass RX12 = some m.cls) (hX : Kx D cA lo tS s) (hRf : 1 ≤ R.frames) (hRl : 60 ≤ R.locals) {N : Nat} {rv : Unit} {g1 : Hg} {S : Hs} {k2 : Hg → Nat → Nat → Int32 → Option (Unit × Hg)} (hk2 : ∀ (H : Heap) (locs : List Loc) (ls : Array Slot) (g : Hg) (a0 : Nat) (a1 : Nat) (x2 : Int32), Mm D cA lo S g s H locs → Rf lo S a0 21 → Rf lo S a1 21 → lv_has ls 3 [(0, .ref a0), (1, .ref a1), (2, .int x2)] → k2 g a0 a1 x2 = some (rv, g1) → W p l e R s m args below meth c H locs 0 0 (MQ below (Qcx D cA lo S none S g1 True) args s 0 0 (fun q : Nat => lo ≤ q)) (F0 m 2 ls [])) : ∀ (H : Heap) (locs : List Loc) (ls : Array Slot) (g : Hg) (a0 : Nat) (a1 : Nat) (x2 : Int32), Mm D cA lo S g s H locs → Rf lo S a0 21 → Rf lo S a1 21 → lv_has ls 3 [(0, .ref a0), (1, .ref a1), (2, .int x2)] → b_X12_longs_2 N S k2 g a0 a1 x2 = some (rv, g1) → W p l e R s m args below meth c H locs 0 0 (MQ below (Qcx D cA lo S none S g1 True) args s 0 0 (fun q : Nat => lo ≤ q)) (F0 m 2 ls []) := by
  intro H locs ls g a0 a1 x2 M ra0 ra1 hl q
  unfold b_X12_longs_2 at q
  refine lv_iload_n hx hb dX12_longs_2 rfl (lv_at hl 2 rfl) ?_
  refine lv_aload_n hx hb dX12_longs_3 rfl (lv_at hl 0 rfl) ?_
  refine x_alen21 hx hb hX M ra0 dX12_longs_4 ?_
  refine lv_icmp_ge (tgt := 20) hx hb dX12_longs_5 (by decide) (fun c_1 => ?_) (fun c_1 => ?_)
  · replace q := if_t c_1 q
    cases q
    exact x_vret hx hb hr hlk M Ext.rf dX12_longs_20
  · replace q := if_f c_1 q
    refine lv_aload_n hx hb dX12_longs_8 rfl (lv_at hl 1 rfl) ?_
    refine lv_iload_n hx hb dX12_longs_9 rfl (lv_at hl 2 rfl) ?_
    refine lv_aload_n hx hb dX12_longs_10 rfl (lv_at hl 0 rfl) ?_
    refine lv_iload_n hx hb dX12_longs_11 rfl (lv_at hl 2 rfl) ?_
    replace q := ck_s q
    obtain ⟨hin, q⟩ := q
    refine x_lald hx hb hX M ra0 (inb_in hin) dX12_longs_12 ?_
    replace q := ck_s q
    obtain ⟨hin, q⟩ := q
    refine x_last hx hb hX M ra1 (inb_in hin) dX12_longs_13 (fun H locs M => ?_)
    replace q := gen_g M q
    obtain ⟨g_2, -, M, q⟩ := q
    obtain ⟨x_3, e_x_3⟩ : ∃ y : Int32, y = x2 + 1 := ⟨_, rfl⟩
    replace q := nm_s q e_x_3
    refine lv_iinc (v := x_3) (lv' := [(2, .int x_3), (0, .ref a0), (1, .ref a1)]) hx hb dX12_longs_14 hl (k := 2) rfl (by rw [e_x_3]; rfl) (by decide) rfl (fun ls hl => ?_)
    refine lv_goto (tgt := 2) hx hb dX12_longs_17 (by decide) ?_
    exact hk2 _ _ _ _ _ _ _ M ra0 ra1 (lv_sub hl [1, 2, 0] rfl) q
set_option maxRecDepth 100000 in
theorem l_X12_longs_2 (hx : p.tables.exec = Jvm.exec) (hb : c.code = cX12_longs) (hml : c.maxLocals = 3) (hr : meth.sig.returnType = none) (hlk : meth.locks = false) (hown : s.vm.findClass RX12 = some m.cls) (hX : Kx D cA lo tS s) (hRf : 1 ≤ R.frames) (hRl : 60 ≤ R.locals) {N : Nat} {rv : Unit} {g1 : Hg} {S : Hs} : ∀ (n : Nat), ∀ (H : Heap) (locs : List Loc) (ls : Array Slot) (g : Hg) (a0 : Nat) (a1 : Nat) (x2 : Int32), Mm D cA lo S g s H locs → Rf lo S a0 21 → Rf lo S a1 21 → lv_has ls 3 [(0, .ref a0), (1, .ref a1), (2, .int x2)] → n_X12_longs_2 N S n g a0 a1 x2 = some (rv, g1) → W p l e R s m args below meth c H locs 0 0 (MQ below (Qcx D cA lo S none S g1 True) args s 0 0 (fun q : Nat => lo ≤ q)) (F0 m 2 ls []) := by
  intro n
  induction n with
  | zero =>
    intro H locs ls g a0 a1 x2 M ra0 ra1 hl q
    exact absurd q (by simp [n_X12_longs_2])
  | succ n ih => exact w_X12_longs_2 hx hb hml hr hlk hown hX hRf hRl (N := N)  ih
set_option maxHeartbeats 4000000 in
set_option maxRecDepth 100000 in
theorem w_X12_longs_0 (hx : p.tables.exec = Jvm.exec) (hb : c.code = cX12_longs) (hml : c.maxLocals = 3) (hr : meth.sig.returnType = none) (hlk : meth.locks = false) (hown : s.vm.findClass RX12 = some m.cls) (hX : Kx D cA lo tS s) (hRf : 1 ≤ R.frames) (hRl : 60 ≤ R.locals) {N : Nat} {rv : Unit} {g1 : Hg} {S : Hs} : ∀ (H : Heap) (locs : List Loc) (ls : Array Slot) (g : Hg) (a0 : Nat) (a1 : Nat), Mm D cA lo S g s H locs → Rf lo S a0 21 → Rf lo S a1 21 → lv_has ls 3 [(0, .ref a0), (1, .ref a1)] → b_X12_longs_0 N S g a0 a1 = some (rv, g1) → W p l e R s m args below meth c H locs 0 0 (MQ below (Qcx D cA lo S none S g1 True) args s 0 0 (fun q : Nat => lo ≤ q)) (F0 m 0 ls []) := by
  intro H locs ls g a0 a1 M ra0 ra1 hl q
  unfold b_X12_longs_0 at q
  refine lv_iconst (v := 0) hx hb dX12_longs_0 (by decide) ?_
  refine lv_istore_n (lv' := [(2, .int (0 : Int32)), (0, .ref a0), (1, .ref a1)]) hx hb dX12_longs_1 rfl hl (by decide) rfl (fun ls hl => ?_)
  exact l_X12_longs_2 hx hb hml hr hlk hown hX hRf hRl (N := N)  N _ _ _ _ _ _ _ M ra0 ra1 (lv_sub hl [1, 2, 0] rfl) q
set_option maxRecDepth 100000 in
theorem c_X12_longs {l : Launch} {D : va_G} {cA : Nat → ClassId} {lo tS N : Nat} {S : Hs} {g g1 : Hg} {rv : Unit} {a0 : Nat} {a1 : Nat} (ra0 : Rf lo S a0 21) (ra1 : Rf lo S a1 21) (q : f_X12_longs N S g a0 a1 = some (rv, g1)) {d : Nat} (hd : 1 ≤ d) : Ctr l yX12_longs cX12_longs 3 none D cA lo tS [.ref a0, .ref a1] S g d none S g1 True 0 0 := by
  refine x_met (by decide) (Nat.le_of_ble_eq_true rfl) ?_
  intro p e s m below meth c ls hx hb hml hr hlk hown hnm hX M hl
  exact w_X12_longs_0 hx hb hml hr hlk hown hX hd (Nat.mul_le_mul_left 60 hd) (N := N) _ _ _ _ _ _ M ra0 ra1 (lv_sub hl [0, 1] rfl) q
def b_X12_truths_2 (N : Nat) (S : Hs) (k2 : Hg → Nat → Nat → Int32 → Option (Unit × Hg)) (g : Hg) (a0 : Nat) (a1 : Nat) (x2 : Int32) : Option (Unit × Hg) :=
if (nI (hpL S a0)) ≤ x2 then (
some ((), g)) else (
ck (inb x2 (hpL S a0)) (
ck (inb x2 (hpL S a1)) (
nm (wrI g a1 x2.toNatClampNeg ((rdI g a0 x2.toNatClampNeg) &&& (1 : Int32))) (fun g_2 =>
nm (x2 + 1) (fun x_3 =>
k2 g_2 a0 a1 x_3)))))
def n_X12_truths_2 (N : Nat) (S : Hs) : Nat → Hg → Nat → Nat → Int32 → Option (Unit × Hg)
  | 0 => fun _ _ _ _ => none
  | n + 1 => fun g a0 a1 x2 => b_X12_truths_2 N S (n_X12_truths_2 N S n) g a0 a1 x2
def b_X12_truths_0 (N : Nat) (S : Hs) (g : Hg) (a0 : Nat) (a1 : Nat) : Option (Unit × Hg) :=
n_X12_truths_2 N S N g a0 a1 (0 : Int32)
def f_X12_truths (N : Nat) (S : Hs) (g : Hg) (a0 : Nat) (a1 : Nat) : Option (Unit × Hg) := b_X12_truths_0 N S g a0 a1
set_option maxHeartbeats 4000000 in
set_option maxRecDepth 100000 in
theorem w_X12_truths_2 (hx : p.tables.exec = Jvm.exec) (hb : c.code = cX12_truths) (hml : c.maxLocals = 3) (hr : meth.sig.returnType = none) (hlk : meth.locks = false) (hown : s.vm.findClass RX12 = some m.cls) (hX : Kx D cA lo tS s) (hRf : 1 ≤ R.frames) (hRl : 60 ≤ R.locals) {N : Nat} {rv : Unit} {g1 : Hg} {S : Hs} {k2 : Hg → Nat → Nat → Int32 → Option (Unit × Hg)} (hk2 : ∀ (H : Heap) (locs : List Loc) (ls : Array Slot) (g : Hg) (a0 : Nat) (a1 : Nat) (x2 : Int32), Mm D cA lo S g s H locs → Rf lo S a0 22 → Rf lo S a1 22 → lv_has ls 3 [(0, .ref a0), (1, .ref a1), (2, .int x2)] → k2 g a0 a1 x2 = some (rv, g1) → W p l e R s m args below meth c H locs 0 0 (MQ below (Qcx D cA lo S none S g1 True) args s 0 0 (fun q : Nat => lo ≤ q)) (F0 m 2 ls [])) : ∀ (H : Heap) (locs : List Loc) (ls : Array Slot) (g : Hg) (a0 : Nat) (a1 : Nat) (x2 : Int32), Mm D cA lo S g s H locs → Rf lo S a0 22 → Rf lo S a1 22 → lv_has ls 3 [(0, .ref a0), (1, .ref a1), (2, .int x2)] → b_X12_truths_2 N S k2 g a0 a1 x2 = some (rv, g1) → W p l e R s m args below meth c H locs 0 0 (MQ below (Qcx D cA lo S none S g1 True) args s 0 0 (fun q : Nat => lo ≤ q)) (F0 m 2 ls []) := by
  intro H locs ls g a0 a1 x2 M ra0 ra1 hl q
  unfold b_X12_truths_2 at q
  refine lv_iload_n hx hb dX12_truths_2 rfl (lv_at hl 2 rfl) ?_
  refine lv_aload_n hx hb dX12_truths_3 rfl (lv_at hl 0 rfl) ?_
  refine x_alen22 hx hb hX M ra0 dX12_truths_4 ?_
  refine lv_icmp_ge (tgt := 20) hx hb dX12_truths_5 (by decide) (fun c_1 => ?_) (fun c_1 => ?_)
  · replace q := if_t c_1 q
    cases q
    exact x_vret hx hb hr hlk M Ext.rf dX12_truths_20
  · replace q := if_f c_1 q
    refine lv_aload_n hx hb dX12_truths_8 rfl (lv_at hl 1 rfl) ?_
    refine lv_iload_n hx hb dX12_truths_9 rfl (lv_at hl 2 rfl) ?_
    refine lv_aload_n hx hb dX12_truths_10 rfl (lv_at hl 0 rfl) ?_
    refine lv_iload_n hx hb dX12_truths_11 rfl (lv_at hl 2 rfl) ?_
    replace q := ck_s q
    obtain ⟨hin, q⟩ := q
    refine x_zald hx hb hX M ra0 (inb_in hin) dX12_truths_12 ?_
    replace q := ck_s q
    obtain ⟨hin, q⟩ := q
    refine x_zastN hx hb hX M ra1 (inb_in hin) dX12_truths_13 (fun H locs M => ?_)
    replace q := gen_g M q
    obtain ⟨g_2, -, M, q⟩ := q
    obtain ⟨x_3, e_x_3⟩ : ∃ y : Int32, y = x2 + 1 := ⟨_, rfl⟩
    replace q := nm_s q e_x_3
    refine lv_iinc (v := x_3) (lv' := [(2, .int x_3), (0, .ref a0), (1, .ref a1)]) hx hb dX12_truths_14 hl (k := 2) rfl (by rw [e_x_3]; rfl) (by decide) rfl (fun ls hl => ?_)
    refine lv_goto (tgt := 2) hx hb dX12_truths_17 (by decide) ?_
    exact hk2 _ _ _ _ _ _ _ M ra0 ra1 (lv_sub hl [1, 2, 0] rfl) q
set_option maxRecDepth 100000 in
theorem l_X12_truths_2 (hx : p.tables.exec = Jvm.exec) (hb : c.code = cX12_truths) (hml : c.maxLocals = 3) (hr : meth.sig.returnType = none) (hlk : meth.locks = false) (hown : s.vm.findClass RX12 = some m.cls) (hX : Kx D cA lo tS s) (hRf : 1 ≤ R.frames) (hRl : 60 ≤ R.locals) {N : Nat} {rv : Unit} {g1 : Hg} {S : Hs} : ∀ (n : Nat), ∀ (H : Heap) (locs : List Loc) (ls : Array Slot) (g : Hg) (a0 : Nat) (a1 : Nat) (x2 : Int32), Mm D cA lo S g s H locs → Rf lo S a0 22 → Rf lo S a1 22 → lv_has ls 3 [(0, .ref a0), (1, .ref a1), (2, .int x2)] → n_X12_truths_2 N S n g a0 a1 x2 = some (rv, g1) → W p l e R s m args below meth c H locs 0 0 (MQ below (Qcx D cA lo S none S g1 True) args s 0 0 (fun q : Nat => lo ≤ q)) (F0 m 2 ls []) := by
  intro n
  induction n with
  | zero =>
    intro H locs ls g a0 a1 x2 M ra0 ra1 hl q
    exact absurd q (by simp [n_X12_truths_2])
  | succ n ih => exact w_X12_truths_2 hx hb hml hr hlk hown hX hRf hRl (N := N)  ih
set_option maxHeartbeats 4000000 in
set_option maxRecDepth 100000 in
theorem w_X12_truths_0 (hx : p.tables.exec = Jvm.exec) (hb : c.code = cX12_truths) (hml : c.maxLocals = 3) (hr : meth.sig.returnType = none) (hlk : meth.locks = false) (hown : s.vm.findClass RX12 = some m.cls) (hX : Kx D cA lo tS s) (hRf : 1 ≤ R.frames) (hRl : 60 ≤ R.locals) {N : Nat} {rv : Unit} {g1 : Hg} {S : Hs} : ∀ (H : Heap) (locs : List Loc) (ls : Array Slot) (g : Hg) (a0 : Nat) (a1 : Nat), Mm D cA lo S g s H locs → Rf lo S a0 22 → Rf lo S a1 22 → lv_has ls 3 [(0, .ref a0), (1, .ref a1)] → b_X12_truths_0 N S g a0 a1 = some (rv, g1) → W p l e R s m args below meth c H locs 0 0 (MQ below (Qcx D cA lo S none S g1 True) args s 0 0 (fun q : Nat => lo ≤ q)) (F0 m 0 ls []) := by
  intro H locs ls g a0 a1 M ra0 ra1 hl q
  unfold b_X12_truths_0 at q
  refine lv_iconst (v := 0) hx hb dX12_truths_0 (by decide) ?_
  refine lv_istore_n (lv' := [(2, .int (0 : Int32)), (0, .ref a0), (1, .ref a1)]) hx hb dX12_truths_1 rfl hl (by decide) rfl (fun ls hl => ?_)
  exact l_X12_truths_2 hx hb hml hr hlk hown hX hRf hRl (N := N)  N _ _ _ _ _ _ _ M ra0 ra1 (lv_sub hl [1, 2, 0] rfl) q
set_option maxRecDepth 100000 in
theorem c_X12_truths {l : Launch} {D : va_G} {cA : Nat → ClassId} {lo tS N : Nat} {S : Hs} {g g1 : Hg} {rv : Unit} {a0 : Nat} {a1 : Nat} (ra0 : Rf lo S a0 22) (ra1 : Rf lo S a1 22) (q : f_X12_truths N S g a0 a1 = some (rv, g1)) {d : Nat} (hd : 1 ≤ d) : Ctr l yX12_truths cX12_truths 3 none D cA lo tS [.ref a0, .ref a1] S g d none S g1 True 0 0 := by
  refine x_met (by decide) (Nat.le_of_ble_eq_true rfl) ?_
  intro p e s m below meth c ls hx hb hml hr hlk hown hnm hX M hl
  exact w_X12_truths_0 hx hb hml hr hlk hown hX hd (Nat.mul_le_mul_left 60 hd) (N := N) _ _ _ _ _ _ M ra0 ra1 (lv_sub hl [0, 1] rfl) q
def b_X12_back_0 (N : Nat) (S : Hs) (g : Hg) (a0 : Nat) : Option (Int32 × Hg) :=
if (rdI g a0 21) = 0 then (
some ((0 : Int32), g)) else (
nm (wrI g a0 1 (rdI g a0 23)) (fun g_2 =>
nm (wrI g_2 a0 16 (rdI g_2 a0 38)) (fun g_3 =>
nn (rdR g_3 a0 22) (fun a_4 =>
nn (rdR g_3 a0 0) (fun a_5 =>
c2 (f_X12_ints N S g_3 a_4 a_5) (fun u_7 g_6 =>
nn (rdR g_6 a0 24) (fun a_8 =>
nn (rdR g_6 a0 2) (fun a_9 =>
c2 (f_X12_ints N S g_6 a_8 a_9) (fun u_11 g_10 =>
nn (rdR g_10 a0 25) (fun a_12 =>
nn (rdR g_10 a0 3) (fun a_13 =>
c2 (f_X12_longs N S g_10 a_12 a_13) (fun u_15 g_14 =>
nn (rdR g_14 a0 26) (fun a_16 =>
nn (rdR g_14 a0 4) (fun a_17 =>
c2 (f_X12_truths N S g_14 a_16 a_17) (fun u_19 g_18 =>
nn (rdR g_18 a0 27) (fun a_20 =>
nn (rdR g_18 a0 5) (fun a_21 =>
c2 (f_X12_truths N S g_18 a_20 a_21) (fun u_23 g_22 =>
nn (rdR g_22 a0 28) (fun a_24 =>
nn (rdR g_22 a0 6) (fun a_25 =>
c2 (f_X12_ints N S g_22 a_24 a_25) (fun u_27 g_26 =>
nn (rdR g_26 a0 29) (fun a_28 =>
nn (rdR g_26 a0 7) (fun a_29 =>
c2 (f_X12_ints N S g_26 a_28 a_29) (fun u_31 g_30 =>
nn (rdR g_30 a0 30) (fun a_32 =>
nn (rdR g_30 a0 8) (fun a_33 =>
c2 (f_X12_truths N S g_30 a_32 a_33) (fun u_35 g_34 =>
nn (rdR g_34 a0 31) (fun a_36 =>
nn (rdR g_34 a0 9) (fun a_37 =>
c2 (f_X12_ints N S g_34 a_36 a_37) (fun u_39 g_38 =>
nn (rdR g_38 a0 32) (fun a_40 =>
nn (rdR g_38 a0 10) (fun a_41 =>
c2 (f_X12_ints N S g_38 a_40 a_41) (fun u_43 g_42 =>
nn (rdR g_42 a0 33) (fun a_44 =>
nn (rdR g_42 a0 11) (fun a_45 =>
c2 (f_X12_longs N S g_42 a_44 a_45) (fun u_47 g_46 =>
nn (rdR g_46 a0 34) (fun a_48 =>
nn (rdR g_46 a0 12) (fun a_49 =>
c2 (f_X12_ints N S g_46 a_48 a_49) (fun u_51 g_50 =>
nn (rdR g_50 a0 35) (fun a_52 =>
nn (rdR g_50 a0 13) (fun a_53 =>
c2 (f_X12_ints N S g_50 a_52 a_53) (fun u_55 g_54 =>
nn (rdR g_54 a0 36) (fun a_56 =>
nn (rdR g_54 a0 14) (fun a_57 =>
c2 (f_X12_truths N S g_54 a_56 a_57) (fun u_59 g_58 =>
nn (rdR g_58 a0 37) (fun a_60 =>
nn (rdR g_58 a0 15) (fun a_61 =>
c2 (f_X12_ints N S g_58 a_60 a_61) (fun u_63 g_62 =>
nn (rdR g_62 a0 39) (fun a_64 =>
nn (rdR g_62 a0 17) (fun a_65 =>
c2 (f_X12_ints N S g_62 a_64 a_65) (fun u_67 g_66 =>
nn (rdR g_66 a0 40) (fun a_68 =>
nn (rdR g_66 a0 18) (fun a_69 =>
c2 (f_X12_truths N S g_66 a_68 a_69) (fun u_71 g_70 =>
nn (rdR g_70 a0 41) (fun a_72 =>
nn (rdR g_70 a0 19) (fun a_73 =>
c2 (f_X12_ints N S g_70 a_72 a_73) (fun u_75 g_74 =>
nn (rdR g_74 a0 42) (fun a_76 =>
nn (rdR g_74 a0 20) (fun a_77 =>
c2 (f_X12_ints N S g_74 a_76 a_77) (fun u_79 g_78 =>
some ((1 : Int32), g_78)))))))))))))))))))))))))))))))))))))))))))))))))))))))))))))
def f_X12_back (N : Nat) (S : Hs) (g : Hg) (a0 : Nat) : Option (Int32 × Hg) := b_X12_back_0 N S g a0
set_option maxHeartbeats 4000000 in
set_option maxRecDepth 100000 in
theorem w_X12_back_0 (hx : p.tables.exec = Jvm.exec) (hb : c.code = cX12_back) (hml : c.maxLocals = 1) (hr : meth.sig.returnType = (some .boolean)) (hlk : meth.locks = false) (hown : s.vm.findClass RX12 = some m.cls) (hX : Kx D cA lo tS s) (hRf : 2 ≤ R.frames) (hRl : 120 ≤ R.locals) {N : Nat} {rv : Int32} {g1 : Hg} {S : Hs} : ∀ (H : Heap) (locs : List Loc) (ls : Array Slot) (g : Hg) (a0 : Nat), Mm D cA lo S g s H locs → Rf lo S a0 12 → lv_has ls 1 [(0, .ref a0)] → b_X12_back_0 N S g a0 = some (rv, g1) → W p l e R s m args below meth c H locs 0 0 (MQ below (Qcx D cA lo S (some (.int rv)) S g1 True) args s 0 0 (fun q : Nat => lo ≤ q)) (F0 m 0 ls []) := by
  intro H locs ls g a0 M ra0 hl q
  unfold b_X12_back_0 at q
  refine lv_aload_n hx hb dX12_back_0 rfl (lv_at hl 0 rfl) ?_
  refine x_getI hx hb hown hX M (k := 21) okX12 ra0 (by decide) rfl kw_1033 dX12_back_1 ?_
  refine lv_if_ne (tgt := 9) hx hb dX12_back_4 (by decide) (fun c_1 => ?_) (fun c_1 => ?_)
  · replace q := if_f c_1 q
    refine lv_aload_n hx hb dX12_back_9 rfl (lv_at hl 0 rfl) ?_
    refine lv_aload_n hx hb dX12_back_10 rfl (lv_at hl 0 rfl) ?_
    refine x_getI hx hb hown hX M (k := 23) okX12 ra0 (by decide) rfl kw_1035 dX12_back_11 ?_
    refine x_putI hx hb hown hX M (k := 1) okX12 ra0 (by decide) rfl (Or.inl rfl) rfl rfl kw_1013 dX12_back_14 (fun H locs M => ?_)
    replace q := gen_g M q
    obtain ⟨g_2, -, M, q⟩ := q
    refine lv_aload_n hx hb dX12_back_17 rfl (lv_at hl 0 rfl) ?_
    refine lv_aload_n hx hb dX12_back_18 rfl (lv_at hl 0 rfl) ?_
    refine x_getI hx hb hown hX M (k := 38) okX12 ra0 (by decide) rfl kw_1050 dX12_back_19 ?_
    refine x_putI hx hb hown hX M (k := 16) okX12 ra0 (by decide) rfl (Or.inl rfl) rfl rfl kw_1028 dX12_back_22 (fun H locs M => ?_)
    replace q := gen_g M q
    obtain ⟨g_3, -, M, q⟩ := q
    refine lv_aload_n hx hb dX12_back_25 rfl (lv_at hl 0 rfl) ?_
    replace q := nn_s q
    obtain ⟨a_4, e_a_4, q⟩ := q
    refine x_getR hx hb hown hX M e_a_4 okX12 ra0 (by decide) rfl kw_1034 dX12_back_26 (fun ra_4 => ?_)
    refine lv_aload_n hx hb dX12_back_29 rfl (lv_at hl 0 rfl) ?_
    replace q := nn_s q
    obtain ⟨a_5, e_a_5, q⟩ := q
    refine x_getR hx hb hown hX M e_a_5 okX12 ra0 (by decide) rfl kw_1012 dX12_back_30 (fun ra_5 => ?_)
    replace q := c2_s q
    obtain ⟨u_7, g_6, qc, q⟩ := q
    refine x_callS hx hb hml hl.1 hown hX M (S1 := S) (As := [.ref a_4, .ref a_5]) (rest := []) kw_1502 mok_X12_ints (c_X12_ints ra_4 ra_5 qc (Nat.le_refl 1)) kw_1501 rfl rfl dX12_back_33 (Nat.le_of_ble_eq_true rfl) ⟨Nat.le_trans (by decide) hRf, Nat.le_trans (by decide) hRl⟩ (Nat.zero_le _) (Nat.zero_le _) (fun H locs M hEF => ?_)
    refine lv_aload_n hx hb dX12_back_36 rfl (lv_at hl 0 rfl) ?_
    replace q := nn_s q
    obtain ⟨a_8, e_a_8, q⟩ := q
    refine x_getR hx hb hown hX M e_a_8 okX12 ra0 (by decide) rfl kw_1036 dX12_back_37 (fun ra_8 => ?_)
    refine lv_aload_n hx hb dX12_back_40 rfl (lv_at hl 0 rfl) ?_
    replace q := nn_s q
    obtain ⟨a_9, e_a_9, q⟩ := q
    refine x_getR hx hb hown hX M e_a_9 okX12 ra0 (by decide) rfl kw_1014 dX12_back_41 (fun ra_9 => ?_)
    replace q := c2_s q
    obtain ⟨u_11, g_10, qc, q⟩ := q
    refine x_callS hx hb hml hl.1 hown hX M (S1 := S) (As := [.ref a_8, .ref a_9]) (rest := []) kw_1502 mok_X12_ints (c_X12_ints ra_8 ra_9 qc (Nat.le_refl 1)) kw_1501 rfl rfl dX12_back_44 (Nat.le_of_ble_eq_true rfl) ⟨Nat.le_trans (by decide) hRf, Nat.le_trans (by decide) hRl⟩ (Nat.zero_le _) (Nat.zero_le _) (fun H locs M hEF => ?_)
    refine lv_aload_n hx hb dX12_back_47 rfl (lv_at hl 0 rfl) ?_
    replace q := nn_s q
    obtain ⟨a_12, e_a_12, q⟩ := q
    refine x_getR hx hb hown hX M e_a_12 okX12 ra0 (by decide) rfl kw_1037 dX12_back_48 (fun ra_12 => ?_)
    refine lv_aload_n hx hb dX12_back_51 rfl (lv_at hl 0 rfl) ?_
    replace q := nn_s q
    obtain ⟨a_13, e_a_13, q⟩ := q
    refine x_getR hx hb hown hX M e_a_13 okX12 ra0 (by decide) rfl kw_1015 dX12_back_52 (fun ra_13 => ?_)
    replace q := c2_s q
    obtain ⟨u_15, g_14, qc, q⟩ := q
    refine x_callS hx hb hml hl.1 hown hX M (S1 := S) (As := [.ref a_12, .ref a_13]) (rest := []) kw_1505 mok_X12_longs (c_X12_longs ra_12 ra_13 qc (Nat.le_refl 1)) kw_1504 rfl rfl dX12_back_55 (Nat.le_of_ble_eq_true rfl) ⟨Nat.le_trans (by decide) hRf, Nat.le_trans (by decide) hRl⟩ (Nat.zero_le _) (Nat.zero_le _) (fun H locs M hEF => ?_)
    refine lv_aload_n hx hb dX12_back_58 rfl (lv_at hl 0 rfl) ?_
    replace q := nn_s q
    obtain ⟨a_16, e_a_16, q⟩ := q
    refine x_getR hx hb hown hX M e_a_16 okX12 ra0 (by decide) rfl kw_1038 dX12_back_59 (fun ra_16 => ?_)
    refine lv_aload_n hx hb dX12_back_62 rfl (lv_at hl 0 rfl) ?_
    replace q := nn_s q
    obtain ⟨a_17, e_a_17, q⟩ := q
    refine x_getR hx hb hown hX M e_a_17 okX12 ra0 (by decide) rfl kw_1016 dX12_back_63 (fun ra_17 => ?_)
    replace q := c2_s q
    obtain ⟨u_19, g_18, qc, q⟩ := q
    refine x_callS hx hb hml hl.1 hown hX M (S1 := S) (As := [.ref a_16, .ref a_17]) (rest := []) kw_1508 mok_X12_truths (c_X12_truths ra_16 ra_17 qc (Nat.le_refl 1)) kw_1507 rfl rfl dX12_back_66 (Nat.le_of_ble_eq_true rfl) ⟨Nat.le_trans (by decide) hRf, Nat.le_trans (by decide) hRl⟩ (Nat.zero_le _) (Nat.zero_le _) (fun H locs M hEF => ?_)
    refine lv_aload_n hx hb dX12_back_69 rfl (lv_at hl 0 rfl) ?_
    replace q := nn_s q
    obtain ⟨a_20, e_a_20, q⟩ := q
    refine x_getR hx hb hown hX M e_a_20 okX12 ra0 (by decide) rfl kw_1039 dX12_back_70 (fun ra_20 => ?_)
    refine lv_aload_n hx hb dX12_back_73 rfl (lv_at hl 0 rfl) ?_
    replace q := nn_s q
    obtain ⟨a_21, e_a_21, q⟩ := q
    refine x_getR hx hb hown hX M e_a_21 okX12 ra0 (by decide) rfl kw_1017 dX12_back_74 (fun ra_21 => ?_)
    replace q := c2_s q
    obtain ⟨u_23, g_22, qc, q⟩ := q
    refine x_callS hx hb hml hl.1 hown hX M (S1 := S) (As := [.ref a_20, .ref a_21]) (rest := []) kw_1508 mok_X12_truths (c_X12_truths ra_20 ra_21 qc (Nat.le_refl 1)) kw_1507 rfl rfl dX12_back_77 (Nat.le_of_ble_eq_true rfl) ⟨Nat.le_trans (by decide) hRf, Nat.le_trans (by decide) hRl⟩ (Nat.zero_le _) (Nat.zero_le _) (fun H locs M hEF => ?_)
    refine lv_aload_n hx hb dX12_back_80 rfl (lv_at hl 0 rfl) ?_
    replace q := nn_s q
    obtain ⟨a_24, e_a_24, q⟩ := q
    refine x_getR hx hb hown hX M e_a_24 okX12 ra0 (by decide) rfl kw_1040 dX12_back_81 (fun ra_24 => ?_)
    refine lv_aload_n hx hb dX12_back_84 rfl (lv_at hl 0 rfl) ?_
    replace q := nn_s q
    obtain ⟨a_25, e_a_25, q⟩ := q
    refine x_getR hx hb hown hX M e_a_25 okX12 ra0 (by decide) rfl kw_1018 dX12_back_85 (fun ra_25 => ?_)
    replace q := c2_s q
    obtain ⟨u_27, g_26, qc, q⟩ := q
    refine x_callS hx hb hml hl.1 hown hX M (S1 := S) (As := [.ref a_24, .ref a_25]) (rest := []) kw_1502 mok_X12_ints (c_X12_ints ra_24 ra_25 qc (Nat.le_refl 1)) kw_1501 rfl rfl dX12_back_88 (Nat.le_of_ble_eq_true rfl) ⟨Nat.le_trans (by decide) hRf, Nat.le_trans (by decide) hRl⟩ (Nat.zero_le _) (Nat.zero_le _) (fun H locs M hEF => ?_)
    refine lv_aload_n hx hb dX12_back_91 rfl (lv_at hl 0 rfl) ?_
    replace q := nn_s q
    obtain ⟨a_28, e_a_28, q⟩ := q
    refine x_getR hx hb hown hX M e_a_28 okX12 ra0 (by decide) rfl kw_1041 dX12_back_92 (fun ra_28 => ?_)
    refine lv_aload_n hx hb dX12_back_95 rfl (lv_at hl 0 rfl) ?_
    replace q := nn_s q
    obtain ⟨a_29, e_a_29, q⟩ := q
    refine x_getR hx hb hown hX M e_a_29 okX12 ra0 (by decide) rfl kw_1019 dX12_back_96 (fun ra_29 => ?_)
    replace q := c2_s q
    obtain ⟨u_31, g_30, qc, q⟩ := q
    refine x_callS hx hb hml hl.1 hown hX M (S1 := S) (As := [.ref a_28, .ref a_29]) (rest := []) kw_1502 mok_X12_ints (c_X12_ints ra_28 ra_29 qc (Nat.le_refl 1)) kw_1501 rfl rfl dX12_back_99 (Nat.le_of_ble_eq_true rfl) ⟨Nat.le_trans (by decide) hRf, Nat.le_trans (by decide) hRl⟩ (Nat.zero_le _) (Nat.zero_le _) (fun H locs M hEF => ?_)
    refine lv_aload_n hx hb dX12_back_102 rfl (lv_at hl 0 rfl) ?_
    replace q := nn_s q
    obtain ⟨a_32, e_a_32, q⟩ := q
    refine x_getR hx hb hown hX M e_a_32 okX12 ra0 (by decide) rfl kw_1042 dX12_back_103 (fun ra_32 => ?_)
    refine lv_aload_n hx hb dX12_back_106 rfl (lv_at hl 0 rfl) ?_
    replace q := nn_s q
    obtain ⟨a_33, e_a_33, q⟩ := q
    refine x_getR hx hb hown hX M e_a_33 okX12 ra0 (by decide) rfl kw_1020 dX12_back_107 (fun ra_33 => ?_)
    replace q := c2_s q
    obtain ⟨u_35, g_34, qc, q⟩ := q
    refine x_callS hx hb hml hl.1 hown hX M (S1 := S) (As := [.ref a_32, .ref a_33]) (rest := []) kw_1508 mok_X12_truths (c_X12_truths ra_32 ra_33 qc (Nat.le_refl 1)) kw_1507 rfl rfl dX12_back_110 (Nat.le_of_ble_eq_true rfl) ⟨Nat.le_trans (by decide) hRf, Nat.le_trans (by decide) hRl⟩ (Nat.zero_le _) (Nat.zero_le _) (fun H locs M hEF => ?_)
    refine lv_aload_n hx hb dX12_back_113 rfl (lv_at hl 0 rfl) ?_
    replace q := nn_s q
    obtain ⟨a_36, e_a_36, q⟩ := q
    refine x_getR hx hb hown hX M e_a_36 okX12 ra0 (by decide) rfl kw_1043 dX12_back_114 (fun ra_36 => ?_)
    refine lv_aload_n hx hb dX12_back_117 rfl (lv_at hl 0 rfl) ?_
    replace q := nn_s q
    obtain ⟨a_37, e_a_37, q⟩ := q
    refine x_getR hx hb hown hX M e_a_37 okX12 ra0 (by decide) rfl kw_1021 dX12_back_118 (fun ra_37 => ?_)
    replace q := c2_s q
    obtain ⟨u_39, g_38, qc, q⟩ := q
    refine x_callS hx hb hml hl.1 hown hX M (S1 := S) (As := [.ref a_36, .ref a_37]) (rest := []) kw_1502 mok_X12_ints (c_X12_ints ra_36 ra_37 qc (Nat.le_refl 1)) kw_1501 rfl rfl dX12_back_121 (Nat.le_of_ble_eq_true rfl) ⟨Nat.le_trans (by decide) hRf, Nat.le_trans (by decide) hRl⟩ (Nat.zero_le _) (Nat.zero_le _) (fun H locs M hEF => ?_)
    refine lv_aload_n hx hb dX12_back_124 rfl (lv_at hl 0 rfl) ?_
    replace q := nn_s q
    obtain ⟨a_40, e_a_40, q⟩ := q
    refine x_getR hx hb hown hX M e_a_40 okX12 ra0 (by decide) rfl kw_1044 dX12_back_125 (fun ra_40 => ?_)
    refine lv_aload_n hx hb dX12_back_128 rfl (lv_at hl 0 rfl) ?_
    replace q := nn_s q
    obtain ⟨a_41, e_a_41, q⟩ := q
    refine x_getR hx hb hown hX M e_a_41 okX12 ra0 (by decide) rfl kw_1022 dX12_back_129 (fun ra_41 => ?_)
    replace q := c2_s q
    obtain ⟨u_43, g_42, qc, q⟩ := q
    refine x_callS hx hb hml hl.1 hown hX M (S1 := S) (As := [.ref a_40, .ref a_41]) (rest := []) kw_1502 mok_X12_ints (c_X12_ints ra_40 ra_41 qc (Nat.le_refl 1)) kw_1501 rfl rfl dX12_back_132 (Nat.le_of_ble_eq_true rfl) ⟨Nat.le_trans (by decide) hRf, Nat.le_trans (by decide) hRl⟩ (Nat.zero_le _) (Nat.zero_le _) (fun H locs M hEF => ?_)
    refine lv_aload_n hx hb dX12_back_135 rfl (lv_at hl 0 rfl) ?_
    replace q := nn_s q
    obtain ⟨a_44, e_a_44, q⟩ := q
    refine x_getR hx hb hown hX M e_a_44 okX12 ra0 (by decide) rfl kw_1045 dX12_back_136 (fun ra_44 => ?_)
    refine lv_aload_n hx hb dX12_back_139 rfl (lv_at hl 0 rfl) ?_
    replace q := nn_s q
    obtain ⟨a_45, e_a_45, q⟩ := q
    refine x_getR hx hb hown hX M e_a_45 okX12 ra0 (by decide) rfl kw_1023 dX12_back_140 (fun ra_45 => ?_)
    replace q := c2_s q
    obtain ⟨u_47, g_46, qc, q⟩ := q
    refine x_callS hx hb hml hl.1 hown hX M (S1 := S) (As := [.ref a_44, .ref a_45]) (rest := []) kw_1505 mok_X12_longs (c_X12_longs ra_44 ra_45 qc (Nat.le_refl 1)) kw_1504 rfl rfl dX12_back_143 (Nat.le_of_ble_eq_true rfl) ⟨Nat.le_trans (by decide) hRf, Nat.le_trans (by decide) hRl⟩ (Nat.zero_le _) (Nat.zero_le _) (fun H locs M hEF => ?_)
    refine lv_aload_n hx hb dX12_back_146 rfl (lv_at hl 0 rfl) ?_
    replace q := nn_s q
    obtain ⟨a_48, e_a_48, q⟩ := q
    refine x_getR hx hb hown hX M e_a_48 okX12 ra0 (by decide) rfl kw_1046 dX12_back_147 (fun ra_48 => ?_)
    refine lv_aload_n hx hb dX12_back_150 rfl (lv_at hl 0 rfl) ?_
    replace q := nn_s q
    obtain ⟨a_49, e_a_49, q⟩ := q
    refine x_getR hx hb hown hX M e_a_49 okX12 ra0 (by decide) rfl kw_1024 dX12_back_151 (fun ra_49 => ?_)
    replace q := c2_s q
    obtain ⟨u_51, g_50, qc, q⟩ := q
    refine x_callS hx hb hml hl.1 hown hX M (S1 := S) (As := [.ref a_48, .ref a_49]) (rest := []) kw_1502 mok_X12_ints (c_X12_ints ra_48 ra_49 qc (Nat.le_refl 1)) kw_1501 rfl rfl dX12_back_154 (Nat.le_of_ble_eq_true rfl) ⟨Nat.le_trans (by decide) hRf, Nat.le_trans (by decide) hRl⟩ (Nat.zero_le _) (Nat.zero_le _) (fun H locs M hEF => ?_)
    refine lv_aload_n hx hb dX12_back_157 rfl (lv_at hl 0 rfl) ?_
    replace q := nn_s q
    obtain ⟨a_52, e_a_52, q⟩ := q
    refine x_getR hx hb hown hX M e_a_52 okX12 ra0 (by decide) rfl kw_1047 dX12_back_158 (fun ra_52 => ?_)
    refine lv_aload_n hx hb dX12_back_161 rfl (lv_at hl 0 rfl) ?_
    replace q := nn_s q
    obtain ⟨a_53, e_a_53, q⟩ := q
    refine x_getR hx hb hown hX M e_a_53 okX12 ra0 (by decide) rfl kw_1025 dX12_back_162 (fun ra_53 => ?_)
    replace q := c2_s q
    obtain ⟨u_55, g_54, qc, q⟩ := q
    refine x_callS hx hb hml hl.1 hown hX M (S1 := S) (As := [.ref a_52, .ref a_53]) (rest := []) kw_1502 mok_X12_ints (c_X12_ints ra_52 ra_53 qc (Nat.le_refl 1)) kw_1501 rfl rfl dX12_back_165 (Nat.le_of_ble_eq_true rfl) ⟨Nat.le_trans (by decide) hRf, Nat.le_trans (by decide) hRl⟩ (Nat.zero_le _) (Nat.zero_le _) (fun H locs M hEF => ?_)
    refine lv_aload_n hx hb dX12_back_168 rfl (lv_at hl 0 rfl) ?_
    replace q := nn_s q
    obtain ⟨a_56, e_a_56, q⟩ := q
    refine x_getR hx hb hown hX M e_a_56 okX12 ra0 (by decide) rfl kw_1048 dX12_back_169 (fun ra_56 => ?_)
    refine lv_aload_n hx hb dX12_back_172 rfl (lv_at hl 0 rfl) ?_
    replace q := nn_s q
    obtain ⟨a_57, e_a_57, q⟩ := q
    refine x_getR hx hb hown hX M e_a_57 okX12 ra0 (by decide) rfl kw_1026 dX12_back_173 (fun ra_57 => ?_)
    replace q := c2_s q
    obtain ⟨u_59, g_58, qc, q⟩ := q
    refine x_callS hx hb hml hl.1 hown hX M (S1 := S) (As := [.ref a_56, .ref a_57]) (rest := []) kw_1508 mok_X12_truths (c_X12_truths ra_56 ra_57 qc (Nat.le_refl 1)) kw_1507 rfl rfl dX12_back_176 (Nat.le_of_ble_eq_true rfl) ⟨Nat.le_trans (by decide) hRf, Nat.le_trans (by decide) hRl⟩ (Nat.zero_le _) (Nat.zero_le _) (fun H locs M hEF => ?_)
    refine lv_aload_n hx hb dX12_back_179 rfl (lv_at hl 0 rfl) ?_
    replace q := nn_s q
    obtain ⟨a_60, e_a_60, q⟩ := q
    refine x_getR hx hb hown hX M e_a_60 okX12 ra0 (by decide) rfl kw_1049 dX12_back_180 (fun ra_60 => ?_)
    refine lv_aload_n hx hb dX12_back_183 rfl (lv_at hl 0 rfl) ?_
    replace q := nn_s q
    obtain ⟨a_61, e_a_61, q⟩ := q
    refine x_getR hx hb hown hX M e_a_61 okX12 ra0 (by decide) rfl kw_1027 dX12_back_184 (fun ra_61 => ?_)
    replace q := c2_s q
    obtain ⟨u_63, g_62, qc, q⟩ := q
    refine x_callS hx hb hml hl.1 hown hX M (S1 := S) (As := [.ref a_60, .ref a_61]) (rest := []) kw_1502 mok_X12_ints (c_X12_ints ra_60 ra_61 qc (Nat.le_refl 1)) kw_1501 rfl rfl dX12_back_187 (Nat.le_of_ble_eq_true rfl) ⟨Nat.le_trans (by decide) hRf, Nat.le_trans (by decide) hRl⟩ (Nat.zero_le _) (Nat.zero_le _) (fun H locs M hEF => ?_)
    refine lv_aload_n hx hb dX12_back_190 rfl (lv_at hl 0 rfl) ?_
    replace q := nn_s q
    obtain ⟨a_64, e_a_64, q⟩ := q
    refine x_getR hx hb hown hX M e_a_64 okX12 ra0 (by decide) rfl kw_1051 dX12_back_191 (fun ra_64 => ?_)
    refine lv_aload_n hx hb dX12_back_194 rfl (lv_at hl 0 rfl) ?_
    replace q := nn_s q
    obtain ⟨a_65, e_a_65, q⟩ := q
    refine x_getR hx hb hown hX M e_a_65 okX12 ra0 (by decide) rfl kw_1029 dX12_back_195 (fun ra_65 => ?_)
    replace q := c2_s q
    obtain ⟨u_67, g_66, qc, q⟩ := q
    refine x_callS hx hb hml hl.1 hown hX M (S1 := S) (As := [.ref a_64, .ref a_65]) (rest := []) kw_1502 mok_X12_ints (c_X12_ints ra_64 ra_65 qc (Nat.le_refl 1)) kw_1501 rfl rfl dX12_back_198 (Nat.le_of_ble_eq_true rfl) ⟨Nat.le_trans (by decide) hRf, Nat.le_trans (by decide) hRl⟩ (Nat.zero_le _) (Nat.zero_le _) (fun H locs M hEF => ?_)
    refine lv_aload_n hx hb dX12_back_201 rfl (lv_at hl 0 rfl) ?_
    replace q := nn_s q
    obtain ⟨a_68, e_a_68, q⟩ := q
    refine x_getR hx hb hown hX M e_a_68 okX12 ra0 (by decide) rfl kw_1052 dX12_back_202 (fun ra_68 => ?_)
    refine lv_aload_n hx hb dX12_back_205 rfl (lv_at hl 0 rfl) ?_
    replace q := nn_s q
    obtain ⟨a_69, e_a_69, q⟩ := q
    refine x_getR hx hb hown hX M e_a_69 okX12 ra0 (by decide) rfl kw_1030 dX12_back_206 (fun ra_69 => ?_)
    replace q := c2_s q
    obtain ⟨u_71, g_70, qc, q⟩ := q
    refine x_callS hx hb hml hl.1 hown hX M (S1 := S) (As := [.ref a_68, .ref a_69]) (rest := []) kw_1508 mok_X12_truths (c_X12_truths ra_68 ra_69 qc (Nat.le_refl 1)) kw_1507 rfl rfl dX12_back_209 (Nat.le_of_ble_eq_true rfl) ⟨Nat.le_trans (by decide) hRf, Nat.le_trans (by decide) hRl⟩ (Nat.zero_le _) (Nat.zero_le _) (fun H locs M hEF => ?_)
    refine lv_aload_n hx hb dX12_back_212 rfl (lv_at hl 0 rfl) ?_
    replace q := nn_s q
    obtain ⟨a_72, e_a_72, q⟩ := q
    refine x_getR hx hb hown hX M e_a_72 okX12 ra0 (by decide) rfl kw_1053 dX12_back_213 (fun ra_72 => ?_)
    refine lv_aload_n hx hb dX12_back_216 rfl (lv_at hl 0 rfl) ?_
    replace q := nn_s q
    obtain ⟨a_73, e_a_73, q⟩ := q
    refine x_getR hx hb hown hX M e_a_73 okX12 ra0 (by decide) rfl kw_1031 dX12_back_217 (fun ra_73 => ?_)
    replace q := c2_s q
    obtain ⟨u_75, g_74, qc, q⟩ := q
    refine x_callS hx hb hml hl.1 hown hX M (S1 := S) (As := [.ref a_72, .ref a_73]) (rest := []) kw_1502 mok_X12_ints (c_X12_ints ra_72 ra_73 qc (Nat.le_refl 1)) kw_1501 rfl rfl dX12_back_220 (Nat.le_of_ble_eq_true rfl) ⟨Nat.le_trans (by decide) hRf, Nat.le_trans (by decide) hRl⟩ (Nat.zero_le _) (Nat.zero_le _) (fun H locs M hEF => ?_)
    refine lv_aload_n hx hb dX12_back_223 rfl (lv_at hl 0 rfl) ?_
    replace q := nn_s q
    obtain ⟨a_76, e_a_76, q⟩ := q
    refine x_getR hx hb hown hX M e_a_76 okX12 ra0 (by decide) rfl kw_1054 dX12_back_224 (fun ra_76 => ?_)
    refine lv_aload_n hx hb dX12_back_227 rfl (lv_at hl 0 rfl) ?_
    replace q := nn_s q
    obtain ⟨a_77, e_a_77, q⟩ := q
    refine x_getR hx hb hown hX M e_a_77 okX12 ra0 (by decide) rfl kw_1032 dX12_back_228 (fun ra_77 => ?_)
    replace q := c2_s q
    obtain ⟨u_79, g_78, qc, q⟩ := q
    refine x_callS hx hb hml hl.1 hown hX M (S1 := S) (As := [.ref a_76, .ref a_77]) (rest := []) kw_1502 mok_X12_ints (c_X12_ints ra_76 ra_77 qc (Nat.le_refl 1)) kw_1501 rfl rfl dX12_back_231 (Nat.le_of_ble_eq_true rfl) ⟨Nat.le_trans (by decide) hRf, Nat.le_trans (by decide) hRl⟩ (Nat.zero_le _) (Nat.zero_le _) (fun H locs M hEF => ?_)
    refine lv_iconst (v := 1) hx hb dX12_back_234 (by decide) ?_
    cases q
    exact x_zret hx hb hr hlk rfl M Ext.rf dX12_back_235
  · replace q := if_t c_1 q
    refine lv_iconst (v := 0) hx hb dX12_back_7 (by decide) ?_
    cases q
    exact x_zret hx hb hr hlk rfl M Ext.rf dX12_back_8
set_option maxRecDepth 100000 in
theorem c_X12_back {l : Launch} {D : va_G} {cA : Nat → ClassId} {lo tS N : Nat} {S : Hs} {g g1 : Hg} {rv : Int32} {a0 : Nat} (ra0 : Rf lo S a0 12) (q : f_X12_back N S g a0 = some (rv, g1)) {d : Nat} (hd : 2 ≤ d) : Ctr l yX12_back cX12_back 1 (some .boolean) D cA lo tS [.ref a0] S g d (some (.int rv)) S g1 True 0 0 := by
  refine x_met (by decide) (Nat.le_of_ble_eq_true rfl) ?_
  intro p e s m below meth c ls hx hb hml hr hlk hown hnm hX M hl
  exact w_X12_back_0 hx hb hml hr hlk hown hX hd (Nat.mul_le_mul_left 60 hd) (N := N) _ _ _ _ _ M ra0 (lv_sub hl [0] rfl) q
def b_X12_isStep_0 (N : Nat) (S : Hs) (g : Hg) (a0 : Nat) (x1 : Int32) (x2 : Int32) (x3 : Int32) : Option (Int32 × Hg) :=
c2 (f_X12_isSlot N S g a0 x1) (fun x_2 g_1 =>
if x_2 = 0 then (
some ((0 : Int32), g_1)) else (
if x2 < 0 then (
some ((0 : Int32), g_1)) else (
nn (rdR g_1 a0 9) (fun a_5 =>
ck (inb (((8 : Int32) * x1) + (1 : Int32)) (hpL S a_5)) (
if (rdI g_1 a_5 (((8 : Int32) * x1) + (1 : Int32)).toNatClampNeg) ≤ x2 then (
some ((0 : Int32), g_1)) else (
if x3 < 0 then (
some ((0 : Int32), g_1)) else (
if (8 : Int32) ≤ x3 then (
some ((0 : Int32), g_1)) else (
some ((1 : Int32), g_1)))))))))
def f_X12_isStep (N : Nat) (S : Hs) (g : Hg) (a0 : Nat) (x1 : Int32) (x2 : Int32) (x3 : Int32) : Option (Int32 × Hg) := b_X12_isStep_0 N S g a0 x1 x2 x3
set_option maxHeartbeats 4000000 in
set_option maxRecDepth 100000 in
theorem w_X12_isStep_0 (hx : p.tables.exec = Jvm.exec) (hb : c.code = cX12_isStep) (hml : c.maxLocals = 4) (hr : meth.sig.returnType = (some .boolean)) (hlk : meth.locks = false) (hown : s.vm.findClass RX12 = some m.cls) (hX : Kx D cA lo tS s) (hRf : 2 ≤ R.frames) (hRl : 120 ≤ R.locals) {N : Nat} {rv : Int32} {g1 : Hg} {S : Hs} : ∀ (H : Heap) (locs : List Loc) (ls : Array Slot) (g : Hg) (a0 : Nat) (x1 : Int32) (x2 : Int32) (x3 : Int32), Mm D cA lo S g s H locs → Rf lo S a0 12 → lv_has ls 4 [(0, .ref a0), (1, .int x1), (2, .int x2), (3, .int x3)] → b_X12_isStep_0 N S g a0 x1 x2 x3 = some (rv, g1) → W p l e R s m args below meth c H locs 0 0 (MQ below (Qcx D cA lo S (some (.int rv)) S g1 True) args s 0 0 (fun q : Nat => lo ≤ q)) (F0 m 0 ls []) := by
  intro H locs ls g a0 x1 x2 x3 M ra0 hl q
  unfold b_X12_isStep_0 at q
  refine lv_aload_n hx hb dX12_isStep_0 rfl (lv_at hl 0 rfl) ?_
  refine lv_iload_n hx hb dX12_isStep_1 rfl (lv_at hl 1 rfl) ?_
  replace q := c2_s q
  obtain ⟨x_2, g_1, qc, q⟩ := q
  refine x_callV hx hb hml hl.1 hown hX M (S1 := S) (As := [.int x1]) (rest := []) okX12 ra0 rfl kw_1357 kw_37 mok_X12_isSlot (c_X12_isSlot ra0 qc (Nat.le_refl 1)) kw_1355 rfl rfl dX12_isStep_2 (Nat.le_of_ble_eq_true rfl) ⟨Nat.le_trans (by decide) hRf, Nat.le_trans (by decide) hRl⟩ (Nat.zero_le _) (Nat.zero_le _) (fun H locs M hEF => ?_)
  refine lv_if_eq (tgt := 41) hx hb dX12_isStep_5 (by decide) (fun c_3 => ?_) (fun c_3 => ?_)
  · replace q := if_t c_3 q
    refine lv_iconst (v := 0) hx hb dX12_isStep_41 (by decide) ?_
    cases q
    exact x_zret hx hb hr hlk rfl M Ext.rf dX12_isStep_42
  · replace q := if_f c_3 q
    refine lv_iload_n hx hb dX12_isStep_8 rfl (lv_at hl 2 rfl) ?_
    refine lv_if_lt (tgt := 41) hx hb dX12_isStep_9 (by decide) (fun c_4 => ?_) (fun c_4 => ?_)
    · replace q := if_t c_4 q
      refine lv_iconst (v := 0) hx hb dX12_isStep_41 (by decide) ?_
      cases q
      exact x_zret hx hb hr hlk rfl M Ext.rf dX12_isStep_42
    · replace q := if_f c_4 q
      refine lv_iload_n hx hb dX12_isStep_12 rfl (lv_at hl 2 rfl) ?_
      refine lv_aload_n hx hb dX12_isStep_13 rfl (lv_at hl 0 rfl) ?_
      replace q := nn_s q
      obtain ⟨a_5, e_a_5, q⟩ := q
      refine x_getR hx hb hown hX M e_a_5 okX12 ra0 (by decide) rfl kw_1021 dX12_isStep_14 (fun ra_5 => ?_)
      refine lv_bipush (v := 8) hx hb dX12_isStep_17 (by decide) ?_
      refine lv_iload_n hx hb dX12_isStep_19 rfl (lv_at hl 1 rfl) ?_
      refine lv_imul hx hb dX12_isStep_20 ?_
      refine lv_iconst (v := 1) hx hb dX12_isStep_21 (by decide) ?_
      refine lv_iadd hx hb dX12_isStep_22 ?_
      replace q := ck_s q
      obtain ⟨hin, q⟩ := q
      refine x_iald hx hb hX M ra_5 (inb_in hin) dX12_isStep_23 ?_
      refine lv_icmp_ge (tgt := 41) hx hb dX12_isStep_24 (by decide) (fun c_6 => ?_) (fun c_6 => ?_)
      · replace q := if_t c_6 q
        refine lv_iconst (v := 0) hx hb dX12_isStep_41 (by decide) ?_
        cases q
        exact x_zret hx hb hr hlk rfl M Ext.rf dX12_isStep_42
      · replace q := if_f c_6 q
        refine lv_iload_n hx hb dX12_isStep_27 rfl (lv_at hl 3 rfl) ?_
        refine lv_if_lt (tgt := 41) hx hb dX12_isStep_28 (by decide) (fun c_7 => ?_) (fun c_7 => ?_)
        · replace q := if_t c_7 q
          refine lv_iconst (v := 0) hx hb dX12_isStep_41 (by decide) ?_
          cases q
          exact x_zret hx hb hr hlk rfl M Ext.rf dX12_isStep_42
        · replace q := if_f c_7 q
          refine lv_iload_n hx hb dX12_isStep_31 rfl (lv_at hl 3 rfl) ?_
          refine lv_bipush (v := 8) hx hb dX12_isStep_32 (by decide) ?_
          refine lv_icmp_ge (tgt := 41) hx hb dX12_isStep_34 (by decide) (fun c_8 => ?_) (fun c_8 => ?_)
          · replace q := if_t c_8 q
            refine lv_iconst (v := 0) hx hb dX12_isStep_41 (by decide) ?_
            cases q
            exact x_zret hx hb hr hlk rfl M Ext.rf dX12_isStep_42
          · replace q := if_f c_8 q
            refine lv_iconst (v := 1) hx hb dX12_isStep_37 (by decide) ?_
            refine lv_goto (tgt := 42) hx hb dX12_isStep_38 (by decide) ?_
            cases q
            exact x_zret hx hb hr hlk rfl M Ext.rf dX12_isStep_42
set_option maxRecDepth 100000 in
theorem c_X12_isStep {l : Launch} {D : va_G} {cA : Nat → ClassId} {lo tS N : Nat} {S : Hs} {g g1 : Hg} {rv : Int32} {a0 : Nat} {x1 : Int32} {x2 : Int32} {x3 : Int32} (ra0 : Rf lo S a0 12) (q : f_X12_isStep N S g a0 x1 x2 x3 = some (rv, g1)) {d : Nat} (hd : 2 ≤ d) : Ctr l yX12_isStep cX12_isStep 4 (some .boolean) D cA lo tS [.ref a0, .int x1, .int x2, .int x3] S g d (some (.int rv)) S g1 True 0 0 := by
  refine x_met (by decide) (Nat.le_of_ble_eq_true rfl) ?_
  intro p e s m below meth c ls hx hb hml hr hlk hown hnm hX M hl
  exact w_X12_isStep_0 hx hb hml hr hlk hown hX hd (Nat.mul_le_mul_left 60 hd) (N := N) _ _ _ _ _ _ _ _ M ra0 (lv_sub hl [0, 1, 2, 3] rfl) q
def b_X12_bend_0 (N : Nat) (S : Hs) (g : Hg) (a0 : Nat) (x1 : Int32) (x2 : Int32) (x3 : Int32) (x4 : Int32) : Option (Int32 × Hg) :=
c2 (f_X12_isStep N S g a0 x1 x2 x3) (fun x_2 g_1 =>
if x_2 = 0 then (
some ((0 : Int32), g_1)) else (
nn (rdR g_1 a0 12) (fun a_4 =>
ck (inb (((8 : Int32) * (((256 : Int32) * x1) + x2)) + x3) (hpL S a_4)) (
ck (inb (((8 : Int32) * (((256 : Int32) * x1) + x2)) + x3) (hpL S a_4)) (
nm (wrI g_1 a_4 (((8 : Int32) * (((256 : Int32) * x1) + x2)) + x3).toNatClampNeg ((rdI g_1 a_4 (((8 : Int32) * (((256 : Int32) * x1) + x2)) + x3).toNatClampNeg) ^^^ x4)) (fun g_5 =>
some ((1 : Int32), g_5)))))))
def f_X12_bend (N : Nat) (S : Hs) (g : Hg) (a0 : Nat) (x1 : Int32) (x2 : Int32) (x3 : Int32) (x4 : Int32) : Option (Int32 × Hg) := b_X12_bend_0 N S g a0 x1 x2 x3 x4
set_option maxHeartbeats 4000000 in
set_option maxRecDepth 100000 in
theorem w_X12_bend_0 (hx : p.tables.exec = Jvm.exec) (hb : c.code = cX12_bend) (hml : c.maxLocals = 5) (hr : meth.sig.returnType = (some .boolean)) (hlk : meth.locks = false) (hown : s.vm.findClass RX12 = some m.cls) (hX : Kx D cA lo tS s) (hRf : 3 ≤ R.frames) (hRl : 180 ≤ R.locals) {N : Nat} {rv : Int32} {g1 : Hg} {S : Hs} : ∀ (H : Heap) (locs : List Loc) (ls : Array Slot) (g : Hg) (a0 : Nat) (x1 : Int32) (x2 : Int32) (x3 : Int32) (x4 : Int32), Mm D cA lo S g s H locs → Rf lo S a0 12 → lv_has ls 5 [(0, .ref a0), (1, .int x1), (2, .int x2), (3, .int x3), (4, .int x4)] → b_X12_bend_0 N S g a0 x1 x2 x3 x4 = some (rv, g1) → W p l e R s m args below meth c H locs 0 0 (MQ below (Qcx D cA lo S (some (.int rv)) S g1 True) args s 0 0 (fun q : Nat => lo ≤ q)) (F0 m 0 ls []) := by
  intro H locs ls g a0 x1 x2 x3 x4 M ra0 hl q
  unfold b_X12_bend_0 at q
  refine lv_aload_n hx hb dX12_bend_0 rfl (lv_at hl 0 rfl) ?_
  refine lv_iload_n hx hb dX12_bend_1 rfl (lv_at hl 1 rfl) ?_
  refine lv_iload_n hx hb dX12_bend_2 rfl (lv_at hl 2 rfl) ?_
  refine lv_iload_n hx hb dX12_bend_3 rfl (lv_at hl 3 rfl) ?_
  replace q := c2_s q
  obtain ⟨x_2, g_1, qc, q⟩ := q
  refine x_callV hx hb hml hl.1 hown hX M (S1 := S) (As := [.int x1, .int x2, .int x3]) (rest := []) okX12 ra0 rfl kw_1405 kw_42 mok_X12_isStep (c_X12_isStep ra0 qc (Nat.le_refl 2)) kw_1403 rfl rfl dX12_bend_4 (Nat.le_of_ble_eq_true rfl) ⟨Nat.le_trans (by decide) hRf, Nat.le_trans (by decide) hRl⟩ (Nat.zero_le _) (Nat.zero_le _) (fun H locs M hEF => ?_)
  refine lv_if_ne (tgt := 12) hx hb dX12_bend_7 (by decide) (fun c_3 => ?_) (fun c_3 => ?_)
  · replace q := if_f c_3 q
    refine lv_aload_n hx hb dX12_bend_12 rfl (lv_at hl 0 rfl) ?_
    replace q := nn_s q
    obtain ⟨a_4, e_a_4, q⟩ := q
    refine x_getR hx hb hown hX M e_a_4 okX12 ra0 (by decide) rfl kw_1024 dX12_bend_13 (fun ra_4 => ?_)
    refine lv_bipush (v := 8) hx hb dX12_bend_16 (by decide) ?_
    refine lv_sipush (v := 256) hx hb dX12_bend_18 (by decide) ?_
    refine lv_iload_n hx hb dX12_bend_21 rfl (lv_at hl 1 rfl) ?_
    refine lv_imul hx hb dX12_bend_22 ?_
    refine lv_iload_n hx hb dX12_bend_23 rfl (lv_at hl 2 rfl) ?_
    refine lv_iadd hx hb dX12_bend_24 ?_
    refine lv_imul hx hb dX12_bend_25 ?_
    refine lv_iload_n hx hb dX12_bend_26 rfl (lv_at hl 3 rfl) ?_
    refine lv_iadd hx hb dX12_bend_27 ?_
    refine lv_dup2_11 hx hb dX12_bend_28 rfl rfl ?_
    replace q := ck_s q
    obtain ⟨hin, q⟩ := q
    refine x_iald hx hb hX M ra_4 (inb_in hin) dX12_bend_29 ?_
    refine lv_iload hx hb dX12_bend_30 (lv_at hl 4 rfl) ?_
    refine lv_ixor hx hb dX12_bend_32 ?_
    replace q := ck_s q
    obtain ⟨hin, q⟩ := q
    refine x_iast hx hb hX M ra_4 (inb_in hin) dX12_bend_33 (fun H locs M => ?_)
    replace q := gen_g M q
    obtain ⟨g_5, -, M, q⟩ := q
    refine lv_iconst (v := 1) hx hb dX12_bend_34 (by decide) ?_
    cases q
    exact x_zret hx hb hr hlk rfl M Ext.rf dX12_bend_35
  · replace q := if_t c_3 q
    refine lv_iconst (v := 0) hx hb dX12_bend_10 (by decide) ?_
    cases q
    exact x_zret hx hb hr hlk rfl M Ext.rf dX12_bend_11
set_option maxRecDepth 100000 in
theorem c_X12_bend {l : Launch} {D : va_G} {cA : Nat → ClassId} {lo tS N : Nat} {S : Hs} {g g1 : Hg} {rv : Int32} {a0 : Nat} {x1 : Int32} {x2 : Int32} {x3 : Int32} {x4 : Int32} (ra0 : Rf lo S a0 12) (q : f_X12_bend N S g a0 x1 x2 x3 x4 = some (rv, g1)) {d : Nat} (hd : 3 ≤ d) : Ctr l yX12_bend cX12_bend 5 (some .boolean) D cA lo tS [.ref a0, .int x1, .int x2, .int x3, .int x4] S g d (some (.int rv)) S g1 True 0 0 := by
  refine x_met (by decide) (Nat.le_of_ble_eq_true rfl) ?_
  intro p e s m below meth c ls hx hb hml hr hlk hown hnm hX M hl
  exact w_X12_bend_0 hx hb hml hr hlk hown hX hd (Nat.mul_le_mul_left 60 hd) (N := N) _ _ _ _ _ _ _ _ _ M ra0 (lv_sub hl [0, 1, 2, 3, 4] rfl) q
def b_X12_areLike_6 (N : Nat) (S : Hs) (k6 : Hg → Nat → Int32 → Nat → Int32 → Int32 → Int32 → Option (Int32 × Hg)) (g : Hg) (a0 : Nat) (x1 : Int32) (a2 : Nat) (x3 : Int32) (x4 : Int32) (x5 : Int32) : Option (Int32 × Hg) :=
if (8 : Int32) ≤ x5 then (
ck (zb x4) (
some (x4, g))) else (
if x4 = 0 then (
nm (x5 + 1) (fun x_3 =>
k6 g a0 x1 a2 x3 (0 : Int32) x_3)) else (
ck (inb (x1 + x5) (hpL S a0)) (
ck (inb (x3 + x5) (hpL S a2)) (
if (rdI g a0 (x1 + x5).toNatClampNeg) = (rdI g a2 (x3 + x5).toNatClampNeg) then (
nm (x5 + 1) (fun x_6 =>
k6 g a0 x1 a2 x3 (1 : Int32) x_6)) else (
nm (x5 + 1) (fun x_5 =>
k6 g a0 x1 a2 x3 (0 : Int32) x_5))))))
def n_X12_areLike_6 (N : Nat) (S : Hs) : Nat → Hg → Nat → Int32 → Nat → Int32 → Int32 → Int32 → Option (Int32 × Hg)
  | 0 => fun _ _ _ _ _ _ _ => none
  | n + 1 => fun g a0 x1 a2 x3 x4 x5 => b_X12_areLike_6 N S (n_X12_areLike_6 N S n) g a0 x1 a2 x3 x4 x5
def b_X12_areLike_0 (N : Nat) (S : Hs) (g : Hg) (a0 : Nat) (x1 : Int32) (a2 : Nat) (x3 : Int32) : Option (Int32 × Hg) :=
n_X12_areLike_6 N S N g a0 x1 a2 x3 (1 : Int32) (0 : Int32)
def f_X12_areLike (N : Nat) (S : Hs) (g : Hg) (a0 : Nat) (x1 : Int32) (a2 : Nat) (x3 : Int32) : Option (Int32 × Hg) := b_X12_areLike_0 N S g a0 x1 a2 x3
set_option maxHeartbeats 4000000 in
set_option maxRecDepth 100000 in
theorem w_X12_areLike_6 (hx : p.tables.exec = Jvm.exec) (hb : c.code = cX12_areLike) (hml : c.maxLocals = 6) (hr : meth.sig.returnType = (some .boolean)) (hlk : meth.locks = false) (hown : s.vm.findClass RX12 = some m.cls) (hX : Kx D cA lo tS s) (hRf : 1 ≤ R.frames) (hRl : 60 ≤ R.locals) {N : Nat} {rv : Int32} {g1 : Hg} {S : Hs} {k6 : Hg → Nat → Int32 → Nat → Int32 → Int32 → Int32 → Option (Int32 × Hg)} (hk6 : ∀ (H : Heap) (locs : List Loc) (ls : Array Slot) (g : Hg) (a0 : Nat) (x1 : Int32) (a2 : Nat) (x3 : Int32) (x4 : Int32) (x5 : Int32), Mm D cA lo S g s H locs → Rf lo S a0 20 → Rf lo S a2 20 → lv_has ls 6 [(0, .ref a0), (1, .int x1), (2, .ref a2), (3, .int x3), (4, .int x4), (5, .int x5)] → k6 g a0 x1 a2 x3 x4 x5 = some (rv, g1) → W p l e R s m args below meth c H locs 0 0 (MQ below (Qcx D cA lo S (some (.int rv)) S g1 True) args s 0 0 (fun q : Nat => lo ≤ q)) (F0 m 6 ls [])) : ∀ (H : Heap) (locs : List Loc) (ls : Array Slot) (g : Hg) (a0 : Nat) (x1 : Int32) (a2 : Nat) (x3 : Int32) (x4 : Int32) (x5 : Int32), Mm D cA lo S g s H locs → Rf lo S a0 20 → Rf lo S a2 20 → lv_has ls 6 [(0, .ref a0), (1, .int x1), (2, .ref a2), (3, .int x3), (4, .int x4), (5, .int x5)] → b_X12_areLike_6 N S k6 g a0 x1 a2 x3 x4 x5 = some (rv, g1) → W p l e R s m args below meth c H locs 0 0 (MQ below (Qcx D cA lo S (some (.int rv)) S g1 True) args s 0 0 (fun q : Nat => lo ≤ q)) (F0 m 6 ls []) := by
  intro H locs ls g a0 x1 a2 x3 x4 x5 M ra0 ra2 hl q
  unfold b_X12_areLike_6 at q
  refine lv_iload hx hb dX12_areLike_6 (lv_at hl 5 rfl) ?_
  refine lv_bipush (v := 8) hx hb dX12_areLike_8 (by decide) ?_
  refine lv_icmp_ge (tgt := 46) hx hb dX12_areLike_10 (by decide) (fun c_1 => ?_) (fun c_1 => ?_)
  · replace q := if_t c_1 q
    refine lv_iload hx hb dX12_areLike_46 (lv_at hl 4 rfl) ?_
    replace q := ck_s q
    obtain ⟨hz, q⟩ := q
    cases q
    exact x_zret hx hb hr hlk (zb_nar hz) M Ext.rf dX12_areLike_48
  · replace q := if_f c_1 q
    refine lv_iload hx hb dX12_areLike_13 (lv_at hl 4 rfl) ?_
    refine lv_if_eq (tgt := 37) hx hb dX12_areLike_15 (by decide) (fun c_2 => ?_) (fun c_2 => ?_)
    · replace q := if_t c_2 q
      refine lv_iconst (v := 0) hx hb dX12_areLike_37 (by decide) ?_
      refine lv_istore (lv' := [(4, .int (0 : Int32)), (0, .ref a0), (1, .int x1), (2, .ref a2), (3, .int x3), (5, .int x5)]) hx hb dX12_areLike_38 hl (by decide) rfl (fun ls hl => ?_)
      obtain ⟨x_3, e_x_3⟩ : ∃ y : Int32, y = x5 + 1 := ⟨_, rfl⟩
      replace q := nm_s q e_x_3
      refine lv_iinc (v := x_3) (lv' := [(5, .int x_3), (4, .int (0 : Int32)), (0, .ref a0), (1, .int x1), (2, .ref a2), (3, .int x3)]) hx hb dX12_areLike_40 hl (k := 5) rfl (by rw [e_x_3]; rfl) (by decide) rfl (fun ls hl => ?_)
      refine lv_goto (tgt := 6) hx hb dX12_areLike_43 (by decide) ?_
      exact hk6 _ _ _ _ _ _ _ _ _ _ M ra0 ra2 (lv_sub hl [2, 3, 4, 5, 1, 0] rfl) q
    · replace q := if_f c_2 q
      refine lv_aload_n hx hb dX12_areLike_18 rfl (lv_at hl 0 rfl) ?_
      refine lv_iload_n hx hb dX12_areLike_19 rfl (lv_at hl 1 rfl) ?_
      refine lv_iload hx hb dX12_areLike_20 (lv_at hl 5 rfl) ?_
      refine lv_iadd hx hb dX12_areLike_22 ?_
      replace q := ck_s q
      obtain ⟨hin, q⟩ := q
      refine x_iald hx hb hX M ra0 (inb_in hin) dX12_areLike_23 ?_
      refine lv_aload_n hx hb dX12_areLike_24 rfl (lv_at hl 2 rfl) ?_
      refine lv_iload_n hx hb dX12_areLike_25 rfl (lv_at hl 3 rfl) ?_
      refine lv_iload hx hb dX12_areLike_26 (lv_at hl 5 rfl) ?_
      refine lv_iadd hx hb dX12_areLike_28 ?_
      replace q := ck_s q
      obtain ⟨hin, q⟩ := q
      refine x_iald hx hb hX M ra2 (inb_in hin) dX12_areLike_29 ?_
      refine lv_icmp_ne (tgt := 37) hx hb dX12_areLike_30 (by decide) (fun c_4 => ?_) (fun c_4 => ?_)
      · replace q := if_f c_4 q
        refine lv_iconst (v := 0) hx hb dX12_areLike_37 (by decide) ?_
        refine lv_istore (lv' := [(4, .int (0 : Int32)), (0, .ref a0), (1, .int x1), (2, .ref a2), (3, .int x3), (5, .int x5)]) hx hb dX12_areLike_38 hl (by decide) rfl (fun ls hl => ?_)
        obtain ⟨x_5, e_x_5⟩ : ∃ y : Int32, y = x5 + 1 := ⟨_, rfl⟩
        replace q := nm_s q e_x_5
        refine lv_iinc (v := x_5) (lv' := [(5, .int x_5), (4, .int (0 : Int32)), (0, .ref a0), (1, .int x1), (2, .ref a2), (3, .int x3)]) hx hb dX12_areLike_40 hl (k := 5) rfl (by rw [e_x_5]; rfl) (by decide) rfl (fun ls hl => ?_)
        refine lv_goto (tgt := 6) hx hb dX12_areLike_43 (by decide) ?_
        exact hk6 _ _ _ _ _ _ _ _ _ _ M ra0 ra2 (lv_sub hl [2, 3, 4, 5, 1, 0] rfl) q
      · replace q := if_t c_4 q
        refine lv_iconst (v := 1) hx hb dX12_areLike_33 (by decide) ?_
        refine lv_goto (tgt := 38) hx hb dX12_areLike_34 (by decide) ?_
        refine lv_istore (lv' := [(4, .int (1 : Int32)), (0, .ref a0), (1, .int x1), (2, .ref a2), (3, .int x3), (5, .int x5)]) hx hb dX12_areLike_38 hl (by decide) rfl (fun ls hl => ?_)
        obtain ⟨x_6, e_x_6⟩ : ∃ y : Int32, y = x5 + 1 := ⟨_, rfl⟩
        replace q := nm_s q e_x_6
        refine lv_iinc (v := x_6) (lv' := [(5, .int x_6), (4, .int (1 : Int32)), (0, .ref a0), (1, .int x1), (2, .ref a2), (3, .int x3)]) hx hb dX12_areLike_40 hl (k := 5) rfl (by rw [e_x_6]; rfl) (by decide) rfl (fun ls hl => ?_)
        refine lv_goto (tgt := 6) hx hb dX12_areLike_43 (by decide) ?_
        exact hk6 _ _ _ _ _ _ _ _ _ _ M ra0 ra2 (lv_sub hl [2, 3, 4, 5, 1, 0] rfl) q
set_option maxRecDepth 100000 in
theorem l_X12_areLike_6 (hx : p.tables.exec = Jvm.exec) (hb : c.code = cX12_areLike) (hml : c.maxLocals = 6) (hr : meth.sig.returnType = (some .boolean)) (hlk : meth.locks = false) (hown : s.vm.findClass RX12 = some m.cls) (hX : Kx D cA lo tS s) (hRf : 1 ≤ R.frames) (hRl : 60 ≤ R.locals) {N : Nat} {rv : Int32} {g1 : Hg} {S : Hs} : ∀ (n : Nat), ∀ (H : Heap) (locs : List Loc) (ls : Array Slot) (g : Hg) (a0 : Nat) (x1 : Int32) (a2 : Nat) (x3 : Int32) (x4 : Int32) (x5 : Int32), Mm D cA lo S g s H locs → Rf lo S a0 20 → Rf lo S a2 20 → lv_has ls 6 [(0, .ref a0), (1, .int x1), (2, .ref a2), (3, .int x3), (4, .int x4), (5, .int x5)] → n_X12_areLike_6 N S n g a0 x1 a2 x3 x4 x5 = some (rv, g1) → W p l e R s m args below meth c H locs 0 0 (MQ below (Qcx D cA lo S (some (.int rv)) S g1 True) args s 0 0 (fun q : Nat => lo ≤ q)) (F0 m 6 ls []) := by
  intro n
  induction n with
  | zero =>
    intro H locs ls g a0 x1 a2 x3 x4 x5 M ra0 ra2 hl q
    exact absurd q (by simp [n_X12_areLike_6])
  | succ n ih => exact w_X12_areLike_6 hx hb hml hr hlk hown hX hRf hRl (N := N)  ih
set_option maxHeartbeats 4000000 in
set_option maxRecDepth 100000 in
theorem w_X12_areLike_0 (hx : p.tables.exec = Jvm.exec) (hb : c.code = cX12_areLike) (hml : c.maxLocals = 6) (hr : meth.sig.returnType = (some .boolean)) (hlk : meth.locks = false) (hown : s.vm.findClass RX12 = some m.cls) (hX : Kx D cA lo tS s) (hRf : 1 ≤ R.frames) (hRl : 60 ≤ R.locals) {N : Nat} {rv : Int32} {g1 : Hg} {S : Hs} : ∀ (H : Heap) (locs : List Loc) (ls : Array Slot) (g : Hg) (a0 : Nat) (x1 : Int32) (a2 : Nat) (x3 : Int32), Mm D cA lo S g s H locs → Rf lo S a0 20 → Rf lo S a2 20 → lv_has ls 6 [(0, .ref a0), (1, .int x1), (2, .ref a2), (3, .int x3)] → b_X12_areLike_0 N S g a0 x1 a2 x3 = some (rv, g1) → W p l e R s m args below meth c H locs 0 0 (MQ below (Qcx D cA lo S (some (.int rv)) S g1 True) args s 0 0 (fun q : Nat => lo ≤ q)) (F0 m 0 ls []) := by
  intro H locs ls g a0 x1 a2 x3 M ra0 ra2 hl q
  unfold b_X12_areLike_0 at q
  refine lv_iconst (v := 1) hx hb dX12_areLike_0 (by decide) ?_
  refine lv_istore (lv' := [(4, .int (1 : Int32)), (0, .ref a0), (1, .int x1), (2, .ref a2), (3, .int x3)]) hx hb dX12_areLike_1 hl (by decide) rfl (fun ls hl => ?_)
  refine lv_iconst (v := 0) hx hb dX12_areLike_3 (by decide) ?_
  refine lv_istore (lv' := [(5, .int (0 : Int32)), (4, .int (1 : Int32)), (0, .ref a0), (1, .int x1), (2, .ref a2), (3, .int x3)]) hx hb dX12_areLike_4 hl (by decide) rfl (fun ls hl => ?_)
  exact l_X12_areLike_6 hx hb hml hr hlk hown hX hRf hRl (N := N)  N _ _ _ _ _ _ _ _ _ _ M ra0 ra2 (lv_sub hl [2, 3, 4, 5, 1, 0] rfl) q
set_option maxRecDepth 100000 in
theorem c_X12_areLike {l : Launch} {D : va_G} {cA : Nat → ClassId} {lo tS N : Nat} {S : Hs} {g g1 : Hg} {rv : Int32} {a0 : Nat} {x1 : Int32} {a2 : Nat} {x3 : Int32} (ra0 : Rf lo S a0 20) (ra2 : Rf lo S a2 20) (q : f_X12_areLike N S g a0 x1 a2 x3 = some (rv, g1)) {d : Nat} (hd : 1 ≤ d) : Ctr l yX12_areLike cX12_areLike 6 (some .boolean) D cA lo tS [.ref a0, .int x1, .ref a2, .int x3] S g d (some (.int rv)) S g1 True 0 0 := by
  refine x_met (by decide) (Nat.le_of_ble_eq_true rfl) ?_
  intro p e s m below meth c ls hx hb hml hr hlk hown hnm hX M hl
  exact w_X12_areLike_0 hx hb hml hr hlk hown hX hd (Nat.mul_le_mul_left 60 hd) (N := N) _ _ _ _ _ _ _ _ M ra0 ra2 (lv_sub hl [0, 1, 2, 3] rfl) q
def b_X12_mark_38 (N : Nat) (S : Hs) (k38 : Hg → Nat → Nat → Int32 → Int32 → Int32 → Option (Unit × Hg)) (g : Hg) (a0 : Nat) (a3 : Nat) (x4 : Int32) (x5 : Int32) (x6 : Int32) : Option (Unit × Hg) :=
if (8 : Int32) ≤ x6 then (
c2 (f_X12_mix N S g a0 (20 : Int32)) (fun u_3 g_2 =>
some ((), g_2))) else (
nn (rdR g a0 43) (fun a_4 =>
ck (inb (x4 + x6) (hpL S a3)) (
ck (inb ((4 : Int32) + x6) (hpL S a_4)) (
nm (wrI g a_4 ((4 : Int32) + x6).toNatClampNeg (rdI g a3 (x4 + x6).toNatClampNeg)) (fun g_5 =>
nn (rdR g_5 a0 43) (fun a_6 =>
ck (inb (x5 + x6) (hpL S a3)) (
ck (inb ((12 : Int32) + x6) (hpL S a_6)) (
nm (wrI g_5 a_6 ((12 : Int32) + x6).toNatClampNeg (rdI g_5 a3 (x5 + x6).toNatClampNeg)) (fun g_7 =>
nm (x6 + 1) (fun x_8 =>
k38 g_7 a0 a3 x4 x5 x_8))))))))))
def n_X12_mark_38 (N : Nat) (S : Hs) : Nat → Hg → Nat → Nat → Int32 → Int32 → Int32 → Option (Unit × Hg)
  | 0 => fun _ _ _ _ _ _ => none
  | n + 1 => fun g a0 a3 x4 x5 x6 => b_X12_mark_38 N S (n_X12_mark_38 N S n) g a0 a3 x4 x5 x6
def b_X12_mark_0 (N : Nat) (S : Hs) (g : Hg) (a0 : Nat) (x1 : Int32) (x2 : Int32) (a3 : Nat) (x4 : Int32) (x5 : Int32) : Option (Unit × Hg) :=
nn (rdR g a0 43) (fun a_1 =>
ck (inb (0 : Int32) (hpL S a_1)) (
nm (wrI g a_1 (0 : Int32).toNatClampNeg (6 : Int32)) (fun g_2 =>
nn (rdR g_2 a0 43) (fun a_3 =>
ck (inb (1 : Int32) (hpL S a_3)) (
nm (wrI g_2 a_3 (1 : Int32).toNatClampNeg x1) (fun g_4 =>
nn (rdR g_4 a0 43) (fun a_5 =>
ck (inb (2 : Int32) (hpL S a_5)) (
nm (wrI g_4 a_5 (2 : Int32).toNatClampNeg (((1000003 : Int32) * x1) + (77 : Int32))) (fun g_6 =>
nn (rdR g_6 a0 43) (fun a_7 =>
ck (inb (3 : Int32) (hpL S a_7)) (
nm (wrI g_6 a_7 (3 : Int32).toNatClampNeg x2) (fun g_8 =>
n_X12_mark_38 N S N g_8 a0 a3 x4 x5 (0 : Int32)))))))))))))
def f_X12_mark (N : Nat) (S : Hs) (g : Hg) (a0 : Nat) (x1 : Int32) (x2 : Int32) (a3 : Nat) (x4 : Int32) (x5 : Int32) : Option (Unit × Hg) := b_X12_mark_0 N S g a0 x1 x2 a3 x4 x5
set_option maxHeartbeats 4000000 in
set_option maxRecDepth 100000 in
theorem w_X12_mark_38 (hx : p.tables.exec = Jvm.exec) (hb : c.code = cX12_mark) (hml : c.maxLocals = 7) (hr : meth.sig.returnType = none) (hlk : meth.locks = false) (hown : s.vm.findClass RX12 = some m.cls) (hX : Kx D cA lo tS s) (hRf : 3 ≤ R.frames) (hRl : 180 ≤ R.locals) {N : Nat} {rv : Unit} {g1 : Hg} {S : Hs} {k38 : Hg → Nat → Nat → Int32 → Int32 → Int32 → Option (Unit × Hg)} (hk38 : ∀ (H : Heap) (locs : List Loc) (ls : Array Slot) (g : Hg) (a0 : Nat) (a3 : Nat) (x4 : Int32) (x5 : Int32) (x6 : Int32), Mm D cA lo S g s H locs → Rf lo S a0 12 → Rf lo S a3 20 → lv_has ls 7 [(0, .ref a0), (3, .ref a3), (4, .int x4), (5, .int x5), (6, .int x6)] → k38 g a0 a3 x4 x5 x6 = some (rv, g1) → W p l e R s m args below meth c H locs 0 0 (MQ below (Qcx D cA lo S none S g1 True) args s 0 0 (fun q : Nat => lo ≤ q)) (F0 m 38 ls [])) : ∀ (H : Heap) (locs : List Loc) (ls : Array Slot) (g : Hg) (a0 : Nat) (a3 : Nat) (x4 : Int32) (x5 : Int32) (x6 : Int32), Mm D cA lo S g s H locs → Rf lo S a0 12 → Rf lo S a3 20 → lv_has ls 7 [(0, .ref a0), (3, .ref a3), (4, .int x4), (5, .int x5), (6, .int x6)] → b_X12_mark_38 N S k38 g a0 a3 x4 x5 x6 = some (rv, g1) → W p l e R s m args below meth c H locs 0 0 (MQ below (Qcx D cA lo S none S g1 True) args s 0 0 (fun q : Nat => lo ≤ q)) (F0 m 38 ls []) := by
  intro H locs ls g a0 a3 x4 x5 x6 M ra0 ra3 hl q
  unfold b_X12_mark_38 at q
  refine lv_iload hx hb dX12_mark_38 (lv_at hl 4 rfl) ?_
  refine lv_bipush (v := 8) hx hb dX12_mark_40 (by decide) ?_
  refine lv_icmp_ge (tgt := 84) hx hb dX12_mark_42 (by decide) (fun c_1 => ?_) (fun c_1 => ?_)
  · replace q := if_t c_1 q
    refine lv_aload_n hx hb dX12_mark_84 rfl (lv_at hl 0 rfl) ?_
    refine lv_bipush (v := 20) hx hb dX12_mark_85 (by decide) ?_
    replace q := c2_s q
    obtain ⟨u_3, g_2, qc, q⟩ := q
    refine x_callV hx hb hml hl.1 hown hX M (S1 := S) (As := [.int (20 : Int32)]) (rest := []) okX12 ra0 rfl kw_1281 kw_23 mok_X12_mix (c_X12_mix ra0 qc (Nat.le_refl 2)) kw_1279 rfl rfl dX12_mark_87 (Nat.le_of_ble_eq_true rfl) ⟨Nat.le_trans (by decide) hRf, Nat.le_trans (by decide) hRl⟩ (Nat.zero_le _) (Nat.zero_le _) (fun H locs M hEF => ?_)
    cases q
    exact x_vret hx hb hr hlk M Ext.rf dX12_mark_90
  · replace q := if_f c_1 q
    refine lv_aload_n hx hb dX12_mark_45 rfl (lv_at hl 0 rfl) ?_
    replace q := nn_s q
    obtain ⟨a_4, e_a_4, q⟩ := q
    refine x_getR hx hb hown hX M e_a_4 okX12 ra0 (by decide) rfl kw_1055 dX12_mark_46 (fun ra_4 => ?_)
    refine lv_iconst (v := 4) hx hb dX12_mark_49 (by decide) ?_
    refine lv_iload hx hb dX12_mark_50 (lv_at hl 4 rfl) ?_
    refine lv_iadd hx hb dX12_mark_52 ?_
    refine lv_aload_n hx hb dX12_mark_53 rfl (lv_at hl 1 rfl) ?_
    refine lv_iload hx hb dX12_mark_54 (lv_at hl 2 rfl) ?_
    refine lv_iload hx hb dX12_mark_56 (lv_at hl 4 rfl) ?_
    refine lv_iadd hx hb dX12_mark_58 ?_
    replace q := ck_s q
    obtain ⟨hin, q⟩ := q
    refine x_iald hx hb hX M ra3 (inb_in hin) dX12_mark_59 ?_
    replace q := ck_s q
    obtain ⟨hin, q⟩ := q
    refine x_iast hx hb hX M ra_4 (inb_in hin) dX12_mark_60 (fun H locs M => ?_)
    replace q := gen_g M q
    obtain ⟨g_5, -, M, q⟩ := q
    refine lv_aload_n hx hb dX12_mark_61 rfl (lv_at hl 0 rfl) ?_
    replace q := nn_s q
    obtain ⟨a_6, e_a_6, q⟩ := q
    refine x_getR hx hb hown hX M e_a_6 okX12 ra0 (by decide) rfl kw_1055 dX12_mark_62 (fun ra_6 => ?_)
    refine lv_bipush (v := 12) hx hb dX12_mark_65 (by decide) ?_
    refine lv_iload hx hb dX12_mark_67 (lv_at hl 4 rfl) ?_
    refine lv_iadd hx hb dX12_mark_69 ?_
    refine lv_aload_n hx hb dX12_mark_70 rfl (lv_at hl 1 rfl) ?_
    refine lv_iload hx hb dX12_mark_71 (lv_at hl 3 rfl) ?_
    refine lv_iload hx hb dX12_mark_73 (lv_at hl 4 rfl) ?_
    refine lv_iadd hx hb dX12_mark_75 ?_
    replace q := ck_s q
    obtain ⟨hin, q⟩ := q
    refine x_iald hx hb hX M ra3 (inb_in hin) dX12_mark_76 ?_
    replace q := ck_s q
    obtain ⟨hin, q⟩ := q
    refine x_iast hx hb hX M ra_6 (inb_in hin) dX12_mark_77 (fun H locs M => ?_)
    replace q := gen_g M q
    obtain ⟨g_7, -, M, q⟩ := q
    obtain ⟨x_8, e_x_8⟩ : ∃ y : Int32, y = x6 + 1 := ⟨_, rfl⟩
    replace q := nm_s q e_x_8
    refine lv_iinc (v := x_8) (lv' := [(6, .int x_8), (0, .ref a0), (3, .ref a3), (4, .int x4), (5, .int x5)]) hx hb dX12_mark_78 hl (k := 4) rfl (by rw [e_x_8]; rfl) (by decide) rfl (fun ls hl => ?_)
    refine lv_goto (tgt := 38) hx hb dX12_mark_81 (by decide) ?_
    exact hk38 _ _ _ _ _ _ _ _ _ M ra0 ra3 (lv_sub hl [1, 2, 3, 4, 0] rfl) q
set_option maxRecDepth 100000 in
theorem l_X12_mark_38 (hx : p.tables.exec = Jvm.exec) (hb : c.code = cX12_mark) (hml : c.maxLocals = 7) (hr : meth.sig.returnType = none) (hlk : meth.locks = false) (hown : s.vm.findClass RX12 = some m.cls) (hX : Kx D cA lo tS s) (hRf : 3 ≤ R.frames) (hRl : 180 ≤ R.locals) {N : Nat} {rv : Unit} {g1 : Hg} {S : Hs} : ∀ (n : Nat), ∀ (H : Heap) (locs : List Loc) (ls : Array Slot) (g : Hg) (a0 : Nat) (a3 : Nat) (x4 : Int32) (x5 : Int32) (x6 : Int32), Mm D cA lo S g s H locs → Rf lo S a0 12 → Rf lo S a3 20 → lv_has ls 7 [(0, .ref a0), (3, .ref a3), (4, .int x4), (5, .int x5), (6, .int x6)] → n_X12_mark_38 N S n g a0 a3 x4 x5 x6 = some (rv, g1) → W p l e R s m args below meth c H locs 0 0 (MQ below (Qcx D cA lo S none S g1 True) args s 0 0 (fun q : Nat => lo ≤ q)) (F0 m 38 ls []) := by
  intro n
  induction n with
  | zero =>
    intro H locs ls g a0 a3 x4 x5 x6 M ra0 ra3 hl q
    exact absurd q (by simp [n_X12_mark_38])
  | succ n ih => exact w_X12_mark_38 hx hb hml hr hlk hown hX hRf hRl (N := N)  ih
set_option maxHeartbeats 4000000 in
set_option maxRecDepth 100000 in
theorem w_X12_mark_0 (hx : p.tables.exec = Jvm.exec) (hb : c.code = cX12_mark) (hml : c.maxLocals = 7) (hr : meth.sig.returnType = none) (hlk : meth.locks = false) (hown : s.vm.findClass RX12 = some m.cls) (hX : Kx D cA lo tS s) (hRf : 3 ≤ R.frames) (hRl : 180 ≤ R.locals) {N : Nat} {rv : Unit} {g1 : Hg} {S : Hs} : ∀ (H : Heap) (locs : List Loc) (ls : Array Slot) (g : Hg) (a0 : Nat) (x1 : Int32) (x2 : Int32) (a3 : Nat) (x4 : Int32) (x5 : Int32), Mm D cA lo S g s H locs → Rf lo S a0 12 → Rf lo S a3 20 → lv_has ls 7 [(0, .ref a0), (1, .int x1), (2, .int x2), (3, .ref a3), (4, .int x4), (5, .int x5)] → b_X12_mark_0 N S g a0 x1 x2 a3 x4 x5 = some (rv, g1) → W p l e R s m args below meth c H locs 0 0 (MQ below (Qcx D cA lo S none S g1 True) args s 0 0 (fun q : Nat => lo ≤ q)) (F0 m 0 ls []) := by
  intro H locs ls g a0 x1 x2 a3 x4 x5 M ra0 ra3 hl q
  unfold b_X12_mark_0 at q
  refine lv_aload_n hx hb dX12_mark_0 rfl (lv_at hl 0 rfl) ?_
  replace q := nn_s q
  obtain ⟨a_1, e_a_1, q⟩ := q
  refine x_getR hx hb hown hX M e_a_1 okX12 ra0 (by decide) rfl kw_1055 dX12_mark_1 (fun ra_1 => ?_)
  refine lv_iconst (v := 0) hx hb dX12_mark_4 (by decide) ?_
  refine lv_bipush (v := 6) hx hb dX12_mark_5 (by decide) ?_
  replace q := ck_s q
  obtain ⟨hin, q⟩ := q
  refine x_iast hx hb hX M ra_1 (inb_in hin) dX12_mark_7 (fun H locs M => ?_)
  replace q := gen_g M q
  obtain ⟨g_2, -, M, q⟩ := q
  refine lv_aload_n hx hb dX12_mark_8 rfl (lv_at hl 0 rfl) ?_
  replace q := nn_s q
  obtain ⟨a_3, e_a_3, q⟩ := q
  refine x_getR hx hb hown hX M e_a_3 okX12 ra0 (by decide) rfl kw_1055 dX12_mark_9 (fun ra_3 => ?_)
  refine lv_iconst (v := 1) hx hb dX12_mark_12 (by decide) ?_
  refine lv_iload_n hx hb dX12_mark_13 rfl (lv_at hl 1 rfl) ?_
  replace q := ck_s q
  obtain ⟨hin, q⟩ := q
  refine x_iast hx hb hX M ra_3 (inb_in hin) dX12_mark_14 (fun H locs M => ?_)
  replace q := gen_g M q
  obtain ⟨g_4, -, M, q⟩ := q
  refine lv_aload_n hx hb dX12_mark_15 rfl (lv_at hl 0 rfl) ?_
  replace q := nn_s q
  obtain ⟨a_5, e_a_5, q⟩ := q
  refine x_getR hx hb hown hX M e_a_5 okX12 ra0 (by decide) rfl kw_1055 dX12_mark_16 (fun ra_5 => ?_)
  refine lv_iconst (v := 2) hx hb dX12_mark_19 (by decide) ?_
  refine lv_ldc (v := 1000003) hx hb hown (hX.hts _ _ (mw kw_1350 rfl)) dX12_mark_20 ?_
  refine lv_iload_n hx hb dX12_mark_22 rfl (lv_at hl 1 rfl) ?_
  refine lv_imul hx hb dX12_mark_23 ?_
  refine lv_bipush (v := 77) hx hb dX12_mark_24 (by decide) ?_
  refine lv_iadd hx hb dX12_mark_26 ?_
  replace q := ck_s q
  obtain ⟨hin, q⟩ := q
  refine x_iast hx hb hX M ra_5 (inb_in hin) dX12_mark_27 (fun H locs M => ?_)
  replace q := gen_g M q
  obtain ⟨g_6, -, M, q⟩ := q
  refine lv_aload_n hx hb dX12_mark_28 rfl (lv_at hl 0 rfl) ?_
  replace q := nn_s q
  obtain ⟨a_7, e_a_7, q⟩ := q
  refine x_getR hx hb hown hX M e_a_7 okX12 ra0 (by decide) rfl kw_1055 dX12_mark_29 (fun ra_7 => ?_)
  refine lv_iconst (v := 3) hx hb dX12_mark_32 (by decide) ?_
  refine lv_iload_n hx hb dX12_mark_33 rfl (lv_at hl 2 rfl) ?_
  replace q := ck_s q
  obtain ⟨hin, q⟩ := q
  refine x_iast hx hb hX M ra_7 (inb_in hin) dX12_mark_34 (fun H locs M => ?_)
  replace q := gen_g M q
  obtain ⟨g_8, -, M, q⟩ := q
  refine lv_iconst (v := 0) hx hb dX12_mark_35 (by decide) ?_
  refine lv_istore (lv' := [(6, .int (0 : Int32)), (0, .ref a0), (1, .int x1), (2, .int x2), (3, .ref a3), (4, .int x4), (5, .int x5)]) hx hb dX12_mark_36 hl (by decide) rfl (fun ls hl => ?_)
  exact l_X12_mark_38 hx hb hml hr hlk hown hX hRf hRl (N := N)  N _ _ _ _ _ _ _ _ _ M ra0 ra3 (lv_sub hl [1, 4, 5, 6, 0] rfl) q
set_option maxRecDepth 100000 in
theorem c_X12_mark {l : Launch} {D : va_G} {cA : Nat → ClassId} {lo tS N : Nat} {S : Hs} {g g1 : Hg} {rv : Unit} {a0 : Nat} {x1 : Int32} {x2 : Int32} {a3 : Nat} {x4 : Int32} {x5 : Int32} (ra0 : Rf lo S a0 12) (ra3 : Rf lo S a3 20) (q : f_X12_mark N S g a0 x1 x2 a3 x4 x5 = some (rv, g1)) {d : Nat} (hd : 3 ≤ d) : Ctr l yX12_mark cX12_mark 7 none D cA lo tS [.ref a0, .int x1, .int x2, .ref a3, .int x4, .int x5] S g d none S g1 True 0 0 := by
  refine x_met (by decide) (Nat.le_of_ble_eq_true rfl) ?_
  intro p e s m below meth c ls hx hb hml hr hlk hown hnm hX M hl
  exact w_X12_mark_0 hx hb hml hr hlk hown hX hd (Nat.mul_le_mul_left 60 hd) (N := N) _ _ _ _ _ _ _ _ _ _ M ra0 ra3 (lv_sub hl [0, 1, 2, 3, 4, 5] rfl) q
def b_X12_isMarked_0 (N : Nat) (S : Hs) (g : Hg) (a0 : Nat) (x1 : Int32) : Option (Int32 × Hg) :=
nn (rdR g a0 15) (fun a_1 =>
ck (inb (x1 + (2 : Int32)) (hpL S a_1)) (
nn (rdR g a0 15) (fun a_2 =>
ck (inb x1 (hpL S a_2)) (
nn (rdR g a0 15) (fun a_3 =>
c2 (f_X12_mark N S g a0 (rdI g a_1 (x1 + (2 : Int32)).toNatClampNeg) (rdI g a_2 x1.toNatClampNeg) a_3 (x1 + (4 : Int32)) (x1 + (12 : Int32))) (fun u_5 g_4 =>
nn (rdR g_4 a0 44) (fun a_6 =>
nn (rdR g_4 a0 15) (fun a_7 =>
c2 (f_X12_areLike N S g_4 a_6 (0 : Int32) a_7 (x1 + (20 : Int32))) (fun x_9 g_8 =>
ck (zb x_9) (
some (x_9, g_8)))))))))))
def f_X12_isMarked (N : Nat) (S : Hs) (g : Hg) (a0 : Nat) (x1 : Int32) : Option (Int32 × Hg) := b_X12_isMarked_0 N S g a0 x1
set_option maxHeartbeats 4000000 in
set_option maxRecDepth 100000 in
theorem w_X12_isMarked_0 (hx : p.tables.exec = Jvm.exec) (hb : c.code = cX12_isMarked) (hml : c.maxLocals = 2) (hr : meth.sig.returnType = (some .boolean)) (hlk : meth.locks = false) (hown : s.vm.findClass RX12 = some m.cls) (hX : Kx D cA lo tS s) (hRf : 4 ≤ R.frames) (hRl : 240 ≤ R.locals) {N : Nat} {rv : Int32} {g1 : Hg} {S : Hs} : ∀ (H : Heap) (locs : List Loc) (ls : Array Slot) (g : Hg) (a0 : Nat) (x1 : Int32), Mm D cA lo S g s H locs → Rf lo S a0 12 → lv_has ls 2 [(0, .ref a0), (1, .int x1)] → b_X12_isMarked_0 N S g a0 x1 = some (rv, g1) → W p l e R s m args below meth c H locs 0 0 (MQ below (Qcx D cA lo S (some (.int rv)) S g1 True) args s 0 0 (fun q : Nat => lo ≤ q)) (F0 m 0 ls []) := by
  intro H locs ls g a0 x1 M ra0 hl q
  unfold b_X12_isMarked_0 at q
  refine lv_aload_n hx hb dX12_isMarked_0 rfl (lv_at hl 0 rfl) ?_
  refine lv_aload_n hx hb dX12_isMarked_1 rfl (lv_at hl 0 rfl) ?_
  replace q := nn_s q
  obtain ⟨a_1, e_a_1, q⟩ := q
  refine x_getR hx hb hown hX M e_a_1 okX12 ra0 (by decide) rfl kw_1027 dX12_isMarked_2 (fun ra_1 => ?_)
  refine lv_iload_n hx hb dX12_isMarked_5 rfl (lv_at hl 1 rfl) ?_
  refine lv_iconst (v := 2) hx hb dX12_isMarked_6 (by decide) ?_
  refine lv_iadd hx hb dX12_isMarked_7 ?_
  replace q := ck_s q
  obtain ⟨hin, q⟩ := q
  refine x_iald hx hb hX M ra_1 (inb_in hin) dX12_isMarked_8 ?_
  refine lv_aload_n hx hb dX12_isMarked_9 rfl (lv_at hl 0 rfl) ?_
  replace q := nn_s q
  obtain ⟨a_2, e_a_2, q⟩ := q
  refine x_getR hx hb hown hX M e_a_2 okX12 ra0 (by decide) rfl kw_1027 dX12_isMarked_10 (fun ra_2 => ?_)
  refine lv_iload_n hx hb dX12_isMarked_13 rfl (lv_at hl 1 rfl) ?_
  replace q := ck_s q
  obtain ⟨hin, q⟩ := q
  refine x_iald hx hb hX M ra_2 (inb_in hin) dX12_isMarked_14 ?_
  refine lv_aload_n hx hb dX12_isMarked_15 rfl (lv_at hl 0 rfl) ?_
  replace q := nn_s q
  obtain ⟨a_3, e_a_3, q⟩ := q
  refine x_getR hx hb hown hX M e_a_3 okX12 ra0 (by decide) rfl kw_1027 dX12_isMarked_16 (fun ra_3 => ?_)
  refine lv_iload_n hx hb dX12_isMarked_19 rfl (lv_at hl 1 rfl) ?_
  refine lv_iconst (v := 4) hx hb dX12_isMarked_20 (by decide) ?_
  refine lv_iadd hx hb dX12_isMarked_21 ?_
  refine lv_iload_n hx hb dX12_isMarked_22 rfl (lv_at hl 1 rfl) ?_
  refine lv_bipush (v := 12) hx hb dX12_isMarked_23 (by decide) ?_
  refine lv_iadd hx hb dX12_isMarked_25 ?_
  replace q := c2_s q
  obtain ⟨u_5, g_4, qc, q⟩ := q
  refine x_callV hx hb hml hl.1 hown hX M (S1 := S) (As := [.int (rdI g a_1 (x1 + (2 : Int32)).toNatClampNeg), .int (rdI g a_2 x1.toNatClampNeg), .ref a_3, .int (x1 + (4 : Int32)), .int (x1 + (12 : Int32))]) (rest := []) okX12 ra0 rfl kw_1348 kw_36 mok_X12_mark (c_X12_mark ra0 ra_3 qc (Nat.le_refl 3)) kw_1346 rfl rfl dX12_isMarked_26 (Nat.le_of_ble_eq_true rfl) ⟨Nat.le_trans (by decide) hRf, Nat.le_trans (by decide) hRl⟩ (Nat.zero_le _) (Nat.zero_le _) (fun H locs M hEF => ?_)
  refine lv_aload_n hx hb dX12_isMarked_29 rfl (lv_at hl 0 rfl) ?_
  replace q := nn_s q
  obtain ⟨a_6, e_a_6, q⟩ := q
  refine x_getR hx hb hown hX M e_a_6 okX12 ra0 (by decide) rfl kw_1056 dX12_isMarked_30 (fun ra_6 => ?_)
  refine lv_iconst (v := 0) hx hb dX12_isMarked_33 (by decide) ?_
  refine lv_aload_n hx hb dX12_isMarked_34 rfl (lv_at hl 0 rfl) ?_
  replace q := nn_s q
  obtain ⟨a_7, e_a_7, q⟩ := q
  refine x_getR hx hb hown hX M e_a_7 okX12 ra0 (by decide) rfl kw_1027 dX12_isMarked_35 (fun ra_7 => ?_)
  refine lv_iload_n hx hb dX12_isMarked_38 rfl (lv_at hl 1 rfl) ?_
  refine lv_bipush (v := 20) hx hb dX12_isMarked_39 (by decide) ?_
  refine lv_iadd hx hb dX12_isMarked_41 ?_
  replace q := c2_s q
  obtain ⟨x_9, g_8, qc, q⟩ := q
  refine x_callS hx hb hml hl.1 hown hX M (S1 := S) (As := [.ref a_6, .int (0 : Int32), .ref a_7, .int (x1 + (20 : Int32))]) (rest := []) kw_1432 mok_X12_areLike (c_X12_areLike ra_6 ra_7 qc (Nat.le_refl 1)) kw_1431 rfl rfl dX12_isMarked_42 (Nat.le_of_ble_eq_true rfl) ⟨Nat.le_trans (by decide) hRf, Nat.le_trans (by decide) hRl⟩ (Nat.zero_le _) (Nat.zero_le _) (fun H locs M hEF => ?_)
  replace q := ck_s q
  obtain ⟨hz, q⟩ := q
  cases q
  exact x_zret hx hb hr hlk (zb_nar hz) M Ext.rf dX12_isMarked_45
set_option maxRecDepth 100000 in
theorem c_X12_isMarked {l : Launch} {D : va_G} {cA : Nat → ClassId} {lo tS N : Nat} {S : Hs} {g g1 : Hg} {rv : Int32} {a0 : Nat} {x1 : Int32} (ra0 : Rf lo S a0 12) (q : f_X12_isMarked N S g a0 x1 = some (rv, g1)) {d : Nat} (hd : 4 ≤ d) : Ctr l yX12_isMarked cX12_isMarked 2 (some .boolean) D cA lo tS [.ref a0, .int x1] S g d (some (.int rv)) S g1 True 0 0 := by
  refine x_met (by decide) (Nat.le_of_ble_eq_true rfl) ?_
  intro p e s m below meth c ls hx hb hml hr hlk hown hnm hX M hl
  exact w_X12_isMarked_0 hx hb hml hr hlk hown hX hd (Nat.mul_le_mul_left 60 hd) (N := N) _ _ _ _ _ _ M ra0 (lv_sub hl [0, 1] rfl) q
end W13
