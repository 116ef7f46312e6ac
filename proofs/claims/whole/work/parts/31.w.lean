section W11
variable {p : Program} {l : Launch} {e : Env} {R : Room} {s : State} {m : MethodId} {args : Array Value} {below : List Frame} {meth : Method} {c : Code} {D : va_G} {cA : Nat → ClassId} {lo tS : Nat}
def b_X12_begin_3 (N : Nat) (S : Hs) (k3 : Hg → Nat → Int32 → Int32 → Int32 → Int32 → Int32 → Int32 → Option (Unit × Hg)) (g : Hg) (a0 : Nat) (x1 : Int32) (x2 : Int32) (x3 : Int32) (x4 : Int32) (x5 : Int32) (x6 : Int32) : Option (Unit × Hg) :=
if (8 : Int32) ≤ x6 then (
nn (rdR g a0 9) (fun a_2 =>
ck (inb ((8 : Int32) * x1) (hpL S a_2)) (
nm (wrI g a_2 ((8 : Int32) * x1).toNatClampNeg x2) (fun g_3 =>
nn (rdR g_3 a0 9) (fun a_4 =>
ck (inb (((8 : Int32) * x1) + (2 : Int32)) (hpL S a_4)) (
nm (wrI g_3 a_4 (((8 : Int32) * x1) + (2 : Int32)).toNatClampNeg x3) (fun g_5 =>
nn (rdR g_5 a0 9) (fun a_6 =>
ck (inb (((8 : Int32) * x1) + (3 : Int32)) (hpL S a_6)) (
nm (wrI g_5 a_6 (((8 : Int32) * x1) + (3 : Int32)).toNatClampNeg x4) (fun g_7 =>
nn (rdR g_7 a0 9) (fun a_8 =>
ck (inb (((8 : Int32) * x1) + (4 : Int32)) (hpL S a_8)) (
nm (wrI g_7 a_8 (((8 : Int32) * x1) + (4 : Int32)).toNatClampNeg x5) (fun g_9 =>
some ((), g_9)))))))))))))) else (
nn (rdR g a0 9) (fun a_10 =>
ck (inb (((8 : Int32) * x1) + x6) (hpL S a_10)) (
nm (wrI g a_10 (((8 : Int32) * x1) + x6).toNatClampNeg (0 : Int32)) (fun g_11 =>
nm (x6 + 1) (fun x_12 =>
k3 g_11 a0 x1 x2 x3 x4 x5 x_12)))))
def n_X12_begin_3 (N : Nat) (S : Hs) : Nat → Hg → Nat → Int32 → Int32 → Int32 → Int32 → Int32 → Int32 → Option (Unit × Hg)
  | 0 => fun _ _ _ _ _ _ _ _ => none
  | n + 1 => fun g a0 x1 x2 x3 x4 x5 x6 => b_X12_begin_3 N S (n_X12_begin_3 N S n) g a0 x1 x2 x3 x4 x5 x6
def b_X12_begin_0 (N : Nat) (S : Hs) (g : Hg) (a0 : Nat) (x1 : Int32) (x2 : Int32) (x3 : Int32) (x4 : Int32) (x5 : Int32) : Option (Unit × Hg) :=
n_X12_begin_3 N S N g a0 x1 x2 x3 x4 x5 (0 : Int32)
def f_X12_begin (N : Nat) (S : Hs) (g : Hg) (a0 : Nat) (x1 : Int32) (x2 : Int32) (x3 : Int32) (x4 : Int32) (x5 : Int32) : Option (Unit × Hg) := b_X12_begin_0 N S g a0 x1 x2 x3 x4 x5
set_option maxHeartbeats 4000000 in
set_option maxRecDepth 100000 in
theorem w_X12_begin_3 (hx : p.tables.exec = Jvm.exec) (hb : c.code = cX12_begin) (hml : c.maxLocals = 7) (hr : meth.sig.returnType = none) (hlk : meth.locks = false) (hown : s.vm.findClass RX12 = some m.cls) (hX : Kx D cA lo tS s) (hRf : 1 ≤ R.frames) (hRl : 60 ≤ R.locals) {N : Nat} {rv : Unit} {g1 : Hg} {S : Hs} {k3 : Hg → Nat → Int32 → Int32 → Int32 → Int32 → Int32 → Int32 → Option (Unit × Hg)} (hk3 : ∀ (H : Heap) (locs : List Loc) (ls : Array Slot) (g : Hg) (a0 : Nat) (x1 : Int32) (x2 : Int32) (x3 : Int32) (x4 : Int32) (x5 : Int32) (x6 : Int32), Mm D cA lo S g s H locs → Rf lo S a0 12 → lv_has ls 7 [(0, .ref a0), (1, .int x1), (2, .int x2), (3, .int x3), (4, .int x4), (5, .int x5), (6, .int x6)] → k3 g a0 x1 x2 x3 x4 x5 x6 = some (rv, g1) → W p l e R s m args below meth c H locs 0 0 (MQ below (Qcx D cA lo S none S g1 True) args s 0 0 (fun q : Nat => lo ≤ q)) (F0 m 3 ls [])) : ∀ (H : Heap) (locs : List Loc) (ls : Array Slot) (g : Hg) (a0 : Nat) (x1 : Int32) (x2 : Int32) (x3 : Int32) (x4 : Int32) (x5 : Int32) (x6 : Int32), Mm D cA lo S g s H locs → Rf lo S a0 12 → lv_has ls 7 [(0, .ref a0), (1, .int x1), (2, .int x2), (3, .int x3), (4, .int x4), (5, .int x5), (6, .int x6)] → b_X12_begin_3 N S k3 g a0 x1 x2 x3 x4 x5 x6 = some (rv, g1) → W p l e R s m args below meth c H locs 0 0 (MQ below (Qcx D cA lo S none S g1 True) args s 0 0 (fun q : Nat => lo ≤ q)) (F0 m 3 ls []) := by
  intro H locs ls g a0 x1 x2 x3 x4 x5 x6 M ra0 hl q
  unfold b_X12_begin_3 at q
  refine lv_iload hx hb dX12_begin_3 (lv_at hl 6 rfl) ?_
  refine lv_bipush (v := 8) hx hb dX12_begin_5 (by decide) ?_
  refine lv_icmp_ge (tgt := 29) hx hb dX12_begin_7 (by decide) (fun c_1 => ?_) (fun c_1 => ?_)
  · replace q := if_t c_1 q
    refine lv_aload_n hx hb dX12_begin_29 rfl (lv_at hl 0 rfl) ?_
    replace q := nn_s q
    obtain ⟨a_2, e_a_2, q⟩ := q
    refine x_getR hx hb hown hX M e_a_2 okX12 ra0 (by decide) rfl kw_1021 dX12_begin_30 (fun ra_2 => ?_)
    refine lv_bipush (v := 8) hx hb dX12_begin_33 (by decide) ?_
    refine lv_iload_n hx hb dX12_begin_35 rfl (lv_at hl 1 rfl) ?_
    refine lv_imul hx hb dX12_begin_36 ?_
    refine lv_iload_n hx hb dX12_begin_37 rfl (lv_at hl 2 rfl) ?_
    replace q := ck_s q
    obtain ⟨hin, q⟩ := q
    refine x_iast hx hb hX M ra_2 (inb_in hin) dX12_begin_38 (fun H locs M => ?_)
    replace q := gen_g M q
    obtain ⟨g_3, -, M, q⟩ := q
    refine lv_aload_n hx hb dX12_begin_39 rfl (lv_at hl 0 rfl) ?_
    replace q := nn_s q
    obtain ⟨a_4, e_a_4, q⟩ := q
    refine x_getR hx hb hown hX M e_a_4 okX12 ra0 (by decide) rfl kw_1021 dX12_begin_40 (fun ra_4 => ?_)
    refine lv_bipush (v := 8) hx hb dX12_begin_43 (by decide) ?_
    refine lv_iload_n hx hb dX12_begin_45 rfl (lv_at hl 1 rfl) ?_
    refine lv_imul hx hb dX12_begin_46 ?_
    refine lv_iconst (v := 2) hx hb dX12_begin_47 (by decide) ?_
    refine lv_iadd hx hb dX12_begin_48 ?_
    refine lv_iload_n hx hb dX12_begin_49 rfl (lv_at hl 3 rfl) ?_
    replace q := ck_s q
    obtain ⟨hin, q⟩ := q
    refine x_iast hx hb hX M ra_4 (inb_in hin) dX12_begin_50 (fun H locs M => ?_)
    replace q := gen_g M q
    obtain ⟨g_5, -, M, q⟩ := q
    refine lv_aload_n hx hb dX12_begin_51 rfl (lv_at hl 0 rfl) ?_
    replace q := nn_s q
    obtain ⟨a_6, e_a_6, q⟩ := q
    refine x_getR hx hb hown hX M e_a_6 okX12 ra0 (by decide) rfl kw_1021 dX12_begin_52 (fun ra_6 => ?_)
    refine lv_bipush (v := 8) hx hb dX12_begin_55 (by decide) ?_
    refine lv_iload_n hx hb dX12_begin_57 rfl (lv_at hl 1 rfl) ?_
    refine lv_imul hx hb dX12_begin_58 ?_
    refine lv_iconst (v := 3) hx hb dX12_begin_59 (by decide) ?_
    refine lv_iadd hx hb dX12_begin_60 ?_
    refine lv_iload hx hb dX12_begin_61 (lv_at hl 4 rfl) ?_
    replace q := ck_s q
    obtain ⟨hin, q⟩ := q
    refine x_iast hx hb hX M ra_6 (inb_in hin) dX12_begin_63 (fun H locs M => ?_)
    replace q := gen_g M q
    obtain ⟨g_7, -, M, q⟩ := q
    refine lv_aload_n hx hb dX12_begin_64 rfl (lv_at hl 0 rfl) ?_
    replace q := nn_s q
    obtain ⟨a_8, e_a_8, q⟩ := q
    refine x_getR hx hb hown hX M e_a_8 okX12 ra0 (by decide) rfl kw_1021 dX12_begin_65 (fun ra_8 => ?_)
    refine lv_bipush (v := 8) hx hb dX12_begin_68 (by decide) ?_
    refine lv_iload_n hx hb dX12_begin_70 rfl (lv_at hl 1 rfl) ?_
    refine lv_imul hx hb dX12_begin_71 ?_
    refine lv_iconst (v := 4) hx hb dX12_begin_72 (by decide) ?_
    refine lv_iadd hx hb dX12_begin_73 ?_
    refine lv_iload hx hb dX12_begin_74 (lv_at hl 5 rfl) ?_
    replace q := ck_s q
    obtain ⟨hin, q⟩ := q
    refine x_iast hx hb hX M ra_8 (inb_in hin) dX12_begin_76 (fun H locs M => ?_)
    replace q := gen_g M q
    obtain ⟨g_9, -, M, q⟩ := q
    cases q
    exact x_vret hx hb hr hlk M Ext.rf dX12_begin_77
  · replace q := if_f c_1 q
    refine lv_aload_n hx hb dX12_begin_10 rfl (lv_at hl 0 rfl) ?_
    replace q := nn_s q
    obtain ⟨a_10, e_a_10, q⟩ := q
    refine x_getR hx hb hown hX M e_a_10 okX12 ra0 (by decide) rfl kw_1021 dX12_begin_11 (fun ra_10 => ?_)
    refine lv_bipush (v := 8) hx hb dX12_begin_14 (by decide) ?_
    refine lv_iload_n hx hb dX12_begin_16 rfl (lv_at hl 1 rfl) ?_
    refine lv_imul hx hb dX12_begin_17 ?_
    refine lv_iload hx hb dX12_begin_18 (lv_at hl 6 rfl) ?_
    refine lv_iadd hx hb dX12_begin_20 ?_
    refine lv_iconst (v := 0) hx hb dX12_begin_21 (by decide) ?_
    replace q := ck_s q
    obtain ⟨hin, q⟩ := q
    refine x_iast hx hb hX M ra_10 (inb_in hin) dX12_begin_22 (fun H locs M => ?_)
    replace q := gen_g M q
    obtain ⟨g_11, -, M, q⟩ := q
    obtain ⟨x_12, e_x_12⟩ : ∃ y : Int32, y = x6 + 1 := ⟨_, rfl⟩
    replace q := nm_s q e_x_12
    refine lv_iinc (v := x_12) (lv' := [(6, .int x_12), (0, .ref a0), (1, .int x1), (2, .int x2), (3, .int x3), (4, .int x4), (5, .int x5)]) hx hb dX12_begin_23 hl (k := 6) rfl (by rw [e_x_12]; rfl) (by decide) rfl (fun ls hl => ?_)
    refine lv_goto (tgt := 3) hx hb dX12_begin_26 (by decide) ?_
    exact hk3 _ _ _ _ _ _ _ _ _ _ _ M ra0 (lv_sub hl [1, 2, 3, 4, 5, 6, 0] rfl) q
set_option maxRecDepth 100000 in
theorem l_X12_begin_3 (hx : p.tables.exec = Jvm.exec) (hb : c.code = cX12_begin) (hml : c.maxLocals = 7) (hr : meth.sig.returnType = none) (hlk : meth.locks = false) (hown : s.vm.findClass RX12 = some m.cls) (hX : Kx D cA lo tS s) (hRf : 1 ≤ R.frames) (hRl : 60 ≤ R.locals) {N : Nat} {rv : Unit} {g1 : Hg} {S : Hs} : ∀ (n : Nat), ∀ (H : Heap) (locs : List Loc) (ls : Array Slot) (g : Hg) (a0 : Nat) (x1 : Int32) (x2 : Int32) (x3 : Int32) (x4 : Int32) (x5 : Int32) (x6 : Int32), Mm D cA lo S g s H locs → Rf lo S a0 12 → lv_has ls 7 [(0, .ref a0), (1, .int x1), (2, .int x2), (3, .int x3), (4, .int x4), (5, .int x5), (6, .int x6)] → n_X12_begin_3 N S n g a0 x1 x2 x3 x4 x5 x6 = some (rv, g1) → W p l e R s m args below meth c H locs 0 0 (MQ below (Qcx D cA lo S none S g1 True) args s 0 0 (fun q : Nat => lo ≤ q)) (F0 m 3 ls []) := by
  intro n
  induction n with
  | zero =>
    intro H locs ls g a0 x1 x2 x3 x4 x5 x6 M ra0 hl q
    exact absurd q (by simp [n_X12_begin_3])
  | succ n ih => exact w_X12_begin_3 hx hb hml hr hlk hown hX hRf hRl (N := N)  ih
set_option maxHeartbeats 4000000 in
set_option maxRecDepth 100000 in
theorem w_X12_begin_0 (hx : p.tables.exec = Jvm.exec) (hb : c.code = cX12_begin) (hml : c.maxLocals = 7) (hr : meth.sig.returnType = none) (hlk : meth.locks = false) (hown : s.vm.findClass RX12 = some m.cls) (hX : Kx D cA lo tS s) (hRf : 1 ≤ R.frames) (hRl : 60 ≤ R.locals) {N : Nat} {rv : Unit} {g1 : Hg} {S : Hs} : ∀ (H : Heap) (locs : List Loc) (ls : Array Slot) (g : Hg) (a0 : Nat) (x1 : Int32) (x2 : Int32) (x3 : Int32) (x4 : Int32) (x5 : Int32), Mm D cA lo S g s H locs → Rf lo S a0 12 → lv_has ls 7 [(0, .ref a0), (1, .int x1), (2, .int x2), (3, .int x3), (4, .int x4), (5, .int x5)] → b_X12_begin_0 N S g a0 x1 x2 x3 x4 x5 = some (rv, g1) → W p l e R s m args below meth c H locs 0 0 (MQ below (Qcx D cA lo S none S g1 True) args s 0 0 (fun q : Nat => lo ≤ q)) (F0 m 0 ls []) := by
  intro H locs ls g a0 x1 x2 x3 x4 x5 M ra0 hl q
  unfold b_X12_begin_0 at q
  refine lv_iconst (v := 0) hx hb dX12_begin_0 (by decide) ?_
  refine lv_istore (lv' := [(6, .int (0 : Int32)), (0, .ref a0), (1, .int x1), (2, .int x2), (3, .int x3), (4, .int x4), (5, .int x5)]) hx hb dX12_begin_1 hl (by decide) rfl (fun ls hl => ?_)
  exact l_X12_begin_3 hx hb hml hr hlk hown hX hRf hRl (N := N)  N _ _ _ _ _ _ _ _ _ _ _ M ra0 (lv_sub hl [1, 2, 3, 4, 5, 6, 0] rfl) q
set_option maxRecDepth 100000 in
theorem c_X12_begin {l : Launch} {D : va_G} {cA : Nat → ClassId} {lo tS N : Nat} {S : Hs} {g g1 : Hg} {rv : Unit} {a0 : Nat} {x1 : Int32} {x2 : Int32} {x3 : Int32} {x4 : Int32} {x5 : Int32} (ra0 : Rf lo S a0 12) (q : f_X12_begin N S g a0 x1 x2 x3 x4 x5 = some (rv, g1)) {d : Nat} (hd : 1 ≤ d) : Ctr l yX12_begin cX12_begin 7 none D cA lo tS [.ref a0, .int x1, .int x2, .int x3, .int x4, .int x5] S g d none S g1 True 0 0 := by
  refine x_met (by decide) (Nat.le_of_ble_eq_true rfl) ?_
  intro p e s m below meth c ls hx hb hml hr hlk hown hnm hX M hl
  exact w_X12_begin_0 hx hb hml hr hlk hown hX hd (Nat.mul_le_mul_left 60 hd) (N := N) _ _ _ _ _ _ _ _ _ _ M ra0 (lv_sub hl [0, 1, 2, 3, 4, 5] rfl) q
def b_X12_find_2 (N : Nat) (S : Hs) (k2 : Hg → Nat → Int32 → Int32 → Option (Int32 × Hg)) (g : Hg) (a0 : Nat) (x1 : Int32) (x2 : Int32) : Option (Int32 × Hg) :=
if (rdI g a0 57) ≤ x2 then (
some ((-1 : Int32), g)) else (
nn (rdR g a0 52) (fun a_2 =>
ck (inb x2 (hpL S a_2)) (
if (rdI g a_2 x2.toNatClampNeg) = x1 then (
some (x2, g)) else (
nm (x2 + 1) (fun x_4 =>
k2 g a0 x1 x_4)))))
def n_X12_find_2 (N : Nat) (S : Hs) : Nat → Hg → Nat → Int32 → Int32 → Option (Int32 × Hg)
  | 0 => fun _ _ _ _ => none
  | n + 1 => fun g a0 x1 x2 => b_X12_find_2 N S (n_X12_find_2 N S n) g a0 x1 x2
def b_X12_find_0 (N : Nat) (S : Hs) (g : Hg) (a0 : Nat) (x1 : Int32) : Option (Int32 × Hg) :=
n_X12_find_2 N S N g a0 x1 (0 : Int32)
def f_X12_find (N : Nat) (S : Hs) (g : Hg) (a0 : Nat) (x1 : Int32) : Option (Int32 × Hg) := b_X12_find_0 N S g a0 x1
set_option maxHeartbeats 4000000 in
set_option maxRecDepth 100000 in
theorem w_X12_find_2 (hx : p.tables.exec = Jvm.exec) (hb : c.code = cX12_find) (hml : c.maxLocals = 3) (hr : meth.sig.returnType = (some .int)) (hlk : meth.locks = false) (hown : s.vm.findClass RX12 = some m.cls) (hX : Kx D cA lo tS s) (hRf : 1 ≤ R.frames) (hRl : 60 ≤ R.locals) {N : Nat} {rv : Int32} {g1 : Hg} {S : Hs} {k2 : Hg → Nat → Int32 → Int32 → Option (Int32 × Hg)} (hk2 : ∀ (H : Heap) (locs : List Loc) (ls : Array Slot) (g : Hg) (a0 : Nat) (x1 : Int32) (x2 : Int32), Mm D cA lo S g s H locs → Rf lo S a0 12 → lv_has ls 3 [(0, .ref a0), (1, .int x1), (2, .int x2)] → k2 g a0 x1 x2 = some (rv, g1) → W p l e R s m args below meth c H locs 0 0 (MQ below (Qcx D cA lo S (some (.int rv)) S g1 True) args s 0 0 (fun q : Nat => lo ≤ q)) (F0 m 2 ls [])) : ∀ (H : Heap) (locs : List Loc) (ls : Array Slot) (g : Hg) (a0 : Nat) (x1 : Int32) (x2 : Int32), Mm D cA lo S g s H locs → Rf lo S a0 12 → lv_has ls 3 [(0, .ref a0), (1, .int x1), (2, .int x2)] → b_X12_find_2 N S k2 g a0 x1 x2 = some (rv, g1) → W p l e R s m args below meth c H locs 0 0 (MQ below (Qcx D cA lo S (some (.int rv)) S g1 True) args s 0 0 (fun q : Nat => lo ≤ q)) (F0 m 2 ls []) := by
  intro H locs ls g a0 x1 x2 M ra0 hl q
  unfold b_X12_find_2 at q
  refine lv_iload_n hx hb dX12_find_2 rfl (lv_at hl 2 rfl) ?_
  refine lv_aload_n hx hb dX12_find_3 rfl (lv_at hl 0 rfl) ?_
  refine x_getI hx hb hown hX M (k := 57) okX12 ra0 (by decide) rfl kw_1069 dX12_find_4 ?_
  refine lv_icmp_ge (tgt := 28) hx hb dX12_find_7 (by decide) (fun c_1 => ?_) (fun c_1 => ?_)
  · replace q := if_t c_1 q
    refine lv_iconst (v := -1) hx hb dX12_find_28 (by decide) ?_
    cases q
    exact x_iret hx hb hr hlk M Ext.rf dX12_find_29
  · replace q := if_f c_1 q
    refine lv_aload_n hx hb dX12_find_10 rfl (lv_at hl 0 rfl) ?_
    replace q := nn_s q
    obtain ⟨a_2, e_a_2, q⟩ := q
    refine x_getR hx hb hown hX M e_a_2 okX12 ra0 (by decide) rfl kw_1064 dX12_find_11 (fun ra_2 => ?_)
    refine lv_iload_n hx hb dX12_find_14 rfl (lv_at hl 2 rfl) ?_
    replace q := ck_s q
    obtain ⟨hin, q⟩ := q
    refine x_iald hx hb hX M ra_2 (inb_in hin) dX12_find_15 ?_
    refine lv_iload_n hx hb dX12_find_16 rfl (lv_at hl 1 rfl) ?_
    refine lv_icmp_ne (tgt := 22) hx hb dX12_find_17 (by decide) (fun c_3 => ?_) (fun c_3 => ?_)
    · replace q := if_f c_3 q
      obtain ⟨x_4, e_x_4⟩ : ∃ y : Int32, y = x2 + 1 := ⟨_, rfl⟩
      replace q := nm_s q e_x_4
      refine lv_iinc (v := x_4) (lv' := [(2, .int x_4), (0, .ref a0), (1, .int x1)]) hx hb dX12_find_22 hl (k := 2) rfl (by rw [e_x_4]; rfl) (by decide) rfl (fun ls hl => ?_)
      refine lv_goto (tgt := 2) hx hb dX12_find_25 (by decide) ?_
      exact hk2 _ _ _ _ _ _ _ M ra0 (lv_sub hl [1, 2, 0] rfl) q
    · replace q := if_t c_3 q
      refine lv_iload_n hx hb dX12_find_20 rfl (lv_at hl 2 rfl) ?_
      cases q
      exact x_iret hx hb hr hlk M Ext.rf dX12_find_21
set_option maxRecDepth 100000 in
theorem l_X12_find_2 (hx : p.tables.exec = Jvm.exec) (hb : c.code = cX12_find) (hml : c.maxLocals = 3) (hr : meth.sig.returnType = (some .int)) (hlk : meth.locks = false) (hown : s.vm.findClass RX12 = some m.cls) (hX : Kx D cA lo tS s) (hRf : 1 ≤ R.frames) (hRl : 60 ≤ R.locals) {N : Nat} {rv : Int32} {g1 : Hg} {S : Hs} : ∀ (n : Nat), ∀ (H : Heap) (locs : List Loc) (ls : Array Slot) (g : Hg) (a0 : Nat) (x1 : Int32) (x2 : Int32), Mm D cA lo S g s H locs → Rf lo S a0 12 → lv_has ls 3 [(0, .ref a0), (1, .int x1), (2, .int x2)] → n_X12_find_2 N S n g a0 x1 x2 = some (rv, g1) → W p l e R s m args below meth c H locs 0 0 (MQ below (Qcx D cA lo S (some (.int rv)) S g1 True) args s 0 0 (fun q : Nat => lo ≤ q)) (F0 m 2 ls []) := by
  intro n
  induction n with
  | zero =>
    intro H locs ls g a0 x1 x2 M ra0 hl q
    exact absurd q (by simp [n_X12_find_2])
  | succ n ih => exact w_X12_find_2 hx hb hml hr hlk hown hX hRf hRl (N := N)  ih
set_option maxHeartbeats 4000000 in
set_option maxRecDepth 100000 in
theorem w_X12_find_0 (hx : p.tables.exec = Jvm.exec) (hb : c.code = cX12_find) (hml : c.maxLocals = 3) (hr : meth.sig.returnType = (some .int)) (hlk : meth.locks = false) (hown : s.vm.findClass RX12 = some m.cls) (hX : Kx D cA lo tS s) (hRf : 1 ≤ R.frames) (hRl : 60 ≤ R.locals) {N : Nat} {rv : Int32} {g1 : Hg} {S : Hs} : ∀ (H : Heap) (locs : List Loc) (ls : Array Slot) (g : Hg) (a0 : Nat) (x1 : Int32), Mm D cA lo S g s H locs → Rf lo S a0 12 → lv_has ls 3 [(0, .ref a0), (1, .int x1)] → b_X12_find_0 N S g a0 x1 = some (rv, g1) → W p l e R s m args below meth c H locs 0 0 (MQ below (Qcx D cA lo S (some (.int rv)) S g1 True) args s 0 0 (fun q : Nat => lo ≤ q)) (F0 m 0 ls []) := by
  intro H locs ls g a0 x1 M ra0 hl q
  unfold b_X12_find_0 at q
  refine lv_iconst (v := 0) hx hb dX12_find_0 (by decide) ?_
  refine lv_istore_n (lv' := [(2, .int (0 : Int32)), (0, .ref a0), (1, .int x1)]) hx hb dX12_find_1 rfl hl (by decide) rfl (fun ls hl => ?_)
  exact l_X12_find_2 hx hb hml hr hlk hown hX hRf hRl (N := N)  N _ _ _ _ _ _ _ M ra0 (lv_sub hl [1, 2, 0] rfl) q
set_option maxRecDepth 100000 in
theorem c_X12_find {l : Launch} {D : va_G} {cA : Nat → ClassId} {lo tS N : Nat} {S : Hs} {g g1 : Hg} {rv : Int32} {a0 : Nat} {x1 : Int32} (ra0 : Rf lo S a0 12) (q : f_X12_find N S g a0 x1 = some (rv, g1)) {d : Nat} (hd : 1 ≤ d) : Ctr l yX12_find cX12_find 3 (some .int) D cA lo tS [.ref a0, .int x1] S g d (some (.int rv)) S g1 True 0 0 := by
  refine x_met (by decide) (Nat.le_of_ble_eq_true rfl) ?_
  intro p e s m below meth c ls hx hb hml hr hlk hown hnm hX M hl
  exact w_X12_find_0 hx hb hml hr hlk hown hX hd (Nat.mul_le_mul_left 60 hd) (N := N) _ _ _ _ _ _ M ra0 (lv_sub hl [0, 1] rfl) q
def b_X12_isOne_0 (N : Nat) (S : Hs) (g : Hg) (a0 : Nat) (x1 : Int32) (x2 : Int32) : Option (Int32 × Hg) :=
ck (inb (x1 + (x2 / (32 : Int32))) (hpL S a0)) (
if (((rdI g a0 (x1 + (x2 / (32 : Int32))).toNatClampNeg).toUInt32 >>> (((31 : Int32) - (x2 - x2 / (32 : Int32) * (32 : Int32))).toUInt32 &&& Int32.toUInt32 31)).toInt32 &&& (1 : Int32)) = (1 : Int32) then (
some ((1 : Int32), g)) else (
some ((0 : Int32), g)))
def f_X12_isOne (N : Nat) (S : Hs) (g : Hg) (a0 : Nat) (x1 : Int32) (x2 : Int32) : Option (Int32 × Hg) := b_X12_isOne_0 N S g a0 x1 x2
set_option maxHeartbeats 4000000 in
set_option maxRecDepth 100000 in
theorem w_X12_isOne_0 (hx : p.tables.exec = Jvm.exec) (hb : c.code = cX12_isOne) (hml : c.maxLocals = 3) (hr : meth.sig.returnType = (some .boolean)) (hlk : meth.locks = false) (hown : s.vm.findClass RX12 = some m.cls) (hX : Kx D cA lo tS s) (hRf : 1 ≤ R.frames) (hRl : 60 ≤ R.locals) {N : Nat} {rv : Int32} {g1 : Hg} {S : Hs} : ∀ (H : Heap) (locs : List Loc) (ls : Array Slot) (g : Hg) (a0 : Nat) (x1 : Int32) (x2 : Int32), Mm D cA lo S g s H locs → Rf lo S a0 20 → lv_has ls 3 [(0, .ref a0), (1, .int x1), (2, .int x2)] → b_X12_isOne_0 N S g a0 x1 x2 = some (rv, g1) → W p l e R s m args below meth c H locs 0 0 (MQ below (Qcx D cA lo S (some (.int rv)) S g1 True) args s 0 0 (fun q : Nat => lo ≤ q)) (F0 m 0 ls []) := by
  intro H locs ls g a0 x1 x2 M ra0 hl q
  unfold b_X12_isOne_0 at q
  refine lv_aload_n hx hb dX12_isOne_0 rfl (lv_at hl 0 rfl) ?_
  refine lv_iload_n hx hb dX12_isOne_1 rfl (lv_at hl 1 rfl) ?_
  refine lv_iload_n hx hb dX12_isOne_2 rfl (lv_at hl 2 rfl) ?_
  refine lv_bipush (v := 32) hx hb dX12_isOne_3 (by decide) ?_
  refine lv_idiv hx hb dX12_isOne_5 (by decide) ?_
  refine lv_iadd hx hb dX12_isOne_6 ?_
  replace q := ck_s q
  obtain ⟨hin, q⟩ := q
  refine x_iald hx hb hX M ra0 (inb_in hin) dX12_isOne_7 ?_
  refine lv_bipush (v := 31) hx hb dX12_isOne_8 (by decide) ?_
  refine lv_iload_n hx hb dX12_isOne_10 rfl (lv_at hl 2 rfl) ?_
  refine lv_bipush (v := 32) hx hb dX12_isOne_11 (by decide) ?_
  refine lv_irem hx hb dX12_isOne_13 (by decide) ?_
  refine lv_isub hx hb dX12_isOne_14 ?_
  refine lv_iushr hx hb dX12_isOne_15 rfl ?_
  refine lv_iconst (v := 1) hx hb dX12_isOne_16 (by decide) ?_
  refine lv_iand hx hb dX12_isOne_17 ?_
  refine lv_iconst (v := 1) hx hb dX12_isOne_18 (by decide) ?_
  refine lv_icmp_ne (tgt := 26) hx hb dX12_isOne_19 (by decide) (fun c_1 => ?_) (fun c_1 => ?_)
  · replace q := if_f c_1 q
    refine lv_iconst (v := 0) hx hb dX12_isOne_26 (by decide) ?_
    cases q
    exact x_zret hx hb hr hlk rfl M Ext.rf dX12_isOne_27
  · replace q := if_t c_1 q
    refine lv_iconst (v := 1) hx hb dX12_isOne_22 (by decide) ?_
    refine lv_goto (tgt := 27) hx hb dX12_isOne_23 (by decide) ?_
    cases q
    exact x_zret hx hb hr hlk rfl M Ext.rf dX12_isOne_27
set_option maxRecDepth 100000 in
theorem c_X12_isOne {l : Launch} {D : va_G} {cA : Nat → ClassId} {lo tS N : Nat} {S : Hs} {g g1 : Hg} {rv : Int32} {a0 : Nat} {x1 : Int32} {x2 : Int32} (ra0 : Rf lo S a0 20) (q : f_X12_isOne N S g a0 x1 x2 = some (rv, g1)) {d : Nat} (hd : 1 ≤ d) : Ctr l yX12_isOne cX12_isOne 3 (some .boolean) D cA lo tS [.ref a0, .int x1, .int x2] S g d (some (.int rv)) S g1 True 0 0 := by
  refine x_met (by decide) (Nat.le_of_ble_eq_true rfl) ?_
  intro p e s m below meth c ls hx hb hml hr hlk hown hnm hX M hl
  exact w_X12_isOne_0 hx hb hml hr hlk hown hX hd (Nat.mul_le_mul_left 60 hd) (N := N) _ _ _ _ _ _ _ M ra0 (lv_sub hl [0, 1, 2] rfl) q
def b_X12_part_82 (N : Nat) (S : Hs) (k82 : Hg → Nat → Int32 → Int32 → Int32 → Option (Int32 × Hg)) (g : Hg) (a0 : Nat) (x4 : Int32) (x5 : Int32) (x6 : Int32) : Option (Int32 × Hg) :=
if x5 ≤ x6 then (
some (x4, g)) else (
nn (rdR g a0 55) (fun a_2 =>
nn (rdR g a0 56) (fun a_3 =>
ck (inb x6 (hpL S a_3)) (
ck (inb (x4 + x6) (hpL S a_2)) (
nm (wrI g a_2 (x4 + x6).toNatClampNeg (rdI g a_3 x6.toNatClampNeg)) (fun g_4 =>
nm (x6 + 1) (fun x_5 =>
k82 g_4 a0 x4 x5 x_5)))))))
def n_X12_part_82 (N : Nat) (S : Hs) : Nat → Hg → Nat → Int32 → Int32 → Int32 → Option (Int32 × Hg)
  | 0 => fun _ _ _ _ _ => none
  | n + 1 => fun g a0 x4 x5 x6 => b_X12_part_82 N S (n_X12_part_82 N S n) g a0 x4 x5 x6
def b_X12_part_9 (N : Nat) (S : Hs) (k9 : Hg → Nat → Int32 → Int32 → Int32 → Int32 → Int32 → Option (Int32 × Hg)) (g : Hg) (a0 : Nat) (x2 : Int32) (x3 : Int32) (x4 : Int32) (x5 : Int32) (x6 : Int32) : Option (Int32 × Hg) :=
if x2 ≤ x6 then (
n_X12_part_82 N S N g a0 x4 x5 (0 : Int32)) else (
nn (rdR g a0 54) (fun a_2 =>
nn (rdR g a0 55) (fun a_3 =>
ck (inb x6 (hpL S a_3)) (
c2 (f_X12_isOne N S g a_2 ((8 : Int32) * (rdI g a_3 x6.toNatClampNeg)) x3) (fun x_5 g_4 =>
if x_5 = 0 then (
nn (rdR g_4 a0 55) (fun a_7 =>
nn (rdR g_4 a0 55) (fun a_8 =>
ck (inb x6 (hpL S a_8)) (
ck (inb x4 (hpL S a_7)) (
nm (wrI g_4 a_7 x4.toNatClampNeg (rdI g_4 a_8 x6.toNatClampNeg)) (fun g_9 =>
nm (x4 + 1) (fun x_10 =>
nm (x6 + 1) (fun x_11 =>
k9 g_9 a0 x2 x3 x_10 x5 x_11)))))))) else (
nn (rdR g_4 a0 56) (fun a_12 =>
nn (rdR g_4 a0 55) (fun a_13 =>
ck (inb x6 (hpL S a_13)) (
ck (inb x5 (hpL S a_12)) (
nm (wrI g_4 a_12 x5.toNatClampNeg (rdI g_4 a_13 x6.toNatClampNeg)) (fun g_14 =>
nm (x5 + 1) (fun x_15 =>
nm (x6 + 1) (fun x_16 =>
k9 g_14 a0 x2 x3 x4 x_15 x_16)))))))))))))
def n_X12_part_9 (N : Nat) (S : Hs) : Nat → Hg → Nat → Int32 → Int32 → Int32 → Int32 → Int32 → Option (Int32 × Hg)
  | 0 => fun _ _ _ _ _ _ _ => none
  | n + 1 => fun g a0 x2 x3 x4 x5 x6 => b_X12_part_9 N S (n_X12_part_9 N S n) g a0 x2 x3 x4 x5 x6
def b_X12_part_0 (N : Nat) (S : Hs) (g : Hg) (a0 : Nat) (x1 : Int32) (x2 : Int32) (x3 : Int32) : Option (Int32 × Hg) :=
n_X12_part_9 N S N g a0 x2 x3 x1 (0 : Int32) x1
def f_X12_part (N : Nat) (S : Hs) (g : Hg) (a0 : Nat) (x1 : Int32) (x2 : Int32) (x3 : Int32) : Option (Int32 × Hg) := b_X12_part_0 N S g a0 x1 x2 x3
set_option maxHeartbeats 4000000 in
set_option maxRecDepth 100000 in
theorem w_X12_part_82 (hx : p.tables.exec = Jvm.exec) (hb : c.code = cX12_part) (hml : c.maxLocals = 7) (hr : meth.sig.returnType = (some .int)) (hlk : meth.locks = false) (hown : s.vm.findClass RX12 = some m.cls) (hX : Kx D cA lo tS s) (hRf : 2 ≤ R.frames) (hRl : 120 ≤ R.locals) {N : Nat} {rv : Int32} {g1 : Hg} {S : Hs} {k82 : Hg → Nat → Int32 → Int32 → Int32 → Option (Int32 × Hg)} (hk82 : ∀ (H : Heap) (locs : List Loc) (ls : Array Slot) (g : Hg) (a0 : Nat) (x4 : Int32) (x5 : Int32) (x6 : Int32), Mm D cA lo S g s H locs → Rf lo S a0 12 → lv_has ls 7 [(0, .ref a0), (4, .int x4), (5, .int x5), (6, .int x6)] → k82 g a0 x4 x5 x6 = some (rv, g1) → W p l e R s m args below meth c H locs 0 0 (MQ below (Qcx D cA lo S (some (.int rv)) S g1 True) args s 0 0 (fun q : Nat => lo ≤ q)) (F0 m 82 ls [])) : ∀ (H : Heap) (locs : List Loc) (ls : Array Slot) (g : Hg) (a0 : Nat) (x4 : Int32) (x5 : Int32) (x6 : Int32), Mm D cA lo S g s H locs → Rf lo S a0 12 → lv_has ls 7 [(0, .ref a0), (4, .int x4), (5, .int x5), (6, .int x6)] → b_X12_part_82 N S k82 g a0 x4 x5 x6 = some (rv, g1) → W p l e R s m args below meth c H locs 0 0 (MQ below (Qcx D cA lo S (some (.int rv)) S g1 True) args s 0 0 (fun q : Nat => lo ≤ q)) (F0 m 82 ls []) := by
  intro H locs ls g a0 x4 x5 x6 M ra0 hl q
  unfold b_X12_part_82 at q
  refine lv_iload hx hb dX12_part_82 (lv_at hl 3 rfl) ?_
  refine lv_iload hx hb dX12_part_84 (lv_at hl 2 rfl) ?_
  refine lv_icmp_ge (tgt := 112) hx hb dX12_part_86 (by decide) (fun c_1 => ?_) (fun c_1 => ?_)
  · replace q := if_t c_1 q
    refine lv_iload hx hb dX12_part_112 (lv_at hl 1 rfl) ?_
    cases q
    exact x_iret hx hb hr hlk M Ext.rf dX12_part_114
  · replace q := if_f c_1 q
    refine lv_aload_n hx hb dX12_part_89 rfl (lv_at hl 0 rfl) ?_
    replace q := nn_s q
    obtain ⟨a_2, e_a_2, q⟩ := q
    refine x_getR hx hb hown hX M e_a_2 okX12 ra0 (by decide) rfl kw_1067 dX12_part_90 (fun ra_2 => ?_)
    refine lv_iload hx hb dX12_part_93 (lv_at hl 1 rfl) ?_
    refine lv_iload hx hb dX12_part_95 (lv_at hl 3 rfl) ?_
    refine lv_iadd hx hb dX12_part_97 ?_
    refine lv_aload_n hx hb dX12_part_98 rfl (lv_at hl 0 rfl) ?_
    replace q := nn_s q
    obtain ⟨a_3, e_a_3, q⟩ := q
    refine x_getR hx hb hown hX M e_a_3 okX12 ra0 (by decide) rfl kw_1068 dX12_part_99 (fun ra_3 => ?_)
    refine lv_iload hx hb dX12_part_102 (lv_at hl 3 rfl) ?_
    replace q := ck_s q
    obtain ⟨hin, q⟩ := q
    refine x_iald hx hb hX M ra_3 (inb_in hin) dX12_part_104 ?_
    replace q := ck_s q
    obtain ⟨hin, q⟩ := q
    refine x_iast hx hb hX M ra_2 (inb_in hin) dX12_part_105 (fun H locs M => ?_)
    replace q := gen_g M q
    obtain ⟨g_4, -, M, q⟩ := q
    obtain ⟨x_5, e_x_5⟩ : ∃ y : Int32, y = x6 + 1 := ⟨_, rfl⟩
    replace q := nm_s q e_x_5
    refine lv_iinc (v := x_5) (lv' := [(6, .int x_5), (0, .ref a0), (4, .int x4), (5, .int x5)]) hx hb dX12_part_106 hl (k := 3) rfl (by rw [e_x_5]; rfl) (by decide) rfl (fun ls hl => ?_)
    refine lv_goto (tgt := 82) hx hb dX12_part_109 (by decide) ?_
    exact hk82 _ _ _ _ _ _ _ _ M ra0 (lv_sub hl [1, 2, 3, 0] rfl) q
set_option maxRecDepth 100000 in
theorem l_X12_part_82 (hx : p.tables.exec = Jvm.exec) (hb : c.code = cX12_part) (hml : c.maxLocals = 7) (hr : meth.sig.returnType = (some .int)) (hlk : meth.locks = false) (hown : s.vm.findClass RX12 = some m.cls) (hX : Kx D cA lo tS s) (hRf : 2 ≤ R.frames) (hRl : 120 ≤ R.locals) {N : Nat} {rv : Int32} {g1 : Hg} {S : Hs} : ∀ (n : Nat), ∀ (H : Heap) (locs : List Loc) (ls : Array Slot) (g : Hg) (a0 : Nat) (x4 : Int32) (x5 : Int32) (x6 : Int32), Mm D cA lo S g s H locs → Rf lo S a0 12 → lv_has ls 7 [(0, .ref a0), (4, .int x4), (5, .int x5), (6, .int x6)] → n_X12_part_82 N S n g a0 x4 x5 x6 = some (rv, g1) → W p l e R s m args below meth c H locs 0 0 (MQ below (Qcx D cA lo S (some (.int rv)) S g1 True) args s 0 0 (fun q : Nat => lo ≤ q)) (F0 m 82 ls []) := by
  intro n
  induction n with
  | zero =>
    intro H locs ls g a0 x4 x5 x6 M ra0 hl q
    exact absurd q (by simp [n_X12_part_82])
  | succ n ih => exact w_X12_part_82 hx hb hml hr hlk hown hX hRf hRl (N := N)  ih
set_option maxHeartbeats 4000000 in
set_option maxRecDepth 100000 in
theorem w_X12_part_9 (hx : p.tables.exec = Jvm.exec) (hb : c.code = cX12_part) (hml : c.maxLocals = 7) (hr : meth.sig.returnType = (some .int)) (hlk : meth.locks = false) (hown : s.vm.findClass RX12 = some m.cls) (hX : Kx D cA lo tS s) (hRf : 2 ≤ R.frames) (hRl : 120 ≤ R.locals) {N : Nat} {rv : Int32} {g1 : Hg} {S : Hs} {k9 : Hg → Nat → Int32 → Int32 → Int32 → Int32 → Int32 → Option (Int32 × Hg)} (hk9 : ∀ (H : Heap) (locs : List Loc) (ls : Array Slot) (g : Hg) (a0 : Nat) (x2 : Int32) (x3 : Int32) (x4 : Int32) (x5 : Int32) (x6 : Int32), Mm D cA lo S g s H locs → Rf lo S a0 12 → lv_has ls 7 [(0, .ref a0), (2, .int x2), (3, .int x3), (4, .int x4), (5, .int x5), (6, .int x6)] → k9 g a0 x2 x3 x4 x5 x6 = some (rv, g1) → W p l e R s m args below meth c H locs 0 0 (MQ below (Qcx D cA lo S (some (.int rv)) S g1 True) args s 0 0 (fun q : Nat => lo ≤ q)) (F0 m 9 ls [])) : ∀ (H : Heap) (locs : List Loc) (ls : Array Slot) (g : Hg) (a0 : Nat) (x2 : Int32) (x3 : Int32) (x4 : Int32) (x5 : Int32) (x6 : Int32), Mm D cA lo S g s H locs → Rf lo S a0 12 → lv_has ls 7 [(0, .ref a0), (2, .int x2), (3, .int x3), (4, .int x4), (5, .int x5), (6, .int x6)] → b_X12_part_9 N S k9 g a0 x2 x3 x4 x5 x6 = some (rv, g1) → W p l e R s m args below meth c H locs 0 0 (MQ below (Qcx D cA lo S (some (.int rv)) S g1 True) args s 0 0 (fun q : Nat => lo ≤ q)) (F0 m 9 ls []) := by
  intro H locs ls g a0 x2 x3 x4 x5 x6 M ra0 hl q
  unfold b_X12_part_9 at q
  refine lv_iload hx hb dX12_part_9 (lv_at hl 5 rfl) ?_
  refine lv_iload_n hx hb dX12_part_11 rfl (lv_at hl 1 rfl) ?_
  refine lv_icmp_ge (tgt := 79) hx hb dX12_part_12 (by decide) (fun c_1 => ?_) (fun c_1 => ?_)
  · replace q := if_t c_1 q
    refine lv_iconst (v := 0) hx hb dX12_part_79 (by decide) ?_
    refine lv_istore (lv' := [(6, .int (0 : Int32)), (0, .ref a0), (2, .int x2), (3, .int x3), (4, .int x4), (5, .int x5)]) hx hb dX12_part_80 hl (by decide) rfl (fun ls hl => ?_)
    exact l_X12_part_82 hx hb hml hr hlk hown hX hRf hRl (N := N)  N _ _ _ _ _ _ _ _ M ra0 (lv_sub hl [1, 4, 5, 0] rfl) q
  · replace q := if_f c_1 q
    refine lv_aload_n hx hb dX12_part_15 rfl (lv_at hl 0 rfl) ?_
    replace q := nn_s q
    obtain ⟨a_2, e_a_2, q⟩ := q
    refine x_getR hx hb hown hX M e_a_2 okX12 ra0 (by decide) rfl kw_1066 dX12_part_16 (fun ra_2 => ?_)
    refine lv_bipush (v := 8) hx hb dX12_part_19 (by decide) ?_
    refine lv_aload_n hx hb dX12_part_21 rfl (lv_at hl 0 rfl) ?_
    replace q := nn_s q
    obtain ⟨a_3, e_a_3, q⟩ := q
    refine x_getR hx hb hown hX M e_a_3 okX12 ra0 (by decide) rfl kw_1067 dX12_part_22 (fun ra_3 => ?_)
    refine lv_iload hx hb dX12_part_25 (lv_at hl 5 rfl) ?_
    replace q := ck_s q
    obtain ⟨hin, q⟩ := q
    refine x_iald hx hb hX M ra_3 (inb_in hin) dX12_part_27 ?_
    refine lv_imul hx hb dX12_part_28 ?_
    refine lv_iload_n hx hb dX12_part_29 rfl (lv_at hl 2 rfl) ?_
    replace q := c2_s q
    obtain ⟨x_5, g_4, qc, q⟩ := q
    refine x_callS hx hb hml hl.1 hown hX M (S1 := S) (As := [.ref a_2, .int ((8 : Int32) * (rdI g a_3 x6.toNatClampNeg)), .int x3]) (rest := []) kw_1344 mok_X12_isOne (c_X12_isOne ra_2 qc (Nat.le_refl 1)) kw_1343 rfl rfl dX12_part_30 (Nat.le_of_ble_eq_true rfl) ⟨Nat.le_trans (by decide) hRf, Nat.le_trans (by decide) hRl⟩ (Nat.zero_le _) (Nat.zero_le _) (fun H locs M hEF => ?_)
    refine lv_if_eq (tgt := 56) hx hb dX12_part_33 (by decide) (fun c_6 => ?_) (fun c_6 => ?_)
    · replace q := if_t c_6 q
      refine lv_aload_n hx hb dX12_part_56 rfl (lv_at hl 0 rfl) ?_
      replace q := nn_s q
      obtain ⟨a_7, e_a_7, q⟩ := q
      refine x_getR hx hb hown hX M e_a_7 okX12 ra0 (by decide) rfl kw_1067 dX12_part_57 (fun ra_7 => ?_)
      refine lv_iload hx hb dX12_part_60 (lv_at hl 3 rfl) ?_
      refine lv_aload_n hx hb dX12_part_62 rfl (lv_at hl 0 rfl) ?_
      replace q := nn_s q
      obtain ⟨a_8, e_a_8, q⟩ := q
      refine x_getR hx hb hown hX M e_a_8 okX12 ra0 (by decide) rfl kw_1067 dX12_part_63 (fun ra_8 => ?_)
      refine lv_iload hx hb dX12_part_66 (lv_at hl 5 rfl) ?_
      replace q := ck_s q
      obtain ⟨hin, q⟩ := q
      refine x_iald hx hb hX M ra_8 (inb_in hin) dX12_part_68 ?_
      replace q := ck_s q
      obtain ⟨hin, q⟩ := q
      refine x_iast hx hb hX M ra_7 (inb_in hin) dX12_part_69 (fun H locs M => ?_)
      replace q := gen_g M q
      obtain ⟨g_9, -, M, q⟩ := q
      obtain ⟨x_10, e_x_10⟩ : ∃ y : Int32, y = x4 + 1 := ⟨_, rfl⟩
      replace q := nm_s q e_x_10
      refine lv_iinc (v := x_10) (lv' := [(4, .int x_10), (0, .ref a0), (2, .int x2), (3, .int x3), (5, .int x5), (6, .int x6)]) hx hb dX12_part_70 hl (k := 3) rfl (by rw [e_x_10]; rfl) (by decide) rfl (fun ls hl => ?_)
      obtain ⟨x_11, e_x_11⟩ : ∃ y : Int32, y = x6 + 1 := ⟨_, rfl⟩
      replace q := nm_s q e_x_11
      refine lv_iinc (v := x_11) (lv' := [(6, .int x_11), (4, .int x_10), (0, .ref a0), (2, .int x2), (3, .int x3), (5, .int x5)]) hx hb dX12_part_73 hl (k := 5) rfl (by rw [e_x_11]; rfl) (by decide) rfl (fun ls hl => ?_)
      refine lv_goto (tgt := 9) hx hb dX12_part_76 (by decide) ?_
      exact hk9 _ _ _ _ _ _ _ _ _ _ M ra0 (lv_sub hl [2, 3, 4, 1, 5, 0] rfl) q
    · replace q := if_f c_6 q
      refine lv_aload_n hx hb dX12_part_36 rfl (lv_at hl 0 rfl) ?_
      replace q := nn_s q
      obtain ⟨a_12, e_a_12, q⟩ := q
      refine x_getR hx hb hown hX M e_a_12 okX12 ra0 (by decide) rfl kw_1068 dX12_part_37 (fun ra_12 => ?_)
      refine lv_iload hx hb dX12_part_40 (lv_at hl 4 rfl) ?_
      refine lv_aload_n hx hb dX12_part_42 rfl (lv_at hl 0 rfl) ?_
      replace q := nn_s q
      obtain ⟨a_13, e_a_13, q⟩ := q
      refine x_getR hx hb hown hX M e_a_13 okX12 ra0 (by decide) rfl kw_1067 dX12_part_43 (fun ra_13 => ?_)
      refine lv_iload hx hb dX12_part_46 (lv_at hl 5 rfl) ?_
      replace q := ck_s q
      obtain ⟨hin, q⟩ := q
      refine x_iald hx hb hX M ra_13 (inb_in hin) dX12_part_48 ?_
      replace q := ck_s q
      obtain ⟨hin, q⟩ := q
      refine x_iast hx hb hX M ra_12 (inb_in hin) dX12_part_49 (fun H locs M => ?_)
      replace q := gen_g M q
      obtain ⟨g_14, -, M, q⟩ := q
      obtain ⟨x_15, e_x_15⟩ : ∃ y : Int32, y = x5 + 1 := ⟨_, rfl⟩
      replace q := nm_s q e_x_15
      refine lv_iinc (v := x_15) (lv' := [(5, .int x_15), (0, .ref a0), (2, .int x2), (3, .int x3), (4, .int x4), (6, .int x6)]) hx hb dX12_part_50 hl (k := 4) rfl (by rw [e_x_15]; rfl) (by decide) rfl (fun ls hl => ?_)
      refine lv_goto (tgt := 73) hx hb dX12_part_53 (by decide) ?_
      obtain ⟨x_16, e_x_16⟩ : ∃ y : Int32, y = x6 + 1 := ⟨_, rfl⟩
      replace q := nm_s q e_x_16
      refine lv_iinc (v := x_16) (lv' := [(6, .int x_16), (5, .int x_15), (0, .ref a0), (2, .int x2), (3, .int x3), (4, .int x4)]) hx hb dX12_part_73 hl (k := 5) rfl (by rw [e_x_16]; rfl) (by decide) rfl (fun ls hl => ?_)
      refine lv_goto (tgt := 9) hx hb dX12_part_76 (by decide) ?_
      exact hk9 _ _ _ _ _ _ _ _ _ _ M ra0 (lv_sub hl [2, 3, 4, 5, 1, 0] rfl) q
set_option maxRecDepth 100000 in
theorem l_X12_part_9 (hx : p.tables.exec = Jvm.exec) (hb : c.code = cX12_part) (hml : c.maxLocals = 7) (hr : meth.sig.returnType = (some .int)) (hlk : meth.locks = false) (hown : s.vm.findClass RX12 = some m.cls) (hX : Kx D cA lo tS s) (hRf : 2 ≤ R.frames) (hRl : 120 ≤ R.locals) {N : Nat} {rv : Int32} {g1 : Hg} {S : Hs} : ∀ (n : Nat), ∀ (H : Heap) (locs : List Loc) (ls : Array Slot) (g : Hg) (a0 : Nat) (x2 : Int32) (x3 : Int32) (x4 : Int32) (x5 : Int32) (x6 : Int32), Mm D cA lo S g s H locs → Rf lo S a0 12 → lv_has ls 7 [(0, .ref a0), (2, .int x2), (3, .int x3), (4, .int x4), (5, .int x5), (6, .int x6)] → n_X12_part_9 N S n g a0 x2 x3 x4 x5 x6 = some (rv, g1) → W p l e R s m args below meth c H locs 0 0 (MQ below (Qcx D cA lo S (some (.int rv)) S g1 True) args s 0 0 (fun q : Nat => lo ≤ q)) (F0 m 9 ls []) := by
  intro n
  induction n with
  | zero =>
    intro H locs ls g a0 x2 x3 x4 x5 x6 M ra0 hl q
    exact absurd q (by simp [n_X12_part_9])
  | succ n ih => exact w_X12_part_9 hx hb hml hr hlk hown hX hRf hRl (N := N)  ih
set_option maxHeartbeats 4000000 in
set_option maxRecDepth 100000 in
theorem w_X12_part_0 (hx : p.tables.exec = Jvm.exec) (hb : c.code = cX12_part) (hml : c.maxLocals = 7) (hr : meth.sig.returnType = (some .int)) (hlk : meth.locks = false) (hown : s.vm.findClass RX12 = some m.cls) (hX : Kx D cA lo tS s) (hRf : 2 ≤ R.frames) (hRl : 120 ≤ R.locals) {N : Nat} {rv : Int32} {g1 : Hg} {S : Hs} : ∀ (H : Heap) (locs : List Loc) (ls : Array Slot) (g : Hg) (a0 : Nat) (x1 : Int32) (x2 : Int32) (x3 : Int32), Mm D cA lo S g s H locs → Rf lo S a0 12 → lv_has ls 7 [(0, .ref a0), (1, .int x1), (2, .int x2), (3, .int x3)] → b_X12_part_0 N S g a0 x1 x2 x3 = some (rv, g1) → W p l e R s m args below meth c H locs 0 0 (MQ below (Qcx D cA lo S (some (.int rv)) S g1 True) args s 0 0 (fun q : Nat => lo ≤ q)) (F0 m 0 ls []) := by
  intro H locs ls g a0 x1 x2 x3 M ra0 hl q
  unfold b_X12_part_0 at q
  refine lv_iload_n hx hb dX12_part_0 rfl (lv_at hl 1 rfl) ?_
  refine lv_istore (lv' := [(4, .int x1), (0, .ref a0), (1, .int x1), (2, .int x2), (3, .int x3)]) hx hb dX12_part_1 hl (by decide) rfl (fun ls hl => ?_)
  refine lv_iconst (v := 0) hx hb dX12_part_3 (by decide) ?_
  refine lv_istore (lv' := [(5, .int (0 : Int32)), (4, .int x1), (0, .ref a0), (1, .int x1), (2, .int x2), (3, .int x3)]) hx hb dX12_part_4 hl (by decide) rfl (fun ls hl => ?_)
  refine lv_iload_n hx hb dX12_part_6 rfl (lv_at hl 3 rfl) ?_
  refine lv_istore (lv' := [(6, .int x1), (5, .int (0 : Int32)), (4, .int x1), (0, .ref a0), (1, .int x1), (2, .int x2), (3, .int x3)]) hx hb dX12_part_7 hl (by decide) rfl (fun ls hl => ?_)
  exact l_X12_part_9 hx hb hml hr hlk hown hX hRf hRl (N := N)  N _ _ _ _ _ _ _ _ _ _ M ra0 (lv_sub hl [3, 5, 6, 2, 1, 0] rfl) q
set_option maxRecDepth 100000 in
theorem c_X12_part {l : Launch} {D : va_G} {cA : Nat → ClassId} {lo tS N : Nat} {S : Hs} {g g1 : Hg} {rv : Int32} {a0 : Nat} {x1 : Int32} {x2 : Int32} {x3 : Int32} (ra0 : Rf lo S a0 12) (q : f_X12_part N S g a0 x1 x2 x3 = some (rv, g1)) {d : Nat} (hd : 2 ≤ d) : Ctr l yX12_part cX12_part 7 (some .int) D cA lo tS [.ref a0, .int x1, .int x2, .int x3] S g d (some (.int rv)) S g1 True 0 0 := by
  refine x_met (by decide) (Nat.le_of_ble_eq_true rfl) ?_
  intro p e s m below meth c ls hx hb hml hr hlk hown hnm hX M hl
  exact w_X12_part_0 hx hb hml hr hlk hown hX hd (Nat.mul_le_mul_left 60 hd) (N := N) _ _ _ _ _ _ _ _ M ra0 (lv_sub hl [0, 1, 2, 3] rfl) q
def b_X12_step_25 (N : Nat) (S : Hs) (k25 : Hg → Nat → Int32 → Nat → Int32 → Int32 → Int32 → Option (Unit × Hg)) (g : Hg) (a0 : Nat) (x1 : Int32) (a2 : Nat) (x3 : Int32) (x4 : Int32) (x5 : Int32) : Option (Unit × Hg) :=
if (8 : Int32) ≤ x5 then (
nn (rdR g a0 9) (fun a_2 =>
ck (inb (((8 : Int32) * x1) + (1 : Int32)) (hpL S a_2)) (
ck (inb (((8 : Int32) * x1) + (1 : Int32)) (hpL S a_2)) (
nm (wrI g a_2 (((8 : Int32) * x1) + (1 : Int32)).toNatClampNeg ((rdI g a_2 (((8 : Int32) * x1) + (1 : Int32)).toNatClampNeg) + (1 : Int32))) (fun g_3 =>
some ((), g_3)))))) else (
nn (rdR g a0 12) (fun a_4 =>
ck (inb (x3 + x5) (hpL S a2)) (
ck (inb (((8 : Int32) * (((256 : Int32) * x1) + x4)) + x5) (hpL S a_4)) (
nm (wrI g a_4 (((8 : Int32) * (((256 : Int32) * x1) + x4)) + x5).toNatClampNeg (rdI g a2 (x3 + x5).toNatClampNeg)) (fun g_5 =>
nm (x5 + 1) (fun x_6 =>
k25 g_5 a0 x1 a2 x3 x4 x_6))))))
def n_X12_step_25 (N : Nat) (S : Hs) : Nat → Hg → Nat → Int32 → Nat → Int32 → Int32 → Int32 → Option (Unit × Hg)
  | 0 => fun _ _ _ _ _ _ _ => none
  | n + 1 => fun g a0 x1 a2 x3 x4 x5 => b_X12_step_25 N S (n_X12_step_25 N S n) g a0 x1 a2 x3 x4 x5
def b_X12_step_0 (N : Nat) (S : Hs) (g : Hg) (a0 : Nat) (x1 : Int32) (a2 : Nat) (x3 : Int32) : Option (Unit × Hg) :=
nn (rdR g a0 9) (fun a_1 =>
ck (inb (((8 : Int32) * x1) + (1 : Int32)) (hpL S a_1)) (
nm (rdI g a_1 (((8 : Int32) * x1) + (1 : Int32)).toNatClampNeg) (fun x_2 =>
if x_2 < (256 : Int32) then (
n_X12_step_25 N S N g a0 x1 a2 x3 x_2 (0 : Int32)) else (
some ((), g)))))
def f_X12_step (N : Nat) (S : Hs) (g : Hg) (a0 : Nat) (x1 : Int32) (a2 : Nat) (x3 : Int32) : Option (Unit × Hg) := b_X12_step_0 N S g a0 x1 a2 x3
set_option maxHeartbeats 4000000 in
set_option maxRecDepth 100000 in
theorem w_X12_step_25 (hx : p.tables.exec = Jvm.exec) (hb : c.code = cX12_step) (hml : c.maxLocals = 6) (hr : meth.sig.returnType = none) (hlk : meth.locks = false) (hown : s.vm.findClass RX12 = some m.cls) (hX : Kx D cA lo tS s) (hRf : 1 ≤ R.frames) (hRl : 60 ≤ R.locals) {N : Nat} {rv : Unit} {g1 : Hg} {S : Hs} {k25 : Hg → Nat → Int32 → Nat → Int32 → Int32 → Int32 → Option (Unit × Hg)} (hk25 : ∀ (H : Heap) (locs : List Loc) (ls : Array Slot) (g : Hg) (a0 : Nat) (x1 : Int32) (a2 : Nat) (x3 : Int32) (x4 : Int32) (x5 : Int32), Mm D cA lo S g s H locs → Rf lo S a0 12 → Rf lo S a2 20 → lv_has ls 6 [(0, .ref a0), (1, .int x1), (2, .ref a2), (3, .int x3), (4, .int x4), (5, .int x5)] → k25 g a0 x1 a2 x3 x4 x5 = some (rv, g1) → W p l e R s m args below meth c H locs 0 0 (MQ below (Qcx D cA lo S none S g1 True) args s 0 0 (fun q : Nat => lo ≤ q)) (F0 m 25 ls [])) : ∀ (H : Heap) (locs : List Loc) (ls : Array Slot) (g : Hg) (a0 : Nat) (x1 : Int32) (a2 : Nat) (x3 : Int32) (x4 : Int32) (x5 : Int32), Mm D cA lo S g s H locs → Rf lo S a0 12 → Rf lo S a2 20 → lv_has ls 6 [(0, .ref a0), (1, .int x1), (2, .ref a2), (3, .int x3), (4, .int x4), (5, .int x5)] → b_X12_step_25 N S k25 g a0 x1 a2 x3 x4 x5 = some (rv, g1) → W p l e R s m args below meth c H locs 0 0 (MQ below (Qcx D cA lo S none S g1 True) args s 0 0 (fun q : Nat => lo ≤ q)) (F0 m 25 ls []) := by
  intro H locs ls g a0 x1 a2 x3 x4 x5 M ra0 ra2 hl q
  unfold b_X12_step_25 at q
  refine lv_iload hx hb dX12_step_25 (lv_at hl 5 rfl) ?_
  refine lv_bipush (v := 8) hx hb dX12_step_27 (by decide) ?_
  refine lv_icmp_ge (tgt := 63) hx hb dX12_step_29 (by decide) (fun c_1 => ?_) (fun c_1 => ?_)
  · replace q := if_t c_1 q
    refine lv_aload_n hx hb dX12_step_63 rfl (lv_at hl 0 rfl) ?_
    replace q := nn_s q
    obtain ⟨a_2, e_a_2, q⟩ := q
    refine x_getR hx hb hown hX M e_a_2 okX12 ra0 (by decide) rfl kw_1021 dX12_step_64 (fun ra_2 => ?_)
    refine lv_bipush (v := 8) hx hb dX12_step_67 (by decide) ?_
    refine lv_iload_n hx hb dX12_step_69 rfl (lv_at hl 1 rfl) ?_
    refine lv_imul hx hb dX12_step_70 ?_
    refine lv_iconst (v := 1) hx hb dX12_step_71 (by decide) ?_
    refine lv_iadd hx hb dX12_step_72 ?_
    refine lv_dup2_11 hx hb dX12_step_73 rfl rfl ?_
    replace q := ck_s q
    obtain ⟨hin, q⟩ := q
    refine x_iald hx hb hX M ra_2 (inb_in hin) dX12_step_74 ?_
    refine lv_iconst (v := 1) hx hb dX12_step_75 (by decide) ?_
    refine lv_iadd hx hb dX12_step_76 ?_
    replace q := ck_s q
    obtain ⟨hin, q⟩ := q
    refine x_iast hx hb hX M ra_2 (inb_in hin) dX12_step_77 (fun H locs M => ?_)
    replace q := gen_g M q
    obtain ⟨g_3, -, M, q⟩ := q
    cases q
    exact x_vret hx hb hr hlk M Ext.rf dX12_step_78
  · replace q := if_f c_1 q
    refine lv_aload_n hx hb dX12_step_32 rfl (lv_at hl 0 rfl) ?_
    replace q := nn_s q
    obtain ⟨a_4, e_a_4, q⟩ := q
    refine x_getR hx hb hown hX M e_a_4 okX12 ra0 (by decide) rfl kw_1024 dX12_step_33 (fun ra_4 => ?_)
    refine lv_bipush (v := 8) hx hb dX12_step_36 (by decide) ?_
    refine lv_sipush (v := 256) hx hb dX12_step_38 (by decide) ?_
    refine lv_iload_n hx hb dX12_step_41 rfl (lv_at hl 1 rfl) ?_
    refine lv_imul hx hb dX12_step_42 ?_
    refine lv_iload hx hb dX12_step_43 (lv_at hl 4 rfl) ?_
    refine lv_iadd hx hb dX12_step_45 ?_
    refine lv_imul hx hb dX12_step_46 ?_
    refine lv_iload hx hb dX12_step_47 (lv_at hl 5 rfl) ?_
    refine lv_iadd hx hb dX12_step_49 ?_
    refine lv_aload_n hx hb dX12_step_50 rfl (lv_at hl 2 rfl) ?_
    refine lv_iload_n hx hb dX12_step_51 rfl (lv_at hl 3 rfl) ?_
    refine lv_iload hx hb dX12_step_52 (lv_at hl 5 rfl) ?_
    refine lv_iadd hx hb dX12_step_54 ?_
    replace q := ck_s q
    obtain ⟨hin, q⟩ := q
    refine x_iald hx hb hX M ra2 (inb_in hin) dX12_step_55 ?_
    replace q := ck_s q
    obtain ⟨hin, q⟩ := q
    refine x_iast hx hb hX M ra_4 (inb_in hin) dX12_step_56 (fun H locs M => ?_)
    replace q := gen_g M q
    obtain ⟨g_5, -, M, q⟩ := q
    obtain ⟨x_6, e_x_6⟩ : ∃ y : Int32, y = x5 + 1 := ⟨_, rfl⟩
    replace q := nm_s q e_x_6
    refine lv_iinc (v := x_6) (lv' := [(5, .int x_6), (0, .ref a0), (1, .int x1), (2, .ref a2), (3, .int x3), (4, .int x4)]) hx hb dX12_step_57 hl (k := 5) rfl (by rw [e_x_6]; rfl) (by decide) rfl (fun ls hl => ?_)
    refine lv_goto (tgt := 25) hx hb dX12_step_60 (by decide) ?_
    exact hk25 _ _ _ _ _ _ _ _ _ _ M ra0 ra2 (lv_sub hl [1, 2, 3, 4, 5, 0] rfl) q
set_option maxRecDepth 100000 in
theorem l_X12_step_25 (hx : p.tables.exec = Jvm.exec) (hb : c.code = cX12_step) (hml : c.maxLocals = 6) (hr : meth.sig.returnType = none) (hlk : meth.locks = false) (hown : s.vm.findClass RX12 = some m.cls) (hX : Kx D cA lo tS s) (hRf : 1 ≤ R.frames) (hRl : 60 ≤ R.locals) {N : Nat} {rv : Unit} {g1 : Hg} {S : Hs} : ∀ (n : Nat), ∀ (H : Heap) (locs : List Loc) (ls : Array Slot) (g : Hg) (a0 : Nat) (x1 : Int32) (a2 : Nat) (x3 : Int32) (x4 : Int32) (x5 : Int32), Mm D cA lo S g s H locs → Rf lo S a0 12 → Rf lo S a2 20 → lv_has ls 6 [(0, .ref a0), (1, .int x1), (2, .ref a2), (3, .int x3), (4, .int x4), (5, .int x5)] → n_X12_step_25 N S n g a0 x1 a2 x3 x4 x5 = some (rv, g1) → W p l e R s m args below meth c H locs 0 0 (MQ below (Qcx D cA lo S none S g1 True) args s 0 0 (fun q : Nat => lo ≤ q)) (F0 m 25 ls []) := by
  intro n
  induction n with
  | zero =>
    intro H locs ls g a0 x1 a2 x3 x4 x5 M ra0 ra2 hl q
    exact absurd q (by simp [n_X12_step_25])
  | succ n ih => exact w_X12_step_25 hx hb hml hr hlk hown hX hRf hRl (N := N)  ih
set_option maxHeartbeats 4000000 in
set_option maxRecDepth 100000 in
theorem w_X12_step_0 (hx : p.tables.exec = Jvm.exec) (hb : c.code = cX12_step) (hml : c.maxLocals = 6) (hr : meth.sig.returnType = none) (hlk : meth.locks = false) (hown : s.vm.findClass RX12 = some m.cls) (hX : Kx D cA lo tS s) (hRf : 1 ≤ R.frames) (hRl : 60 ≤ R.locals) {N : Nat} {rv : Unit} {g1 : Hg} {S : Hs} : ∀ (H : Heap) (locs : List Loc) (ls : Array Slot) (g : Hg) (a0 : Nat) (x1 : Int32) (a2 : Nat) (x3 : Int32), Mm D cA lo S g s H locs → Rf lo S a0 12 → Rf lo S a2 20 → lv_has ls 6 [(0, .ref a0), (1, .int x1), (2, .ref a2), (3, .int x3)] → b_X12_step_0 N S g a0 x1 a2 x3 = some (rv, g1) → W p l e R s m args below meth c H locs 0 0 (MQ below (Qcx D cA lo S none S g1 True) args s 0 0 (fun q : Nat => lo ≤ q)) (F0 m 0 ls []) := by
  intro H locs ls g a0 x1 a2 x3 M ra0 ra2 hl q
  unfold b_X12_step_0 at q
  refine lv_aload_n hx hb dX12_step_0 rfl (lv_at hl 0 rfl) ?_
  replace q := nn_s q
  obtain ⟨a_1, e_a_1, q⟩ := q
  refine x_getR hx hb hown hX M e_a_1 okX12 ra0 (by decide) rfl kw_1021 dX12_step_1 (fun ra_1 => ?_)
  refine lv_bipush (v := 8) hx hb dX12_step_4 (by decide) ?_
  refine lv_iload_n hx hb dX12_step_6 rfl (lv_at hl 1 rfl) ?_
  refine lv_imul hx hb dX12_step_7 ?_
  refine lv_iconst (v := 1) hx hb dX12_step_8 (by decide) ?_
  refine lv_iadd hx hb dX12_step_9 ?_
  replace q := ck_s q
  obtain ⟨hin, q⟩ := q
  refine x_iald hx hb hX M ra_1 (inb_in hin) dX12_step_10 ?_
  refine lv_topi (fun x_2 e_x_2 => ?_)
  replace q := nm_s q e_x_2
  refine lv_istore (lv' := [(4, .int x_2), (0, .ref a0), (1, .int x1), (2, .ref a2), (3, .int x3)]) hx hb dX12_step_11 hl (by decide) rfl (fun ls hl => ?_)
  refine lv_iload hx hb dX12_step_13 (lv_at hl 0 rfl) ?_
  refine lv_sipush (v := 256) hx hb dX12_step_15 (by decide) ?_
  refine lv_icmp_lt (tgt := 22) hx hb dX12_step_18 (by decide) (fun c_3 => ?_) (fun c_3 => ?_)
  · replace q := if_t c_3 q
    refine lv_iconst (v := 0) hx hb dX12_step_22 (by decide) ?_
    refine lv_istore (lv' := [(5, .int (0 : Int32)), (4, .int x_2), (0, .ref a0), (1, .int x1), (2, .ref a2), (3, .int x3)]) hx hb dX12_step_23 hl (by decide) rfl (fun ls hl => ?_)
    exact l_X12_step_25 hx hb hml hr hlk hown hX hRf hRl (N := N)  N _ _ _ _ _ _ _ _ _ _ M ra0 ra2 (lv_sub hl [2, 3, 4, 5, 1, 0] rfl) q
  · replace q := if_f c_3 q
    cases q
    exact x_vret hx hb hr hlk M Ext.rf dX12_step_21
set_option maxRecDepth 100000 in
theorem c_X12_step {l : Launch} {D : va_G} {cA : Nat → ClassId} {lo tS N : Nat} {S : Hs} {g g1 : Hg} {rv : Unit} {a0 : Nat} {x1 : Int32} {a2 : Nat} {x3 : Int32} (ra0 : Rf lo S a0 12) (ra2 : Rf lo S a2 20) (q : f_X12_step N S g a0 x1 a2 x3 = some (rv, g1)) {d : Nat} (hd : 1 ≤ d) : Ctr l yX12_step cX12_step 6 none D cA lo tS [.ref a0, .int x1, .ref a2, .int x3] S g d none S g1 True 0 0 := by
  refine x_met (by decide) (Nat.le_of_ble_eq_true rfl) ?_
  intro p e s m below meth c ls hx hb hml hr hlk hown hnm hX M hl
  exact w_X12_step_0 hx hb hml hr hlk hown hX hd (Nat.mul_le_mul_left 60 hd) (N := N) _ _ _ _ _ _ _ _ M ra0 ra2 (lv_sub hl [0, 1, 2, 3] rfl) q
def b_X12_toRow_2 (N : Nat) (S : Hs) (k2 : Hg → Nat → Nat → Int32 → Int32 → Option (Unit × Hg)) (g : Hg) (a0 : Nat) (a1 : Nat) (x2 : Int32) (x3 : Int32) : Option (Unit × Hg) :=
if (8 : Int32) ≤ x3 then (
some ((), g)) else (
nn (rdR g a0 44) (fun a_2 =>
ck (inb x3 (hpL S a_2)) (
ck (inb (x2 + x3) (hpL S a1)) (
nm (wrI g a1 (x2 + x3).toNatClampNeg (rdI g a_2 x3.toNatClampNeg)) (fun g_3 =>
nm (x3 + 1) (fun x_4 =>
k2 g_3 a0 a1 x2 x_4))))))
def n_X12_toRow_2 (N : Nat) (S : Hs) : Nat → Hg → Nat → Nat → Int32 → Int32 → Option (Unit × Hg)
  | 0 => fun _ _ _ _ _ => none
  | n + 1 => fun g a0 a1 x2 x3 => b_X12_toRow_2 N S (n_X12_toRow_2 N S n) g a0 a1 x2 x3
def b_X12_toRow_0 (N : Nat) (S : Hs) (g : Hg) (a0 : Nat) (a1 : Nat) (x2 : Int32) : Option (Unit × Hg) :=
n_X12_toRow_2 N S N g a0 a1 x2 (0 : Int32)
def f_X12_toRow (N : Nat) (S : Hs) (g : Hg) (a0 : Nat) (a1 : Nat) (x2 : Int32) : Option (Unit × Hg) := b_X12_toRow_0 N S g a0 a1 x2
set_option maxHeartbeats 4000000 in
set_option maxRecDepth 100000 in
theorem w_X12_toRow_2 (hx : p.tables.exec = Jvm.exec) (hb : c.code = cX12_toRow) (hml : c.maxLocals = 4) (hr : meth.sig.returnType = none) (hlk : meth.locks = false) (hown : s.vm.findClass RX12 = some m.cls) (hX : Kx D cA lo tS s) (hRf : 1 ≤ R.frames) (hRl : 60 ≤ R.locals) {N : Nat} {rv : Unit} {g1 : Hg} {S : Hs} {k2 : Hg → Nat → Nat → Int32 → Int32 → Option (Unit × Hg)} (hk2 : ∀ (H : Heap) (locs : List Loc) (ls : Array Slot) (g : Hg) (a0 : Nat) (a1 : Nat) (x2 : Int32) (x3 : Int32), Mm D cA lo S g s H locs → Rf lo S a0 12 → Rf lo S a1 20 → lv_has ls 4 [(0, .ref a0), (1, .ref a1), (2, .int x2), (3, .int x3)] → k2 g a0 a1 x2 x3 = some (rv, g1) → W p l e R s m args below meth c H locs 0 0 (MQ below (Qcx D cA lo S none S g1 True) args s 0 0 (fun q : Nat => lo ≤ q)) (F0 m 2 ls [])) : ∀ (H : Heap) (locs : List Loc) (ls : Array Slot) (g : Hg) (a0 : Nat) (a1 : Nat) (x2 : Int32) (x3 : Int32), Mm D cA lo S g s H locs → Rf lo S a0 12 → Rf lo S a1 20 → lv_has ls 4 [(0, .ref a0), (1, .ref a1), (2, .int x2), (3, .int x3)] → b_X12_toRow_2 N S k2 g a0 a1 x2 x3 = some (rv, g1) → W p l e R s m args below meth c H locs 0 0 (MQ below (Qcx D cA lo S none S g1 True) args s 0 0 (fun q : Nat => lo ≤ q)) (F0 m 2 ls []) := by
  intro H locs ls g a0 a1 x2 x3 M ra0 ra1 hl q
  unfold b_X12_toRow_2 at q
  refine lv_iload_n hx hb dX12_toRow_2 rfl (lv_at hl 3 rfl) ?_
  refine lv_bipush (v := 8) hx hb dX12_toRow_3 (by decide) ?_
  refine lv_icmp_ge (tgt := 25) hx hb dX12_toRow_5 (by decide) (fun c_1 => ?_) (fun c_1 => ?_)
  · replace q := if_t c_1 q
    cases q
    exact x_vret hx hb hr hlk M Ext.rf dX12_toRow_25
  · replace q := if_f c_1 q
    refine lv_aload_n hx hb dX12_toRow_8 rfl (lv_at hl 1 rfl) ?_
    refine lv_iload_n hx hb dX12_toRow_9 rfl (lv_at hl 2 rfl) ?_
    refine lv_iload_n hx hb dX12_toRow_10 rfl (lv_at hl 3 rfl) ?_
    refine lv_iadd hx hb dX12_toRow_11 ?_
    refine lv_aload_n hx hb dX12_toRow_12 rfl (lv_at hl 0 rfl) ?_
    replace q := nn_s q
    obtain ⟨a_2, e_a_2, q⟩ := q
    refine x_getR hx hb hown hX M e_a_2 okX12 ra0 (by decide) rfl kw_1056 dX12_toRow_13 (fun ra_2 => ?_)
    refine lv_iload_n hx hb dX12_toRow_16 rfl (lv_at hl 3 rfl) ?_
    replace q := ck_s q
    obtain ⟨hin, q⟩ := q
    refine x_iald hx hb hX M ra_2 (inb_in hin) dX12_toRow_17 ?_
    replace q := ck_s q
    obtain ⟨hin, q⟩ := q
    refine x_iast hx hb hX M ra1 (inb_in hin) dX12_toRow_18 (fun H locs M => ?_)
    replace q := gen_g M q
    obtain ⟨g_3, -, M, q⟩ := q
    obtain ⟨x_4, e_x_4⟩ : ∃ y : Int32, y = x3 + 1 := ⟨_, rfl⟩
    replace q := nm_s q e_x_4
    refine lv_iinc (v := x_4) (lv' := [(3, .int x_4), (0, .ref a0), (1, .ref a1), (2, .int x2)]) hx hb dX12_toRow_19 hl (k := 3) rfl (by rw [e_x_4]; rfl) (by decide) rfl (fun ls hl => ?_)
    refine lv_goto (tgt := 2) hx hb dX12_toRow_22 (by decide) ?_
    exact hk2 _ _ _ _ _ _ _ _ M ra0 ra1 (lv_sub hl [1, 2, 3, 0] rfl) q
set_option maxRecDepth 100000 in
theorem l_X12_toRow_2 (hx : p.tables.exec = Jvm.exec) (hb : c.code = cX12_toRow) (hml : c.maxLocals = 4) (hr : meth.sig.returnType = none) (hlk : meth.locks = false) (hown : s.vm.findClass RX12 = some m.cls) (hX : Kx D cA lo tS s) (hRf : 1 ≤ R.frames) (hRl : 60 ≤ R.locals) {N : Nat} {rv : Unit} {g1 : Hg} {S : Hs} : ∀ (n : Nat), ∀ (H : Heap) (locs : List Loc) (ls : Array Slot) (g : Hg) (a0 : Nat) (a1 : Nat) (x2 : Int32) (x3 : Int32), Mm D cA lo S g s H locs → Rf lo S a0 12 → Rf lo S a1 20 → lv_has ls 4 [(0, .ref a0), (1, .ref a1), (2, .int x2), (3, .int x3)] → n_X12_toRow_2 N S n g a0 a1 x2 x3 = some (rv, g1) → W p l e R s m args below meth c H locs 0 0 (MQ below (Qcx D cA lo S none S g1 True) args s 0 0 (fun q : Nat => lo ≤ q)) (F0 m 2 ls []) := by
  intro n
  induction n with
  | zero =>
    intro H locs ls g a0 a1 x2 x3 M ra0 ra1 hl q
    exact absurd q (by simp [n_X12_toRow_2])
  | succ n ih => exact w_X12_toRow_2 hx hb hml hr hlk hown hX hRf hRl (N := N)  ih
set_option maxHeartbeats 4000000 in
set_option maxRecDepth 100000 in
theorem w_X12_toRow_0 (hx : p.tables.exec = Jvm.exec) (hb : c.code = cX12_toRow) (hml : c.maxLocals = 4) (hr : meth.sig.returnType = none) (hlk : meth.locks = false) (hown : s.vm.findClass RX12 = some m.cls) (hX : Kx D cA lo tS s) (hRf : 1 ≤ R.frames) (hRl : 60 ≤ R.locals) {N : Nat} {rv : Unit} {g1 : Hg} {S : Hs} : ∀ (H : Heap) (locs : List Loc) (ls : Array Slot) (g : Hg) (a0 : Nat) (a1 : Nat) (x2 : Int32), Mm D cA lo S g s H locs → Rf lo S a0 12 → Rf lo S a1 20 → lv_has ls 4 [(0, .ref a0), (1, .ref a1), (2, .int x2)] → b_X12_toRow_0 N S g a0 a1 x2 = some (rv, g1) → W p l e R s m args below meth c H locs 0 0 (MQ below (Qcx D cA lo S none S g1 True) args s 0 0 (fun q : Nat => lo ≤ q)) (F0 m 0 ls []) := by
  intro H locs ls g a0 a1 x2 M ra0 ra1 hl q
  unfold b_X12_toRow_0 at q
  refine lv_iconst (v := 0) hx hb dX12_toRow_0 (by decide) ?_
  refine lv_istore_n (lv' := [(3, .int (0 : Int32)), (0, .ref a0), (1, .ref a1), (2, .int x2)]) hx hb dX12_toRow_1 rfl hl (by decide) rfl (fun ls hl => ?_)
  exact l_X12_toRow_2 hx hb hml hr hlk hown hX hRf hRl (N := N)  N _ _ _ _ _ _ _ _ M ra0 ra1 (lv_sub hl [1, 2, 3, 0] rfl) q
set_option maxRecDepth 100000 in
theorem c_X12_toRow {l : Launch} {D : va_G} {cA : Nat → ClassId} {lo tS N : Nat} {S : Hs} {g g1 : Hg} {rv : Unit} {a0 : Nat} {a1 : Nat} {x2 : Int32} (ra0 : Rf lo S a0 12) (ra1 : Rf lo S a1 20) (q : f_X12_toRow N S g a0 a1 x2 = some (rv, g1)) {d : Nat} (hd : 1 ≤ d) : Ctr l yX12_toRow cX12_toRow 4 none D cA lo tS [.ref a0, .ref a1, .int x2] S g d none S g1 True 0 0 := by
  refine x_met (by decide) (Nat.le_of_ble_eq_true rfl) ?_
  intro p e s m below meth c ls hx hb hml hr hlk hown hnm hX M hl
  exact w_X12_toRow_0 hx hb hml hr hlk hown hX hd (Nat.mul_le_mul_left 60 hd) (N := N) _ _ _ _ _ _ _ M ra0 ra1 (lv_sub hl [0, 1, 2] rfl) q
def b_X12_turn_10 (N : Nat) (S : Hs) (k2 : Hg → Nat → Int32 → Option (Unit × Hg)) (k10 : Hg → Nat → Int32 → Int32 → Option (Unit × Hg)) (g : Hg) (a0 : Nat) (x1 : Int32) (x2 : Int32) : Option (Unit × Hg) :=
if (8 : Int32) ≤ x2 then (
nm (x1 + 1) (fun x_2 =>
k2 g a0 x_2)) else (
nn (rdR g a0 44) (fun a_3 =>
ck (inb x2 (hpL S a_3)) (
nn (rdR g a0 44) (fun a_4 =>
ck (inb ((x2 + (1 : Int32)) - (x2 + (1 : Int32)) / (8 : Int32) * (8 : Int32)) (hpL S a_4)) (
nm ((rdI g a_3 x2.toNatClampNeg) + (rdI g a_4 ((x2 + (1 : Int32)) - (x2 + (1 : Int32)) / (8 : Int32) * (8 : Int32)).toNatClampNeg)) (fun x_5 =>
nn (rdR g a0 44) (fun a_6 =>
nn (rdR g a0 44) (fun a_7 =>
ck (inb ((x2 + (3 : Int32)) - (x2 + (3 : Int32)) / (8 : Int32) * (8 : Int32)) (hpL S a_7)) (
ck (inb x2 (hpL S a_6)) (
nm (wrI g a_6 x2.toNatClampNeg (((x_5 <<< ((7 : Int32) &&& 31)) ||| (x_5.toUInt32 >>> ((25 : Int32).toUInt32 &&& Int32.toUInt32 31)).toInt32) ^^^ (rdI g a_7 ((x2 + (3 : Int32)) - (x2 + (3 : Int32)) / (8 : Int32) * (8 : Int32)).toNatClampNeg))) (fun g_8 =>
nm (x2 + 1) (fun x_9 =>
k10 g_8 a0 x1 x_9))))))))))))
def n_X12_turn_10 (N : Nat) (S : Hs) (k2 : Hg → Nat → Int32 → Option (Unit × Hg)) : Nat → Hg → Nat → Int32 → Int32 → Option (Unit × Hg)
  | 0 => fun _ _ _ _ => none
  | n + 1 => fun g a0 x1 x2 => b_X12_turn_10 N S k2 (n_X12_turn_10 N S k2 n) g a0 x1 x2
def b_X12_turn_2 (N : Nat) (S : Hs) (k2 : Hg → Nat → Int32 → Option (Unit × Hg)) (g : Hg) (a0 : Nat) (x1 : Int32) : Option (Unit × Hg) :=
if (6 : Int32) ≤ x1 then (
some ((), g)) else (
n_X12_turn_10 N S k2 N g a0 x1 (0 : Int32))
def n_X12_turn_2 (N : Nat) (S : Hs) : Nat → Hg → Nat → Int32 → Option (Unit × Hg)
  | 0 => fun _ _ _ => none
  | n + 1 => fun g a0 x1 => b_X12_turn_2 N S (n_X12_turn_2 N S n) g a0 x1
def b_X12_turn_0 (N : Nat) (S : Hs) (g : Hg) (a0 : Nat) : Option (Unit × Hg) :=
n_X12_turn_2 N S N g a0 (0 : Int32)
def f_X12_turn (N : Nat) (S : Hs) (g : Hg) (a0 : Nat) : Option (Unit × Hg) := b_X12_turn_0 N S g a0
set_option maxHeartbeats 4000000 in
set_option maxRecDepth 100000 in
theorem w_X12_turn_10 (hx : p.tables.exec = Jvm.exec) (hb : c.code = cX12_turn) (hml : c.maxLocals = 4) (hr : meth.sig.returnType = none) (hlk : meth.locks = false) (hown : s.vm.findClass RX12 = some m.cls) (hX : Kx D cA lo tS s) (hRf : 1 ≤ R.frames) (hRl : 60 ≤ R.locals) {N : Nat} {rv : Unit} {g1 : Hg} {S : Hs} {k2 : Hg → Nat → Int32 → Option (Unit × Hg)} (hk2 : ∀ (H : Heap) (locs : List Loc) (ls : Array Slot) (g : Hg) (a0 : Nat) (x1 : Int32), Mm D cA lo S g s H locs → Rf lo S a0 12 → lv_has ls 4 [(0, .ref a0), (1, .int x1)] → k2 g a0 x1 = some (rv, g1) → W p l e R s m args below meth c H locs 0 0 (MQ below (Qcx D cA lo S none S g1 True) args s 0 0 (fun q : Nat => lo ≤ q)) (F0 m 2 ls [])) {k10 : Hg → Nat → Int32 → Int32 → Option (Unit × Hg)} (hk10 : ∀ (H : Heap) (locs : List Loc) (ls : Array Slot) (g : Hg) (a0 : Nat) (x1 : Int32) (x2 : Int32), Mm D cA lo S g s H locs → Rf lo S a0 12 → lv_has ls 4 [(0, .ref a0), (1, .int x1), (2, .int x2)] → k10 g a0 x1 x2 = some (rv, g1) → W p l e R s m args below meth c H locs 0 0 (MQ below (Qcx D cA lo S none S g1 True) args s 0 0 (fun q : Nat => lo ≤ q)) (F0 m 10 ls [])) : ∀ (H : Heap) (locs : List Loc) (ls : Array Slot) (g : Hg) (a0 : Nat) (x1 : Int32) (x2 : Int32), Mm D cA lo S g s H locs → Rf lo S a0 12 → lv_has ls 4 [(0, .ref a0), (1, .int x1), (2, .int x2)] → b_X12_turn_10 N S k2 k10 g a0 x1 x2 = some (rv, g1) → W p l e R s m args below meth c H locs 0 0 (MQ below (Qcx D cA lo S none S g1 True) args s 0 0 (fun q : Nat => lo ≤ q)) (F0 m 10 ls []) := by
  intro H locs ls g a0 x1 x2 M ra0 hl q
  unfold b_X12_turn_10 at q
  refine lv_iload_n hx hb dX12_turn_10 rfl (lv_at hl 2 rfl) ?_
  refine lv_bipush (v := 8) hx hb dX12_turn_11 (by decide) ?_
  refine lv_icmp_ge (tgt := 68) hx hb dX12_turn_13 (by decide) (fun c_1 => ?_) (fun c_1 => ?_)
  · replace q := if_t c_1 q
    obtain ⟨x_2, e_x_2⟩ : ∃ y : Int32, y = x1 + 1 := ⟨_, rfl⟩
    replace q := nm_s q e_x_2
    refine lv_iinc (v := x_2) (lv' := [(1, .int x_2), (0, .ref a0), (2, .int x2)]) hx hb dX12_turn_68 hl (k := 1) rfl (by rw [e_x_2]; rfl) (by decide) rfl (fun ls hl => ?_)
    refine lv_goto (tgt := 2) hx hb dX12_turn_71 (by decide) ?_
    exact hk2 _ _ _ _ _ _ M ra0 (lv_sub hl [1, 0] rfl) q
  · replace q := if_f c_1 q
    refine lv_aload_n hx hb dX12_turn_16 rfl (lv_at hl 0 rfl) ?_
    replace q := nn_s q
    obtain ⟨a_3, e_a_3, q⟩ := q
    refine x_getR hx hb hown hX M e_a_3 okX12 ra0 (by decide) rfl kw_1056 dX12_turn_17 (fun ra_3 => ?_)
    refine lv_iload_n hx hb dX12_turn_20 rfl (lv_at hl 2 rfl) ?_
    replace q := ck_s q
    obtain ⟨hin, q⟩ := q
    refine x_iald hx hb hX M ra_3 (inb_in hin) dX12_turn_21 ?_
    refine lv_aload_n hx hb dX12_turn_22 rfl (lv_at hl 0 rfl) ?_
    replace q := nn_s q
    obtain ⟨a_4, e_a_4, q⟩ := q
    refine x_getR hx hb hown hX M e_a_4 okX12 ra0 (by decide) rfl kw_1056 dX12_turn_23 (fun ra_4 => ?_)
    refine lv_iload_n hx hb dX12_turn_26 rfl (lv_at hl 2 rfl) ?_
    refine lv_iconst (v := 1) hx hb dX12_turn_27 (by decide) ?_
    refine lv_iadd hx hb dX12_turn_28 ?_
    refine lv_bipush (v := 8) hx hb dX12_turn_29 (by decide) ?_
    refine lv_irem hx hb dX12_turn_31 (by decide) ?_
    replace q := ck_s q
    obtain ⟨hin, q⟩ := q
    refine x_iald hx hb hX M ra_4 (inb_in hin) dX12_turn_32 ?_
    refine lv_iadd hx hb dX12_turn_33 ?_
    refine lv_topi (fun x_5 e_x_5 => ?_)
    replace q := nm_s q e_x_5
    refine lv_istore_n (lv' := [(3, .int x_5), (0, .ref a0), (1, .int x1), (2, .int x2)]) hx hb dX12_turn_34 rfl hl (by decide) rfl (fun ls hl => ?_)
    refine lv_aload_n hx hb dX12_turn_35 rfl (lv_at hl 1 rfl) ?_
    replace q := nn_s q
    obtain ⟨a_6, e_a_6, q⟩ := q
    refine x_getR hx hb hown hX M e_a_6 okX12 ra0 (by decide) rfl kw_1056 dX12_turn_36 (fun ra_6 => ?_)
    refine lv_iload_n hx hb dX12_turn_39 rfl (lv_at hl 3 rfl) ?_
    refine lv_iload_n hx hb dX12_turn_40 rfl (lv_at hl 0 rfl) ?_
    refine lv_bipush (v := 7) hx hb dX12_turn_41 (by decide) ?_
    refine lv_ishl hx hb dX12_turn_43 ?_
    refine lv_iload_n hx hb dX12_turn_44 rfl (lv_at hl 0 rfl) ?_
    refine lv_bipush (v := 25) hx hb dX12_turn_45 (by decide) ?_
    refine lv_iushr hx hb dX12_turn_47 rfl ?_
    refine lv_ior hx hb dX12_turn_48 ?_
    refine lv_aload_n hx hb dX12_turn_49 rfl (lv_at hl 1 rfl) ?_
    replace q := nn_s q
    obtain ⟨a_7, e_a_7, q⟩ := q
    refine x_getR hx hb hown hX M e_a_7 okX12 ra0 (by decide) rfl kw_1056 dX12_turn_50 (fun ra_7 => ?_)
    refine lv_iload_n hx hb dX12_turn_53 rfl (lv_at hl 3 rfl) ?_
    refine lv_iconst (v := 3) hx hb dX12_turn_54 (by decide) ?_
    refine lv_iadd hx hb dX12_turn_55 ?_
    refine lv_bipush (v := 8) hx hb dX12_turn_56 (by decide) ?_
    refine lv_irem hx hb dX12_turn_58 (by decide) ?_
    replace q := ck_s q
    obtain ⟨hin, q⟩ := q
    refine x_iald hx hb hX M ra_7 (inb_in hin) dX12_turn_59 ?_
    refine lv_ixor hx hb dX12_turn_60 ?_
    replace q := ck_s q
    obtain ⟨hin, q⟩ := q
    refine x_iast hx hb hX M ra_6 (inb_in hin) dX12_turn_61 (fun H locs M => ?_)
    replace q := gen_g M q
    obtain ⟨g_8, -, M, q⟩ := q
    obtain ⟨x_9, e_x_9⟩ : ∃ y : Int32, y = x2 + 1 := ⟨_, rfl⟩
    replace q := nm_s q e_x_9
    refine lv_iinc (v := x_9) (lv' := [(2, .int x_9), (3, .int x_5), (0, .ref a0), (1, .int x1)]) hx hb dX12_turn_62 hl (k := 3) rfl (by rw [e_x_9]; rfl) (by decide) rfl (fun ls hl => ?_)
    refine lv_goto (tgt := 10) hx hb dX12_turn_65 (by decide) ?_
    exact hk10 _ _ _ _ _ _ _ M ra0 (lv_sub hl [2, 3, 0] rfl) q
set_option maxRecDepth 100000 in
theorem l_X12_turn_10 (hx : p.tables.exec = Jvm.exec) (hb : c.code = cX12_turn) (hml : c.maxLocals = 4) (hr : meth.sig.returnType = none) (hlk : meth.locks = false) (hown : s.vm.findClass RX12 = some m.cls) (hX : Kx D cA lo tS s) (hRf : 1 ≤ R.frames) (hRl : 60 ≤ R.locals) {N : Nat} {rv : Unit} {g1 : Hg} {S : Hs} {k2 : Hg → Nat → Int32 → Option (Unit × Hg)} (hk2 : ∀ (H : Heap) (locs : List Loc) (ls : Array Slot) (g : Hg) (a0 : Nat) (x1 : Int32), Mm D cA lo S g s H locs → Rf lo S a0 12 → lv_has ls 4 [(0, .ref a0), (1, .int x1)] → k2 g a0 x1 = some (rv, g1) → W p l e R s m args below meth c H locs 0 0 (MQ below (Qcx D cA lo S none S g1 True) args s 0 0 (fun q : Nat => lo ≤ q)) (F0 m 2 ls [])) : ∀ (n : Nat), ∀ (H : Heap) (locs : List Loc) (ls : Array Slot) (g : Hg) (a0 : Nat) (x1 : Int32) (x2 : Int32), Mm D cA lo S g s H locs → Rf lo S a0 12 → lv_has ls 4 [(0, .ref a0), (1, .int x1), (2, .int x2)] → n_X12_turn_10 N S k2 n g a0 x1 x2 = some (rv, g1) → W p l e R s m args below meth c H locs 0 0 (MQ below (Qcx D cA lo S none S g1 True) args s 0 0 (fun q : Nat => lo ≤ q)) (F0 m 10 ls []) := by
  intro n
  induction n with
  | zero =>
    intro H locs ls g a0 x1 x2 M ra0 hl q
    exact absurd q (by simp [n_X12_turn_10])
  | succ n ih => exact w_X12_turn_10 hx hb hml hr hlk hown hX hRf hRl (N := N) hk2 ih
set_option maxHeartbeats 4000000 in
set_option maxRecDepth 100000 in
theorem w_X12_turn_2 (hx : p.tables.exec = Jvm.exec) (hb : c.code = cX12_turn) (hml : c.maxLocals = 4) (hr : meth.sig.returnType = none) (hlk : meth.locks = false) (hown : s.vm.findClass RX12 = some m.cls) (hX : Kx D cA lo tS s) (hRf : 1 ≤ R.frames) (hRl : 60 ≤ R.locals) {N : Nat} {rv : Unit} {g1 : Hg} {S : Hs} {k2 : Hg → Nat → Int32 → Option (Unit × Hg)} (hk2 : ∀ (H : Heap) (locs : List Loc) (ls : Array Slot) (g : Hg) (a0 : Nat) (x1 : Int32), Mm D cA lo S g s H locs → Rf lo S a0 12 → lv_has ls 4 [(0, .ref a0), (1, .int x1)] → k2 g a0 x1 = some (rv, g1) → W p l e R s m args below meth c H locs 0 0 (MQ below (Qcx D cA lo S none S g1 True) args s 0 0 (fun q : Nat => lo ≤ q)) (F0 m 2 ls [])) : ∀ (H : Heap) (locs : List Loc) (ls : Array Slot) (g : Hg) (a0 : Nat) (x1 : Int32), Mm D cA lo S g s H locs → Rf lo S a0 12 → lv_has ls 4 [(0, .ref a0), (1, .int x1)] → b_X12_turn_2 N S k2 g a0 x1 = some (rv, g1) → W p l e R s m args below meth c H locs 0 0 (MQ below (Qcx D cA lo S none S g1 True) args s 0 0 (fun q : Nat => lo ≤ q)) (F0 m 2 ls []) := by
  intro H locs ls g a0 x1 M ra0 hl q
  unfold b_X12_turn_2 at q
  refine lv_iload_n hx hb dX12_turn_2 rfl (lv_at hl 1 rfl) ?_
  refine lv_bipush (v := 6) hx hb dX12_turn_3 (by decide) ?_
  refine lv_icmp_ge (tgt := 74) hx hb dX12_turn_5 (by decide) (fun c_1 => ?_) (fun c_1 => ?_)
  · replace q := if_t c_1 q
    cases q
    exact x_vret hx hb hr hlk M Ext.rf dX12_turn_74
  · replace q := if_f c_1 q
    refine lv_iconst (v := 0) hx hb dX12_turn_8 (by decide) ?_
    refine lv_istore_n (lv' := [(2, .int (0 : Int32)), (0, .ref a0), (1, .int x1)]) hx hb dX12_turn_9 rfl hl (by decide) rfl (fun ls hl => ?_)
    exact l_X12_turn_10 hx hb hml hr hlk hown hX hRf hRl (N := N) hk2 N _ _ _ _ _ _ _ M ra0 (lv_sub hl [1, 2, 0] rfl) q
set_option maxRecDepth 100000 in
theorem l_X12_turn_2 (hx : p.tables.exec = Jvm.exec) (hb : c.code = cX12_turn) (hml : c.maxLocals = 4) (hr : meth.sig.returnType = none) (hlk : meth.locks = false) (hown : s.vm.findClass RX12 = some m.cls) (hX : Kx D cA lo tS s) (hRf : 1 ≤ R.frames) (hRl : 60 ≤ R.locals) {N : Nat} {rv : Unit} {g1 : Hg} {S : Hs} : ∀ (n : Nat), ∀ (H : Heap) (locs : List Loc) (ls : Array Slot) (g : Hg) (a0 : Nat) (x1 : Int32), Mm D cA lo S g s H locs → Rf lo S a0 12 → lv_has ls 4 [(0, .ref a0), (1, .int x1)] → n_X12_turn_2 N S n g a0 x1 = some (rv, g1) → W p l e R s m args below meth c H locs 0 0 (MQ below (Qcx D cA lo S none S g1 True) args s 0 0 (fun q : Nat => lo ≤ q)) (F0 m 2 ls []) := by
  intro n
  induction n with
  | zero =>
    intro H locs ls g a0 x1 M ra0 hl q
    exact absurd q (by simp [n_X12_turn_2])
  | succ n ih => exact w_X12_turn_2 hx hb hml hr hlk hown hX hRf hRl (N := N)  ih
set_option maxHeartbeats 4000000 in
set_option maxRecDepth 100000 in
theorem w_X12_turn_0 (hx : p.tables.exec = Jvm.exec) (hb : c.code = cX12_turn) (hml : c.maxLocals = 4) (hr : meth.sig.returnType = none) (hlk : meth.locks = false) (hown : s.vm.findClass RX12 = some m.cls) (hX : Kx D cA lo tS s) (hRf : 1 ≤ R.frames) (hRl : 60 ≤ R.locals) {N : Nat} {rv : Unit} {g1 : Hg} {S : Hs} : ∀ (H : Heap) (locs : List Loc) (ls : Array Slot) (g : Hg) (a0 : Nat), Mm D cA lo S g s H locs → Rf lo S a0 12 → lv_has ls 4 [(0, .ref a0)] → b_X12_turn_0 N S g a0 = some (rv, g1) → W p l e R s m args below meth c H locs 0 0 (MQ below (Qcx D cA lo S none S g1 True) args s 0 0 (fun q : Nat => lo ≤ q)) (F0 m 0 ls []) := by
  intro H locs ls g a0 M ra0 hl q
  unfold b_X12_turn_0 at q
  refine lv_iconst (v := 0) hx hb dX12_turn_0 (by decide) ?_
  refine lv_istore_n (lv' := [(1, .int (0 : Int32)), (0, .ref a0)]) hx hb dX12_turn_1 rfl hl (by decide) rfl (fun ls hl => ?_)
  exact l_X12_turn_2 hx hb hml hr hlk hown hX hRf hRl (N := N)  N _ _ _ _ _ _ M ra0 (lv_sub hl [1, 0] rfl) q
set_option maxRecDepth 100000 in
theorem c_X12_turn {l : Launch} {D : va_G} {cA : Nat → ClassId} {lo tS N : Nat} {S : Hs} {g g1 : Hg} {rv : Unit} {a0 : Nat} (ra0 : Rf lo S a0 12) (q : f_X12_turn N S g a0 = some (rv, g1)) {d : Nat} (hd : 1 ≤ d) : Ctr l yX12_turn cX12_turn 4 none D cA lo tS [.ref a0] S g d none S g1 True 0 0 := by
  refine x_met (by decide) (Nat.le_of_ble_eq_true rfl) ?_
  intro p e s m below meth c ls hx hb hml hr hlk hown hnm hX M hl
  exact w_X12_turn_0 hx hb hml hr hlk hown hX hd (Nat.mul_le_mul_left 60 hd) (N := N) _ _ _ _ _ M ra0 (lv_sub hl [0] rfl) q
def b_X12_mix_67 (N : Nat) (S : Hs) (k28 : Hg → Nat → Int32 → Int32 → Option (Unit × Hg)) (g : Hg) (a0 : Nat) (x1 : Int32) (x2 : Int32) : Option (Unit × Hg) :=
c2 (f_X12_turn N S g a0) (fun u_2 g_1 =>
nm (x2 + 1) (fun x_3 =>
k28 g_1 a0 x1 x_3))
def b_X12_mix_28 (N : Nat) (S : Hs) (k28 : Hg → Nat → Int32 → Int32 → Option (Unit × Hg)) (g : Hg) (a0 : Nat) (x1 : Int32) (x2 : Int32) : Option (Unit × Hg) :=
if x1 ≤ x2 then (
nn (rdR g a0 44) (fun a_2 =>
ck (inb (0 : Int32) (hpL S a_2)) (
ck (inb (0 : Int32) (hpL S a_2)) (
nm (wrI g a_2 (0 : Int32).toNatClampNeg ((rdI g a_2 (0 : Int32).toNatClampNeg) ^^^ x1)) (fun g_3 =>
c2 (f_X12_turn N S g_3 a0) (fun u_5 g_4 =>
some ((), g_4))))))) else (
nn (rdR g a0 44) (fun a_6 =>
ck (inb (x2 - x2 / (8 : Int32) * (8 : Int32)) (hpL S a_6)) (
nn (rdR g a0 43) (fun a_7 =>
ck (inb x2 (hpL S a_7)) (
ck (inb (x2 - x2 / (8 : Int32) * (8 : Int32)) (hpL S a_6)) (
nm (wrI g a_6 (x2 - x2 / (8 : Int32) * (8 : Int32)).toNatClampNeg ((rdI g a_6 (x2 - x2 / (8 : Int32) * (8 : Int32)).toNatClampNeg) ^^^ (rdI g a_7 x2.toNatClampNeg))) (fun g_8 =>
if (x2 - x2 / (8 : Int32) * (8 : Int32)) = (7 : Int32) then (
b_X12_mix_67 N S k28 g_8 a0 x1 x2) else (
if x2 = (x1 - (1 : Int32)) then (
b_X12_mix_67 N S k28 g_8 a0 x1 x2) else (
nm (x2 + 1) (fun x_11 =>
k28 g_8 a0 x1 x_11))))))))))
def n_X12_mix_28 (N : Nat) (S : Hs) : Nat → Hg → Nat → Int32 → Int32 → Option (Unit × Hg)
  | 0 => fun _ _ _ _ => none
  | n + 1 => fun g a0 x1 x2 => b_X12_mix_28 N S (n_X12_mix_28 N S n) g a0 x1 x2
def b_X12_mix_2 (N : Nat) (S : Hs) (k2 : Hg → Nat → Int32 → Int32 → Option (Unit × Hg)) (g : Hg) (a0 : Nat) (x1 : Int32) (x2 : Int32) : Option (Unit × Hg) :=
if (8 : Int32) ≤ x2 then (
n_X12_mix_28 N S N g a0 x1 (0 : Int32)) else (
nn (rdR g a0 44) (fun a_2 =>
ck (inb x2 (hpL S a_2)) (
nm (wrI g a_2 x2.toNatClampNeg ((x2 + (1 : Int32)) * (1640531527 : Int32))) (fun g_3 =>
nm (x2 + 1) (fun x_4 =>
k2 g_3 a0 x1 x_4)))))
def n_X12_mix_2 (N : Nat) (S : Hs) : Nat → Hg → Nat → Int32 → Int32 → Option (Unit × Hg)
  | 0 => fun _ _ _ _ => none
  | n + 1 => fun g a0 x1 x2 => b_X12_mix_2 N S (n_X12_mix_2 N S n) g a0 x1 x2
def b_X12_mix_0 (N : Nat) (S : Hs) (g : Hg) (a0 : Nat) (x1 : Int32) : Option (Unit × Hg) :=
n_X12_mix_2 N S N g a0 x1 (0 : Int32)
def f_X12_mix (N : Nat) (S : Hs) (g : Hg) (a0 : Nat) (x1 : Int32) : Option (Unit × Hg) := b_X12_mix_0 N S g a0 x1
set_option maxHeartbeats 4000000 in
set_option maxRecDepth 100000 in
theorem w_X12_mix_67 (hx : p.tables.exec = Jvm.exec) (hb : c.code = cX12_mix) (hml : c.maxLocals = 3) (hr : meth.sig.returnType = none) (hlk : meth.locks = false) (hown : s.vm.findClass RX12 = some m.cls) (hX : Kx D cA lo tS s) (hRf : 2 ≤ R.frames) (hRl : 120 ≤ R.locals) {N : Nat} {rv : Unit} {g1 : Hg} {S : Hs} {k28 : Hg → Nat → Int32 → Int32 → Option (Unit × Hg)} (hk28 : ∀ (H : Heap) (locs : List Loc) (ls : Array Slot) (g : Hg) (a0 : Nat) (x1 : Int32) (x2 : Int32), Mm D cA lo S g s H locs → Rf lo S a0 12 → lv_has ls 3 [(0, .ref a0), (1, .int x1), (2, .int x2)] → k28 g a0 x1 x2 = some (rv, g1) → W p l e R s m args below meth c H locs 0 0 (MQ below (Qcx D cA lo S none S g1 True) args s 0 0 (fun q : Nat => lo ≤ q)) (F0 m 28 ls [])) : ∀ (H : Heap) (locs : List Loc) (ls : Array Slot) (g : Hg) (a0 : Nat) (x1 : Int32) (x2 : Int32), Mm D cA lo S g s H locs → Rf lo S a0 12 → lv_has ls 3 [(0, .ref a0), (1, .int x1), (2, .int x2)] → b_X12_mix_67 N S k28 g a0 x1 x2 = some (rv, g1) → W p l e R s m args below meth c H locs 0 0 (MQ below (Qcx D cA lo S none S g1 True) args s 0 0 (fun q : Nat => lo ≤ q)) (F0 m 67 ls []) := by
  intro H locs ls g a0 x1 x2 M ra0 hl q
  unfold b_X12_mix_67 at q
  refine lv_aload_n hx hb dX12_mix_67 rfl (lv_at hl 0 rfl) ?_
  replace q := c2_s q
  obtain ⟨u_2, g_1, qc, q⟩ := q
  refine x_callV hx hb hml hl.1 hown hX M (S1 := S) (As := []) (rest := []) okX12 ra0 rfl kw_1286 kw_24 mok_X12_turn (c_X12_turn ra0 qc (Nat.le_refl 1)) kw_1284 rfl rfl dX12_mix_68 (Nat.le_of_ble_eq_true rfl) ⟨Nat.le_trans (by decide) hRf, Nat.le_trans (by decide) hRl⟩ (Nat.zero_le _) (Nat.zero_le _) (fun H locs M hEF => ?_)
  obtain ⟨x_3, e_x_3⟩ : ∃ y : Int32, y = x2 + 1 := ⟨_, rfl⟩
  replace q := nm_s q e_x_3
  refine lv_iinc (v := x_3) (lv' := [(2, .int x_3), (0, .ref a0), (1, .int x1)]) hx hb dX12_mix_71 hl (k := 2) rfl (by rw [e_x_3]; rfl) (by decide) rfl (fun ls hl => ?_)
  refine lv_goto (tgt := 28) hx hb dX12_mix_74 (by decide) ?_
  exact hk28 _ _ _ _ _ _ _ M ra0 (lv_sub hl [1, 2, 0] rfl) q
set_option maxHeartbeats 4000000 in
set_option maxRecDepth 100000 in
theorem w_X12_mix_28 (hx : p.tables.exec = Jvm.exec) (hb : c.code = cX12_mix) (hml : c.maxLocals = 3) (hr : meth.sig.returnType = none) (hlk : meth.locks = false) (hown : s.vm.findClass RX12 = some m.cls) (hX : Kx D cA lo tS s) (hRf : 2 ≤ R.frames) (hRl : 120 ≤ R.locals) {N : Nat} {rv : Unit} {g1 : Hg} {S : Hs} {k28 : Hg → Nat → Int32 → Int32 → Option (Unit × Hg)} (hk28 : ∀ (H : Heap) (locs : List Loc) (ls : Array Slot) (g : Hg) (a0 : Nat) (x1 : Int32) (x2 : Int32), Mm D cA lo S g s H locs → Rf lo S a0 12 → lv_has ls 3 [(0, .ref a0), (1, .int x1), (2, .int x2)] → k28 g a0 x1 x2 = some (rv, g1) → W p l e R s m args below meth c H locs 0 0 (MQ below (Qcx D cA lo S none S g1 True) args s 0 0 (fun q : Nat => lo ≤ q)) (F0 m 28 ls [])) : ∀ (H : Heap) (locs : List Loc) (ls : Array Slot) (g : Hg) (a0 : Nat) (x1 : Int32) (x2 : Int32), Mm D cA lo S g s H locs → Rf lo S a0 12 → lv_has ls 3 [(0, .ref a0), (1, .int x1), (2, .int x2)] → b_X12_mix_28 N S k28 g a0 x1 x2 = some (rv, g1) → W p l e R s m args below meth c H locs 0 0 (MQ below (Qcx D cA lo S none S g1 True) args s 0 0 (fun q : Nat => lo ≤ q)) (F0 m 28 ls []) := by
  intro H locs ls g a0 x1 x2 M ra0 hl q
  unfold b_X12_mix_28 at q
  refine lv_iload_n hx hb dX12_mix_28 rfl (lv_at hl 2 rfl) ?_
  refine lv_iload_n hx hb dX12_mix_29 rfl (lv_at hl 1 rfl) ?_
  refine lv_icmp_ge (tgt := 77) hx hb dX12_mix_30 (by decide) (fun c_1 => ?_) (fun c_1 => ?_)
  · replace q := if_t c_1 q
    refine lv_aload_n hx hb dX12_mix_77 rfl (lv_at hl 0 rfl) ?_
    replace q := nn_s q
    obtain ⟨a_2, e_a_2, q⟩ := q
    refine x_getR hx hb hown hX M e_a_2 okX12 ra0 (by decide) rfl kw_1056 dX12_mix_78 (fun ra_2 => ?_)
    refine lv_iconst (v := 0) hx hb dX12_mix_81 (by decide) ?_
    refine lv_dup2_11 hx hb dX12_mix_82 rfl rfl ?_
    replace q := ck_s q
    obtain ⟨hin, q⟩ := q
    refine x_iald hx hb hX M ra_2 (inb_in hin) dX12_mix_83 ?_
    refine lv_iload_n hx hb dX12_mix_84 rfl (lv_at hl 1 rfl) ?_
    refine lv_ixor hx hb dX12_mix_85 ?_
    replace q := ck_s q
    obtain ⟨hin, q⟩ := q
    refine x_iast hx hb hX M ra_2 (inb_in hin) dX12_mix_86 (fun H locs M => ?_)
    replace q := gen_g M q
    obtain ⟨g_3, -, M, q⟩ := q
    refine lv_aload_n hx hb dX12_mix_87 rfl (lv_at hl 0 rfl) ?_
    replace q := c2_s q
    obtain ⟨u_5, g_4, qc, q⟩ := q
    refine x_callV hx hb hml hl.1 hown hX M (S1 := S) (As := []) (rest := []) okX12 ra0 rfl kw_1286 kw_24 mok_X12_turn (c_X12_turn ra0 qc (Nat.le_refl 1)) kw_1284 rfl rfl dX12_mix_88 (Nat.le_of_ble_eq_true rfl) ⟨Nat.le_trans (by decide) hRf, Nat.le_trans (by decide) hRl⟩ (Nat.zero_le _) (Nat.zero_le _) (fun H locs M hEF => ?_)
    cases q
    exact x_vret hx hb hr hlk M Ext.rf dX12_mix_91
  · replace q := if_f c_1 q
    refine lv_aload_n hx hb dX12_mix_33 rfl (lv_at hl 0 rfl) ?_
    replace q := nn_s q
    obtain ⟨a_6, e_a_6, q⟩ := q
    refine x_getR hx hb hown hX M e_a_6 okX12 ra0 (by decide) rfl kw_1056 dX12_mix_34 (fun ra_6 => ?_)
    refine lv_iload_n hx hb dX12_mix_37 rfl (lv_at hl 2 rfl) ?_
    refine lv_bipush (v := 8) hx hb dX12_mix_38 (by decide) ?_
    refine lv_irem hx hb dX12_mix_40 (by decide) ?_
    refine lv_dup2_11 hx hb dX12_mix_41 rfl rfl ?_
    replace q := ck_s q
    obtain ⟨hin, q⟩ := q
    refine x_iald hx hb hX M ra_6 (inb_in hin) dX12_mix_42 ?_
    refine lv_aload_n hx hb dX12_mix_43 rfl (lv_at hl 0 rfl) ?_
    replace q := nn_s q
    obtain ⟨a_7, e_a_7, q⟩ := q
    refine x_getR hx hb hown hX M e_a_7 okX12 ra0 (by decide) rfl kw_1055 dX12_mix_44 (fun ra_7 => ?_)
    refine lv_iload_n hx hb dX12_mix_47 rfl (lv_at hl 2 rfl) ?_
    replace q := ck_s q
    obtain ⟨hin, q⟩ := q
    refine x_iald hx hb hX M ra_7 (inb_in hin) dX12_mix_48 ?_
    refine lv_ixor hx hb dX12_mix_49 ?_
    replace q := ck_s q
    obtain ⟨hin, q⟩ := q
    refine x_iast hx hb hX M ra_6 (inb_in hin) dX12_mix_50 (fun H locs M => ?_)
    replace q := gen_g M q
    obtain ⟨g_8, -, M, q⟩ := q
    refine lv_iload_n hx hb dX12_mix_51 rfl (lv_at hl 2 rfl) ?_
    refine lv_bipush (v := 8) hx hb dX12_mix_52 (by decide) ?_
    refine lv_irem hx hb dX12_mix_54 (by decide) ?_
    refine lv_bipush (v := 7) hx hb dX12_mix_55 (by decide) ?_
    refine lv_icmp_eq (tgt := 67) hx hb dX12_mix_57 (by decide) (fun c_9 => ?_) (fun c_9 => ?_)
    · replace q := if_t c_9 q
      exact w_X12_mix_67 hx hb hml hr hlk hown hX hRf hRl (N := N) hk28 _ _ _ _ _ _ _ M ra0 (lv_sub hl [0, 1, 2] rfl) q
    · replace q := if_f c_9 q
      refine lv_iload_n hx hb dX12_mix_60 rfl (lv_at hl 2 rfl) ?_
      refine lv_iload_n hx hb dX12_mix_61 rfl (lv_at hl 1 rfl) ?_
      refine lv_iconst (v := 1) hx hb dX12_mix_62 (by decide) ?_
      refine lv_isub hx hb dX12_mix_63 ?_
      refine lv_icmp_ne (tgt := 71) hx hb dX12_mix_64 (by decide) (fun c_10 => ?_) (fun c_10 => ?_)
      · replace q := if_f c_10 q
        obtain ⟨x_11, e_x_11⟩ : ∃ y : Int32, y = x2 + 1 := ⟨_, rfl⟩
        replace q := nm_s q e_x_11
        refine lv_iinc (v := x_11) (lv' := [(2, .int x_11), (0, .ref a0), (1, .int x1)]) hx hb dX12_mix_71 hl (k := 2) rfl (by rw [e_x_11]; rfl) (by decide) rfl (fun ls hl => ?_)
        refine lv_goto (tgt := 28) hx hb dX12_mix_74 (by decide) ?_
        exact hk28 _ _ _ _ _ _ _ M ra0 (lv_sub hl [1, 2, 0] rfl) q
      · replace q := if_t c_10 q
        exact w_X12_mix_67 hx hb hml hr hlk hown hX hRf hRl (N := N) hk28 _ _ _ _ _ _ _ M ra0 (lv_sub hl [0, 1, 2] rfl) q
set_option maxRecDepth 100000 in
theorem l_X12_mix_28 (hx : p.tables.exec = Jvm.exec) (hb : c.code = cX12_mix) (hml : c.maxLocals = 3) (hr : meth.sig.returnType = none) (hlk : meth.locks = false) (hown : s.vm.findClass RX12 = some m.cls) (hX : Kx D cA lo tS s) (hRf : 2 ≤ R.frames) (hRl : 120 ≤ R.locals) {N : Nat} {rv : Unit} {g1 : Hg} {S : Hs} : ∀ (n : Nat), ∀ (H : Heap) (locs : List Loc) (ls : Array Slot) (g : Hg) (a0 : Nat) (x1 : Int32) (x2 : Int32), Mm D cA lo S g s H locs → Rf lo S a0 12 → lv_has ls 3 [(0, .ref a0), (1, .int x1), (2, .int x2)] → n_X12_mix_28 N S n g a0 x1 x2 = some (rv, g1) → W p l e R s m args below meth c H locs 0 0 (MQ below (Qcx D cA lo S none S g1 True) args s 0 0 (fun q : Nat => lo ≤ q)) (F0 m 28 ls []) := by
  intro n
  induction n with
  | zero =>
    intro H locs ls g a0 x1 x2 M ra0 hl q
    exact absurd q (by simp [n_X12_mix_28])
  | succ n ih => exact w_X12_mix_28 hx hb hml hr hlk hown hX hRf hRl (N := N)  ih
set_option maxHeartbeats 4000000 in
set_option maxRecDepth 100000 in
theorem w_X12_mix_2 (hx : p.tables.exec = Jvm.exec) (hb : c.code = cX12_mix) (hml : c.maxLocals = 3) (hr : meth.sig.returnType = none) (hlk : meth.locks = false) (hown : s.vm.findClass RX12 = some m.cls) (hX : Kx D cA lo tS s) (hRf : 2 ≤ R.frames) (hRl : 120 ≤ R.locals) {N : Nat} {rv : Unit} {g1 : Hg} {S : Hs} {k2 : Hg → Nat → Int32 → Int32 → Option (Unit × Hg)} (hk2 : ∀ (H : Heap) (locs : List Loc) (ls : Array Slot) (g : Hg) (a0 : Nat) (x1 : Int32) (x2 : Int32), Mm D cA lo S g s H locs → Rf lo S a0 12 → lv_has ls 3 [(0, .ref a0), (1, .int x1), (2, .int x2)] → k2 g a0 x1 x2 = some (rv, g1) → W p l e R s m args below meth c H locs 0 0 (MQ below (Qcx D cA lo S none S g1 True) args s 0 0 (fun q : Nat => lo ≤ q)) (F0 m 2 ls [])) : ∀ (H : Heap) (locs : List Loc) (ls : Array Slot) (g : Hg) (a0 : Nat) (x1 : Int32) (x2 : Int32), Mm D cA lo S g s H locs → Rf lo S a0 12 → lv_has ls 3 [(0, .ref a0), (1, .int x1), (2, .int x2)] → b_X12_mix_2 N S k2 g a0 x1 x2 = some (rv, g1) → W p l e R s m args below meth c H locs 0 0 (MQ below (Qcx D cA lo S none S g1 True) args s 0 0 (fun q : Nat => lo ≤ q)) (F0 m 2 ls []) := by
  intro H locs ls g a0 x1 x2 M ra0 hl q
  unfold b_X12_mix_2 at q
  refine lv_iload_n hx hb dX12_mix_2 rfl (lv_at hl 2 rfl) ?_
  refine lv_bipush (v := 8) hx hb dX12_mix_3 (by decide) ?_
  refine lv_icmp_ge (tgt := 26) hx hb dX12_mix_5 (by decide) (fun c_1 => ?_) (fun c_1 => ?_)
  · replace q := if_t c_1 q
    refine lv_iconst (v := 0) hx hb dX12_mix_26 (by decide) ?_
    refine lv_istore_n (lv' := [(2, .int (0 : Int32)), (0, .ref a0), (1, .int x1)]) hx hb dX12_mix_27 rfl hl (by decide) rfl (fun ls hl => ?_)
    exact l_X12_mix_28 hx hb hml hr hlk hown hX hRf hRl (N := N)  N _ _ _ _ _ _ _ M ra0 (lv_sub hl [1, 2, 0] rfl) q
  · replace q := if_f c_1 q
    refine lv_aload_n hx hb dX12_mix_8 rfl (lv_at hl 0 rfl) ?_
    replace q := nn_s q
    obtain ⟨a_2, e_a_2, q⟩ := q
    refine x_getR hx hb hown hX M e_a_2 okX12 ra0 (by decide) rfl kw_1056 dX12_mix_9 (fun ra_2 => ?_)
    refine lv_iload_n hx hb dX12_mix_12 rfl (lv_at hl 2 rfl) ?_
    refine lv_iload_n hx hb dX12_mix_13 rfl (lv_at hl 2 rfl) ?_
    refine lv_iconst (v := 1) hx hb dX12_mix_14 (by decide) ?_
    refine lv_iadd hx hb dX12_mix_15 ?_
    refine lv_ldc (v := 1640531527) hx hb hown (hX.hts _ _ (mw kw_1283 rfl)) dX12_mix_16 ?_
    refine lv_imul hx hb dX12_mix_18 ?_
    replace q := ck_s q
    obtain ⟨hin, q⟩ := q
    refine x_iast hx hb hX M ra_2 (inb_in hin) dX12_mix_19 (fun H locs M => ?_)
    replace q := gen_g M q
    obtain ⟨g_3, -, M, q⟩ := q
    obtain ⟨x_4, e_x_4⟩ : ∃ y : Int32, y = x2 + 1 := ⟨_, rfl⟩
    replace q := nm_s q e_x_4
    refine lv_iinc (v := x_4) (lv' := [(2, .int x_4), (0, .ref a0), (1, .int x1)]) hx hb dX12_mix_20 hl (k := 2) rfl (by rw [e_x_4]; rfl) (by decide) rfl (fun ls hl => ?_)
    refine lv_goto (tgt := 2) hx hb dX12_mix_23 (by decide) ?_
    exact hk2 _ _ _ _ _ _ _ M ra0 (lv_sub hl [1, 2, 0] rfl) q
set_option maxRecDepth 100000 in
theorem l_X12_mix_2 (hx : p.tables.exec = Jvm.exec) (hb : c.code = cX12_mix) (hml : c.maxLocals = 3) (hr : meth.sig.returnType = none) (hlk : meth.locks = false) (hown : s.vm.findClass RX12 = some m.cls) (hX : Kx D cA lo tS s) (hRf : 2 ≤ R.frames) (hRl : 120 ≤ R.locals) {N : Nat} {rv : Unit} {g1 : Hg} {S : Hs} : ∀ (n : Nat), ∀ (H : Heap) (locs : List Loc) (ls : Array Slot) (g : Hg) (a0 : Nat) (x1 : Int32) (x2 : Int32), Mm D cA lo S g s H locs → Rf lo S a0 12 → lv_has ls 3 [(0, .ref a0), (1, .int x1), (2, .int x2)] → n_X12_mix_2 N S n g a0 x1 x2 = some (rv, g1) → W p l e R s m args below meth c H locs 0 0 (MQ below (Qcx D cA lo S none S g1 True) args s 0 0 (fun q : Nat => lo ≤ q)) (F0 m 2 ls []) := by
  intro n
  induction n with
  | zero =>
    intro H locs ls g a0 x1 x2 M ra0 hl q
    exact absurd q (by simp [n_X12_mix_2])
  | succ n ih => exact w_X12_mix_2 hx hb hml hr hlk hown hX hRf hRl (N := N)  ih
set_option maxHeartbeats 4000000 in
set_option maxRecDepth 100000 in
theorem w_X12_mix_0 (hx : p.tables.exec = Jvm.exec) (hb : c.code = cX12_mix) (hml : c.maxLocals = 3) (hr : meth.sig.returnType = none) (hlk : meth.locks = false) (hown : s.vm.findClass RX12 = some m.cls) (hX : Kx D cA lo tS s) (hRf : 2 ≤ R.frames) (hRl : 120 ≤ R.locals) {N : Nat} {rv : Unit} {g1 : Hg} {S : Hs} : ∀ (H : Heap) (locs : List Loc) (ls : Array Slot) (g : Hg) (a0 : Nat) (x1 : Int32), Mm D cA lo S g s H locs → Rf lo S a0 12 → lv_has ls 3 [(0, .ref a0), (1, .int x1)] → b_X12_mix_0 N S g a0 x1 = some (rv, g1) → W p l e R s m args below meth c H locs 0 0 (MQ below (Qcx D cA lo S none S g1 True) args s 0 0 (fun q : Nat => lo ≤ q)) (F0 m 0 ls []) := by
  intro H locs ls g a0 x1 M ra0 hl q
  unfold b_X12_mix_0 at q
  refine lv_iconst (v := 0) hx hb dX12_mix_0 (by decide) ?_
  refine lv_istore_n (lv' := [(2, .int (0 : Int32)), (0, .ref a0), (1, .int x1)]) hx hb dX12_mix_1 rfl hl (by decide) rfl (fun ls hl => ?_)
  exact l_X12_mix_2 hx hb hml hr hlk hown hX hRf hRl (N := N)  N _ _ _ _ _ _ _ M ra0 (lv_sub hl [1, 2, 0] rfl) q
set_option maxRecDepth 100000 in
theorem c_X12_mix {l : Launch} {D : va_G} {cA : Nat → ClassId} {lo tS N : Nat} {S : Hs} {g g1 : Hg} {rv : Unit} {a0 : Nat} {x1 : Int32} (ra0 : Rf lo S a0 12) (q : f_X12_mix N S g a0 x1 = some (rv, g1)) {d : Nat} (hd : 2 ≤ d) : Ctr l yX12_mix cX12_mix 3 none D cA lo tS [.ref a0, .int x1] S g d none S g1 True 0 0 := by
  refine x_met (by decide) (Nat.le_of_ble_eq_true rfl) ?_
  intro p e s m below meth c ls hx hb hml hr hlk hown hnm hX M hl
  exact w_X12_mix_0 hx hb hml hr hlk hown hX hd (Nat.mul_le_mul_left 60 hd) (N := N) _ _ _ _ _ _ M ra0 (lv_sub hl [0, 1] rfl) q
def b_X12_join_10 (N : Nat) (S : Hs) (k10 : Hg → Nat → Nat → Int32 → Nat → Int32 → Nat → Int32 → Int32 → Option (Unit × Hg)) (g : Hg) (a0 : Nat) (a1 : Nat) (x2 : Int32) (a3 : Nat) (x4 : Int32) (a5 : Nat) (x6 : Int32) (x7 : Int32) : Option (Unit × Hg) :=
if (8 : Int32) ≤ x7 then (
c2 (f_X12_mix N S g a0 (17 : Int32)) (fun u_3 g_2 =>
c2 (f_X12_toRow N S g_2 a0 a5 x6) (fun u_5 g_4 =>
some ((), g_4)))) else (
nn (rdR g a0 43) (fun a_6 =>
ck (inb (x2 + x7) (hpL S a1)) (
ck (inb ((1 : Int32) + x7) (hpL S a_6)) (
nm (wrI g a_6 ((1 : Int32) + x7).toNatClampNeg (rdI g a1 (x2 + x7).toNatClampNeg)) (fun g_7 =>
nn (rdR g_7 a0 43) (fun a_8 =>
ck (inb (x4 + x7) (hpL S a3)) (
ck (inb ((9 : Int32) + x7) (hpL S a_8)) (
nm (wrI g_7 a_8 ((9 : Int32) + x7).toNatClampNeg (rdI g_7 a3 (x4 + x7).toNatClampNeg)) (fun g_9 =>
nm (x7 + 1) (fun x_10 =>
k10 g_9 a0 a1 x2 a3 x4 a5 x6 x_10))))))))))
def n_X12_join_10 (N : Nat) (S : Hs) : Nat → Hg → Nat → Nat → Int32 → Nat → Int32 → Nat → Int32 → Int32 → Option (Unit × Hg)
  | 0 => fun _ _ _ _ _ _ _ _ _ => none
  | n + 1 => fun g a0 a1 x2 a3 x4 a5 x6 x7 => b_X12_join_10 N S (n_X12_join_10 N S n) g a0 a1 x2 a3 x4 a5 x6 x7
def b_X12_join_0 (N : Nat) (S : Hs) (g : Hg) (a0 : Nat) (a1 : Nat) (x2 : Int32) (a3 : Nat) (x4 : Int32) (a5 : Nat) (x6 : Int32) : Option (Unit × Hg) :=
nn (rdR g a0 43) (fun a_1 =>
ck (inb (0 : Int32) (hpL S a_1)) (
nm (wrI g a_1 (0 : Int32).toNatClampNeg (2 : Int32)) (fun g_2 =>
n_X12_join_10 N S N g_2 a0 a1 x2 a3 x4 a5 x6 (0 : Int32))))
def f_X12_join (N : Nat) (S : Hs) (g : Hg) (a0 : Nat) (a1 : Nat) (x2 : Int32) (a3 : Nat) (x4 : Int32) (a5 : Nat) (x6 : Int32) : Option (Unit × Hg) := b_X12_join_0 N S g a0 a1 x2 a3 x4 a5 x6
set_option maxHeartbeats 4000000 in
set_option maxRecDepth 100000 in
theorem w_X12_join_10 (hx : p.tables.exec = Jvm.exec) (hb : c.code = cX12_join) (hml : c.maxLocals = 8) (hr : meth.sig.returnType = none) (hlk : meth.locks = false) (hown : s.vm.findClass RX12 = some m.cls) (hX : Kx D cA lo tS s) (hRf : 3 ≤ R.frames) (hRl : 180 ≤ R.locals) {N : Nat} {rv : Unit} {g1 : Hg} {S : Hs} {k10 : Hg → Nat → Nat → Int32 → Nat → Int32 → Nat → Int32 → Int32 → Option (Unit × Hg)} (hk10 : ∀ (H : Heap) (locs : List Loc) (ls : Array Slot) (g : Hg) (a0 : Nat) (a1 : Nat) (x2 : Int32) (a3 : Nat) (x4 : Int32) (a5 : Nat) (x6 : Int32) (x7 : Int32), Mm D cA lo S g s H locs → Rf lo S a0 12 → Rf lo S a1 20 → Rf lo S a3 20 → Rf lo S a5 20 → lv_has ls 8 [(0, .ref a0), (1, .ref a1), (2, .int x2), (3, .ref a3), (4, .int x4), (5, .ref a5), (6, .int x6), (7, .int x7)] → k10 g a0 a1 x2 a3 x4 a5 x6 x7 = some (rv, g1) → W p l e R s m args below meth c H locs 0 0 (MQ below (Qcx D cA lo S none S g1 True) args s 0 0 (fun q : Nat => lo ≤ q)) (F0 m 10 ls [])) : ∀ (H : Heap) (locs : List Loc) (ls : Array Slot) (g : Hg) (a0 : Nat) (a1 : Nat) (x2 : Int32) (a3 : Nat) (x4 : Int32) (a5 : Nat) (x6 : Int32) (x7 : Int32), Mm D cA lo S g s H locs → Rf lo S a0 12 → Rf lo S a1 20 → Rf lo S a3 20 → Rf lo S a5 20 → lv_has ls 8 [(0, .ref a0), (1, .ref a1), (2, .int x2), (3, .ref a3), (4, .int x4), (5, .ref a5), (6, .int x6), (7, .int x7)] → b_X12_join_10 N S k10 g a0 a1 x2 a3 x4 a5 x6 x7 = some (rv, g1) → W p l e R s m args below meth c H locs 0 0 (MQ below (Qcx D cA lo S none S g1 True) args s 0 0 (fun q : Nat => lo ≤ q)) (F0 m 10 ls []) := by
  intro H locs ls g a0 a1 x2 a3 x4 a5 x6 x7 M ra0 ra1 ra3 ra5 hl q
  unfold b_X12_join_10 at q
  refine lv_iload hx hb dX12_join_10 (lv_at hl 7 rfl) ?_
  refine lv_bipush (v := 8) hx hb dX12_join_12 (by decide) ?_
  refine lv_icmp_ge (tgt := 55) hx hb dX12_join_14 (by decide) (fun c_1 => ?_) (fun c_1 => ?_)
  · replace q := if_t c_1 q
    refine lv_aload_n hx hb dX12_join_55 rfl (lv_at hl 0 rfl) ?_
    refine lv_bipush (v := 17) hx hb dX12_join_56 (by decide) ?_
    replace q := c2_s q
    obtain ⟨u_3, g_2, qc, q⟩ := q
    refine x_callV hx hb hml hl.1 hown hX M (S1 := S) (As := [.int (17 : Int32)]) (rest := []) okX12 ra0 rfl kw_1281 kw_23 mok_X12_mix (c_X12_mix ra0 qc (Nat.le_refl 2)) kw_1279 rfl rfl dX12_join_58 (Nat.le_of_ble_eq_true rfl) ⟨Nat.le_trans (by decide) hRf, Nat.le_trans (by decide) hRl⟩ (Nat.zero_le _) (Nat.zero_le _) (fun H locs M hEF => ?_)
    refine lv_aload_n hx hb dX12_join_61 rfl (lv_at hl 0 rfl) ?_
    refine lv_aload hx hb dX12_join_62 (lv_at hl 5 rfl) ?_
    refine lv_iload hx hb dX12_join_64 (lv_at hl 6 rfl) ?_
    replace q := c2_s q
    obtain ⟨u_5, g_4, qc, q⟩ := q
    refine x_callV hx hb hml hl.1 hown hX M (S1 := S) (As := [.ref a5, .int x6]) (rest := []) okX12 ra0 rfl kw_1290 kw_25 mok_X12_toRow (c_X12_toRow ra0 ra5 qc (Nat.le_refl 1)) kw_1288 rfl rfl dX12_join_66 (Nat.le_of_ble_eq_true rfl) ⟨Nat.le_trans (by decide) hRf, Nat.le_trans (by decide) hRl⟩ (Nat.zero_le _) (Nat.zero_le _) (fun H locs M hEF => ?_)
    cases q
    exact x_vret hx hb hr hlk M Ext.rf dX12_join_69
  · replace q := if_f c_1 q
    refine lv_aload_n hx hb dX12_join_17 rfl (lv_at hl 0 rfl) ?_
    replace q := nn_s q
    obtain ⟨a_6, e_a_6, q⟩ := q
    refine x_getR hx hb hown hX M e_a_6 okX12 ra0 (by decide) rfl kw_1055 dX12_join_18 (fun ra_6 => ?_)
    refine lv_iconst (v := 1) hx hb dX12_join_21 (by decide) ?_
    refine lv_iload hx hb dX12_join_22 (lv_at hl 7 rfl) ?_
    refine lv_iadd hx hb dX12_join_24 ?_
    refine lv_aload_n hx hb dX12_join_25 rfl (lv_at hl 1 rfl) ?_
    refine lv_iload_n hx hb dX12_join_26 rfl (lv_at hl 2 rfl) ?_
    refine lv_iload hx hb dX12_join_27 (lv_at hl 7 rfl) ?_
    refine lv_iadd hx hb dX12_join_29 ?_
    replace q := ck_s q
    obtain ⟨hin, q⟩ := q
    refine x_iald hx hb hX M ra1 (inb_in hin) dX12_join_30 ?_
    replace q := ck_s q
    obtain ⟨hin, q⟩ := q
    refine x_iast hx hb hX M ra_6 (inb_in hin) dX12_join_31 (fun H locs M => ?_)
    replace q := gen_g M q
    obtain ⟨g_7, -, M, q⟩ := q
    refine lv_aload_n hx hb dX12_join_32 rfl (lv_at hl 0 rfl) ?_
    replace q := nn_s q
    obtain ⟨a_8, e_a_8, q⟩ := q
    refine x_getR hx hb hown hX M e_a_8 okX12 ra0 (by decide) rfl kw_1055 dX12_join_33 (fun ra_8 => ?_)
    refine lv_bipush (v := 9) hx hb dX12_join_36 (by decide) ?_
    refine lv_iload hx hb dX12_join_38 (lv_at hl 7 rfl) ?_
    refine lv_iadd hx hb dX12_join_40 ?_
    refine lv_aload_n hx hb dX12_join_41 rfl (lv_at hl 3 rfl) ?_
    refine lv_iload hx hb dX12_join_42 (lv_at hl 4 rfl) ?_
    refine lv_iload hx hb dX12_join_44 (lv_at hl 7 rfl) ?_
    refine lv_iadd hx hb dX12_join_46 ?_
    replace q := ck_s q
    obtain ⟨hin, q⟩ := q
    refine x_iald hx hb hX M ra3 (inb_in hin) dX12_join_47 ?_
    replace q := ck_s q
    obtain ⟨hin, q⟩ := q
    refine x_iast hx hb hX M ra_8 (inb_in hin) dX12_join_48 (fun H locs M => ?_)
    replace q := gen_g M q
    obtain ⟨g_9, -, M, q⟩ := q
    obtain ⟨x_10, e_x_10⟩ : ∃ y : Int32, y = x7 + 1 := ⟨_, rfl⟩
    replace q := nm_s q e_x_10
    refine lv_iinc (v := x_10) (lv' := [(7, .int x_10), (0, .ref a0), (1, .ref a1), (2, .int x2), (3, .ref a3), (4, .int x4), (5, .ref a5), (6, .int x6)]) hx hb dX12_join_49 hl (k := 7) rfl (by rw [e_x_10]; rfl) (by decide) rfl (fun ls hl => ?_)
    refine lv_goto (tgt := 10) hx hb dX12_join_52 (by decide) ?_
    exact hk10 _ _ _ _ _ _ _ _ _ _ _ _ M ra0 ra1 ra3 ra5 (lv_sub hl [1, 2, 3, 4, 5, 6, 7, 0] rfl) q
set_option maxRecDepth 100000 in
theorem l_X12_join_10 (hx : p.tables.exec = Jvm.exec) (hb : c.code = cX12_join) (hml : c.maxLocals = 8) (hr : meth.sig.returnType = none) (hlk : meth.locks = false) (hown : s.vm.findClass RX12 = some m.cls) (hX : Kx D cA lo tS s) (hRf : 3 ≤ R.frames) (hRl : 180 ≤ R.locals) {N : Nat} {rv : Unit} {g1 : Hg} {S : Hs} : ∀ (n : Nat), ∀ (H : Heap) (locs : List Loc) (ls : Array Slot) (g : Hg) (a0 : Nat) (a1 : Nat) (x2 : Int32) (a3 : Nat) (x4 : Int32) (a5 : Nat) (x6 : Int32) (x7 : Int32), Mm D cA lo S g s H locs → Rf lo S a0 12 → Rf lo S a1 20 → Rf lo S a3 20 → Rf lo S a5 20 → lv_has ls 8 [(0, .ref a0), (1, .ref a1), (2, .int x2), (3, .ref a3), (4, .int x4), (5, .ref a5), (6, .int x6), (7, .int x7)] → n_X12_join_10 N S n g a0 a1 x2 a3 x4 a5 x6 x7 = some (rv, g1) → W p l e R s m args below meth c H locs 0 0 (MQ below (Qcx D cA lo S none S g1 True) args s 0 0 (fun q : Nat => lo ≤ q)) (F0 m 10 ls []) := by
  intro n
  induction n with
  | zero =>
    intro H locs ls g a0 a1 x2 a3 x4 a5 x6 x7 M ra0 ra1 ra3 ra5 hl q
    exact absurd q (by simp [n_X12_join_10])
  | succ n ih => exact w_X12_join_10 hx hb hml hr hlk hown hX hRf hRl (N := N)  ih
set_option maxHeartbeats 4000000 in
set_option maxRecDepth 100000 in
theorem w_X12_join_0 (hx : p.tables.exec = Jvm.exec) (hb : c.code = cX12_join) (hml : c.maxLocals = 8) (hr : meth.sig.returnType = none) (hlk : meth.locks = false) (hown : s.vm.findClass RX12 = some m.cls) (hX : Kx D cA lo tS s) (hRf : 3 ≤ R.frames) (hRl : 180 ≤ R.locals) {N : Nat} {rv : Unit} {g1 : Hg} {S : Hs} : ∀ (H : Heap) (locs : List Loc) (ls : Array Slot) (g : Hg) (a0 : Nat) (a1 : Nat) (x2 : Int32) (a3 : Nat) (x4 : Int32) (a5 : Nat) (x6 : Int32), Mm D cA lo S g s H locs → Rf lo S a0 12 → Rf lo S a1 20 → Rf lo S a3 20 → Rf lo S a5 20 → lv_has ls 8 [(0, .ref a0), (1, .ref a1), (2, .int x2), (3, .ref a3), (4, .int x4), (5, .ref a5), (6, .int x6)] → b_X12_join_0 N S g a0 a1 x2 a3 x4 a5 x6 = some (rv, g1) → W p l e R s m args below meth c H locs 0 0 (MQ below (Qcx D cA lo S none S g1 True) args s 0 0 (fun q : Nat => lo ≤ q)) (F0 m 0 ls []) := by
  intro H locs ls g a0 a1 x2 a3 x4 a5 x6 M ra0 ra1 ra3 ra5 hl q
  unfold b_X12_join_0 at q
  refine lv_aload_n hx hb dX12_join_0 rfl (lv_at hl 0 rfl) ?_
  replace q := nn_s q
  obtain ⟨a_1, e_a_1, q⟩ := q
  refine x_getR hx hb hown hX M e_a_1 okX12 ra0 (by decide) rfl kw_1055 dX12_join_1 (fun ra_1 => ?_)
  refine lv_iconst (v := 0) hx hb dX12_join_4 (by decide) ?_
  refine lv_iconst (v := 2) hx hb dX12_join_5 (by decide) ?_
  replace q := ck_s q
  obtain ⟨hin, q⟩ := q
  refine x_iast hx hb hX M ra_1 (inb_in hin) dX12_join_6 (fun H locs M => ?_)
  replace q := gen_g M q
  obtain ⟨g_2, -, M, q⟩ := q
  refine lv_iconst (v := 0) hx hb dX12_join_7 (by decide) ?_
  refine lv_istore (lv' := [(7, .int (0 : Int32)), (0, .ref a0), (1, .ref a1), (2, .int x2), (3, .ref a3), (4, .int x4), (5, .ref a5), (6, .int x6)]) hx hb dX12_join_8 hl (by decide) rfl (fun ls hl => ?_)
  exact l_X12_join_10 hx hb hml hr hlk hown hX hRf hRl (N := N)  N _ _ _ _ _ _ _ _ _ _ _ _ M ra0 ra1 ra3 ra5 (lv_sub hl [1, 2, 3, 4, 5, 6, 7, 0] rfl) q
set_option maxRecDepth 100000 in
theorem c_X12_join {l : Launch} {D : va_G} {cA : Nat → ClassId} {lo tS N : Nat} {S : Hs} {g g1 : Hg} {rv : Unit} {a0 : Nat} {a1 : Nat} {x2 : Int32} {a3 : Nat} {x4 : Int32} {a5 : Nat} {x6 : Int32} (ra0 : Rf lo S a0 12) (ra1 : Rf lo S a1 20) (ra3 : Rf lo S a3 20) (ra5 : Rf lo S a5 20) (q : f_X12_join N S g a0 a1 x2 a3 x4 a5 x6 = some (rv, g1)) {d : Nat} (hd : 3 ≤ d) : Ctr l yX12_join cX12_join 8 none D cA lo tS [.ref a0, .ref a1, .int x2, .ref a3, .int x4, .ref a5, .int x6] S g d none S g1 True 0 0 := by
  refine x_met (by decide) (Nat.le_of_ble_eq_true rfl) ?_
  intro p e s m below meth c ls hx hb hml hr hlk hown hnm hX M hl
  exact w_X12_join_0 hx hb hml hr hlk hown hX hd (Nat.mul_le_mul_left 60 hd) (N := N) _ _ _ _ _ _ _ _ _ _ _ M ra0 ra1 ra3 ra5 (lv_sub hl [0, 1, 2, 3, 4, 5, 6] rfl) q
def b_X12_leaf_0 (N : Nat) (S : Hs) (g : Hg) (a0 : Nat) (x1 : Int32) (x2 : Int32) : Option (Unit × Hg) :=
nn (rdR g a0 43) (fun a_1 =>
ck (inb (0 : Int32) (hpL S a_1)) (
nm (wrI g a_1 (0 : Int32).toNatClampNeg (5 : Int32)) (fun g_2 =>
nn (rdR g_2 a0 43) (fun a_3 =>
ck (inb (1 : Int32) (hpL S a_3)) (
nm (wrI g_2 a_3 (1 : Int32).toNatClampNeg x1) (fun g_4 =>
nn (rdR g_4 a0 43) (fun a_5 =>
ck (inb (2 : Int32) (hpL S a_5)) (
nm (wrI g_4 a_5 (2 : Int32).toNatClampNeg x2) (fun g_6 =>
c2 (f_X12_mix N S g_6 a0 (3 : Int32)) (fun u_8 g_7 =>
some ((), g_7)))))))))))
def f_X12_leaf (N : Nat) (S : Hs) (g : Hg) (a0 : Nat) (x1 : Int32) (x2 : Int32) : Option (Unit × Hg) := b_X12_leaf_0 N S g a0 x1 x2
set_option maxHeartbeats 4000000 in
set_option maxRecDepth 100000 in
theorem w_X12_leaf_0 (hx : p.tables.exec = Jvm.exec) (hb : c.code = cX12_leaf) (hml : c.maxLocals = 3) (hr : meth.sig.returnType = none) (hlk : meth.locks = false) (hown : s.vm.findClass RX12 = some m.cls) (hX : Kx D cA lo tS s) (hRf : 3 ≤ R.frames) (hRl : 180 ≤ R.locals) {N : Nat} {rv : Unit} {g1 : Hg} {S : Hs} : ∀ (H : Heap) (locs : List Loc) (ls : Array Slot) (g : Hg) (a0 : Nat) (x1 : Int32) (x2 : Int32), Mm D cA lo S g s H locs → Rf lo S a0 12 → lv_has ls 3 [(0, .ref a0), (1, .int x1), (2, .int x2)] → b_X12_leaf_0 N S g a0 x1 x2 = some (rv, g1) → W p l e R s m args below meth c H locs 0 0 (MQ below (Qcx D cA lo S none S g1 True) args s 0 0 (fun q : Nat => lo ≤ q)) (F0 m 0 ls []) := by
  intro H locs ls g a0 x1 x2 M ra0 hl q
  unfold b_X12_leaf_0 at q
  refine lv_aload_n hx hb dX12_leaf_0 rfl (lv_at hl 0 rfl) ?_
  replace q := nn_s q
  obtain ⟨a_1, e_a_1, q⟩ := q
  refine x_getR hx hb hown hX M e_a_1 okX12 ra0 (by decide) rfl kw_1055 dX12_leaf_1 (fun ra_1 => ?_)
  refine lv_iconst (v := 0) hx hb dX12_leaf_4 (by decide) ?_
  refine lv_iconst (v := 5) hx hb dX12_leaf_5 (by decide) ?_
  replace q := ck_s q
  obtain ⟨hin, q⟩ := q
  refine x_iast hx hb hX M ra_1 (inb_in hin) dX12_leaf_6 (fun H locs M => ?_)
  replace q := gen_g M q
  obtain ⟨g_2, -, M, q⟩ := q
  refine lv_aload_n hx hb dX12_leaf_7 rfl (lv_at hl 0 rfl) ?_
  replace q := nn_s q
  obtain ⟨a_3, e_a_3, q⟩ := q
  refine x_getR hx hb hown hX M e_a_3 okX12 ra0 (by decide) rfl kw_1055 dX12_leaf_8 (fun ra_3 => ?_)
  refine lv_iconst (v := 1) hx hb dX12_leaf_11 (by decide) ?_
  refine lv_iload_n hx hb dX12_leaf_12 rfl (lv_at hl 1 rfl) ?_
  replace q := ck_s q
  obtain ⟨hin, q⟩ := q
  refine x_iast hx hb hX M ra_3 (inb_in hin) dX12_leaf_13 (fun H locs M => ?_)
  replace q := gen_g M q
  obtain ⟨g_4, -, M, q⟩ := q
  refine lv_aload_n hx hb dX12_leaf_14 rfl (lv_at hl 0 rfl) ?_
  replace q := nn_s q
  obtain ⟨a_5, e_a_5, q⟩ := q
  refine x_getR hx hb hown hX M e_a_5 okX12 ra0 (by decide) rfl kw_1055 dX12_leaf_15 (fun ra_5 => ?_)
  refine lv_iconst (v := 2) hx hb dX12_leaf_18 (by decide) ?_
  refine lv_iload_n hx hb dX12_leaf_19 rfl (lv_at hl 2 rfl) ?_
  replace q := ck_s q
  obtain ⟨hin, q⟩ := q
  refine x_iast hx hb hX M ra_5 (inb_in hin) dX12_leaf_20 (fun H locs M => ?_)
  replace q := gen_g M q
  obtain ⟨g_6, -, M, q⟩ := q
  refine lv_aload_n hx hb dX12_leaf_21 rfl (lv_at hl 0 rfl) ?_
  refine lv_iconst (v := 3) hx hb dX12_leaf_22 (by decide) ?_
  replace q := c2_s q
  obtain ⟨u_8, g_7, qc, q⟩ := q
  refine x_callV hx hb hml hl.1 hown hX M (S1 := S) (As := [.int (3 : Int32)]) (rest := []) okX12 ra0 rfl kw_1281 kw_23 mok_X12_mix (c_X12_mix ra0 qc (Nat.le_refl 2)) kw_1279 rfl rfl dX12_leaf_23 (Nat.le_of_ble_eq_true rfl) ⟨Nat.le_trans (by decide) hRf, Nat.le_trans (by decide) hRl⟩ (Nat.zero_le _) (Nat.zero_le _) (fun H locs M hEF => ?_)
  cases q
  exact x_vret hx hb hr hlk M Ext.rf dX12_leaf_26
set_option maxRecDepth 100000 in
theorem c_X12_leaf {l : Launch} {D : va_G} {cA : Nat → ClassId} {lo tS N : Nat} {S : Hs} {g g1 : Hg} {rv : Unit} {a0 : Nat} {x1 : Int32} {x2 : Int32} (ra0 : Rf lo S a0 12) (q : f_X12_leaf N S g a0 x1 x2 = some (rv, g1)) {d : Nat} (hd : 3 ≤ d) : Ctr l yX12_leaf cX12_leaf 3 none D cA lo tS [.ref a0, .int x1, .int x2] S g d none S g1 True 0 0 := by
  refine x_met (by decide) (Nat.le_of_ble_eq_true rfl) ?_
  intro p e s m below meth c ls hx hb hml hr hlk hown hnm hX M hl
  exact w_X12_leaf_0 hx hb hml hr hlk hown hX hd (Nat.mul_le_mul_left 60 hd) (N := N) _ _ _ _ _ _ _ M ra0 (lv_sub hl [0, 1, 2] rfl) q
end W11
