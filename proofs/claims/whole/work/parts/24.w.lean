section W4
variable {p : Program} {l : Launch} {e : Env} {R : Room} {s : State} {m : MethodId} {args : Array Value} {below : List Frame} {meth : Method} {c : Code} {D : va_G} {cA : Nat → ClassId} {lo tS : Nat}
def b_X5_copyUpTo_7 (N : Nat) (S : Hs) (k7 : Hg → Nat → Nat → Int32 → Int32 → Option (Unit × Hg)) (g : Hg) (a0 : Nat) (a1 : Nat) (x2 : Int32) (x3 : Int32) : Option (Unit × Hg) :=
if (rdI g a1 3) ≤ x3 then (
some ((), g)) else (
nn (rdR g a1 1) (fun a_2 =>
ck (inb x3 (hpL S a_2)) (
if x2 < (rdI g a_2 x3.toNatClampNeg) then (
nm (x3 + 1) (fun x_4 =>
k7 g a0 a1 x2 x_4)) else (
nn (rdR g a0 0) (fun a_5 =>
nn (rdR g a1 0) (fun a_6 =>
ck (inb x3 (hpL S a_6)) (
ck (inb (rdI g a0 3) (hpL S a_5)) (
nm (wrI g a_5 (rdI g a0 3).toNatClampNeg (rdI g a_6 x3.toNatClampNeg)) (fun g_7 =>
nn (rdR g_7 a0 1) (fun a_8 =>
nn (rdR g_7 a1 1) (fun a_9 =>
ck (inb x3 (hpL S a_9)) (
ck (inb (rdI g_7 a0 3) (hpL S a_8)) (
nm (wrI g_7 a_8 (rdI g_7 a0 3).toNatClampNeg (rdI g_7 a_9 x3.toNatClampNeg)) (fun g_10 =>
nn (rdR g_10 a0 2) (fun a_11 =>
nn (rdR g_10 a1 2) (fun a_12 =>
ck (inb x3 (hpL S a_12)) (
ck (inb (rdI g_10 a0 3) (hpL S a_11)) (
ck (zb (rdI g_10 a_12 x3.toNatClampNeg)) (
nm (wrI g_10 a_11 (rdI g_10 a0 3).toNatClampNeg (rdI g_10 a_12 x3.toNatClampNeg)) (fun g_13 =>
nm (wrI g_13 a0 3 ((rdI g_13 a0 3) + (1 : Int32))) (fun g_14 =>
nm (x3 + 1) (fun x_15 =>
k7 g_14 a0 a1 x2 x_15))))))))))))))))))))))
def n_X5_copyUpTo_7 (N : Nat) (S : Hs) : Nat → Hg → Nat → Nat → Int32 → Int32 → Option (Unit × Hg)
  | 0 => fun _ _ _ _ _ => none
  | n + 1 => fun g a0 a1 x2 x3 => b_X5_copyUpTo_7 N S (n_X5_copyUpTo_7 N S n) g a0 a1 x2 x3
def b_X5_copyUpTo_0 (N : Nat) (S : Hs) (g : Hg) (a0 : Nat) (a1 : Nat) (x2 : Int32) : Option (Unit × Hg) :=
nm (wrI g a0 3 (0 : Int32)) (fun g_1 =>
n_X5_copyUpTo_7 N S N g_1 a0 a1 x2 (0 : Int32))
def f_X5_copyUpTo (N : Nat) (S : Hs) (g : Hg) (a0 : Nat) (a1 : Nat) (x2 : Int32) : Option (Unit × Hg) := b_X5_copyUpTo_0 N S g a0 a1 x2
set_option maxHeartbeats 4000000 in
set_option maxRecDepth 100000 in
theorem w_X5_copyUpTo_7 (hx : p.tables.exec = Jvm.exec) (hb : c.code = cX5_copyUpTo) (hml : c.maxLocals = 4) (hr : meth.sig.returnType = none) (hlk : meth.locks = false) (hown : s.vm.findClass RX5 = some m.cls) (hX : Kx D cA lo tS s) (hRf : 1 ≤ R.frames) (hRl : 60 ≤ R.locals) {N : Nat} {rv : Unit} {g1 : Hg} {S : Hs} {k7 : Hg → Nat → Nat → Int32 → Int32 → Option (Unit × Hg)} (hk7 : ∀ (H : Heap) (locs : List Loc) (ls : Array Slot) (g : Hg) (a0 : Nat) (a1 : Nat) (x2 : Int32) (x3 : Int32), Mm D cA lo S g s H locs → Rf lo S a0 5 → Rf lo S a1 5 → lv_has ls 4 [(0, .ref a0), (1, .ref a1), (2, .int x2), (3, .int x3)] → k7 g a0 a1 x2 x3 = some (rv, g1) → W p l e R s m args below meth c H locs 0 0 (MQ below (Qcx D cA lo S none S g1 True) args s 0 0 (fun q : Nat => lo ≤ q)) (F0 m 7 ls [])) : ∀ (H : Heap) (locs : List Loc) (ls : Array Slot) (g : Hg) (a0 : Nat) (a1 : Nat) (x2 : Int32) (x3 : Int32), Mm D cA lo S g s H locs → Rf lo S a0 5 → Rf lo S a1 5 → lv_has ls 4 [(0, .ref a0), (1, .ref a1), (2, .int x2), (3, .int x3)] → b_X5_copyUpTo_7 N S k7 g a0 a1 x2 x3 = some (rv, g1) → W p l e R s m args below meth c H locs 0 0 (MQ below (Qcx D cA lo S none S g1 True) args s 0 0 (fun q : Nat => lo ≤ q)) (F0 m 7 ls []) := by
  intro H locs ls g a0 a1 x2 x3 M ra0 ra1 hl q
  unfold b_X5_copyUpTo_7 at q
  refine lv_iload_n hx hb dX5_copyUpTo_7 rfl (lv_at hl 3 rfl) ?_
  refine lv_aload_n hx hb dX5_copyUpTo_8 rfl (lv_at hl 1 rfl) ?_
  refine x_getI hx hb hown hX M (k := 3) okX5 ra1 (by decide) rfl kw_427 dX5_copyUpTo_9 ?_
  refine lv_icmp_ge (tgt := 86) hx hb dX5_copyUpTo_12 (by decide) (fun c_1 => ?_) (fun c_1 => ?_)
  · replace q := if_t c_1 q
    cases q
    exact x_vret hx hb hr hlk M Ext.rf dX5_copyUpTo_86
  · replace q := if_f c_1 q
    refine lv_aload_n hx hb dX5_copyUpTo_15 rfl (lv_at hl 1 rfl) ?_
    replace q := nn_s q
    obtain ⟨a_2, e_a_2, q⟩ := q
    refine x_getR hx hb hown hX M e_a_2 okX5 ra1 (by decide) rfl kw_423 dX5_copyUpTo_16 (fun ra_2 => ?_)
    refine lv_iload_n hx hb dX5_copyUpTo_19 rfl (lv_at hl 3 rfl) ?_
    replace q := ck_s q
    obtain ⟨hin, q⟩ := q
    refine x_iald hx hb hX M ra_2 (inb_in hin) dX5_copyUpTo_20 ?_
    refine lv_iload_n hx hb dX5_copyUpTo_21 rfl (lv_at hl 2 rfl) ?_
    refine lv_icmp_gt (tgt := 80) hx hb dX5_copyUpTo_22 (by decide) (fun c_3 => ?_) (fun c_3 => ?_)
    · replace q := if_t c_3 q
      obtain ⟨x_4, e_x_4⟩ : ∃ y : Int32, y = x3 + 1 := ⟨_, rfl⟩
      replace q := nm_s q e_x_4
      refine lv_iinc (v := x_4) (lv' := [(3, .int x_4), (0, .ref a0), (1, .ref a1), (2, .int x2)]) hx hb dX5_copyUpTo_80 hl (k := 3) rfl (by rw [e_x_4]; rfl) (by decide) rfl (fun ls hl => ?_)
      refine lv_goto (tgt := 7) hx hb dX5_copyUpTo_83 (by decide) ?_
      exact hk7 _ _ _ _ _ _ _ _ M ra0 ra1 (lv_sub hl [1, 2, 3, 0] rfl) q
    · replace q := if_f c_3 q
      refine lv_aload_n hx hb dX5_copyUpTo_25 rfl (lv_at hl 0 rfl) ?_
      replace q := nn_s q
      obtain ⟨a_5, e_a_5, q⟩ := q
      refine x_getR hx hb hown hX M e_a_5 okX5 ra0 (by decide) rfl kw_421 dX5_copyUpTo_26 (fun ra_5 => ?_)
      refine lv_aload_n hx hb dX5_copyUpTo_29 rfl (lv_at hl 0 rfl) ?_
      refine x_getI hx hb hown hX M (k := 3) okX5 ra0 (by decide) rfl kw_427 dX5_copyUpTo_30 ?_
      refine lv_aload_n hx hb dX5_copyUpTo_33 rfl (lv_at hl 1 rfl) ?_
      replace q := nn_s q
      obtain ⟨a_6, e_a_6, q⟩ := q
      refine x_getR hx hb hown hX M e_a_6 okX5 ra1 (by decide) rfl kw_421 dX5_copyUpTo_34 (fun ra_6 => ?_)
      refine lv_iload_n hx hb dX5_copyUpTo_37 rfl (lv_at hl 3 rfl) ?_
      replace q := ck_s q
      obtain ⟨hin, q⟩ := q
      refine x_iald hx hb hX M ra_6 (inb_in hin) dX5_copyUpTo_38 ?_
      replace q := ck_s q
      obtain ⟨hin, q⟩ := q
      refine x_iast hx hb hX M ra_5 (inb_in hin) dX5_copyUpTo_39 (fun H locs M => ?_)
      replace q := gen_g M q
      obtain ⟨g_7, -, M, q⟩ := q
      refine lv_aload_n hx hb dX5_copyUpTo_40 rfl (lv_at hl 0 rfl) ?_
      replace q := nn_s q
      obtain ⟨a_8, e_a_8, q⟩ := q
      refine x_getR hx hb hown hX M e_a_8 okX5 ra0 (by decide) rfl kw_423 dX5_copyUpTo_41 (fun ra_8 => ?_)
      refine lv_aload_n hx hb dX5_copyUpTo_44 rfl (lv_at hl 0 rfl) ?_
      refine x_getI hx hb hown hX M (k := 3) okX5 ra0 (by decide) rfl kw_427 dX5_copyUpTo_45 ?_
      refine lv_aload_n hx hb dX5_copyUpTo_48 rfl (lv_at hl 1 rfl) ?_
      replace q := nn_s q
      obtain ⟨a_9, e_a_9, q⟩ := q
      refine x_getR hx hb hown hX M e_a_9 okX5 ra1 (by decide) rfl kw_423 dX5_copyUpTo_49 (fun ra_9 => ?_)
      refine lv_iload_n hx hb dX5_copyUpTo_52 rfl (lv_at hl 3 rfl) ?_
      replace q := ck_s q
      obtain ⟨hin, q⟩ := q
      refine x_iald hx hb hX M ra_9 (inb_in hin) dX5_copyUpTo_53 ?_
      replace q := ck_s q
      obtain ⟨hin, q⟩ := q
      refine x_iast hx hb hX M ra_8 (inb_in hin) dX5_copyUpTo_54 (fun H locs M => ?_)
      replace q := gen_g M q
      obtain ⟨g_10, -, M, q⟩ := q
      refine lv_aload_n hx hb dX5_copyUpTo_55 rfl (lv_at hl 0 rfl) ?_
      replace q := nn_s q
      obtain ⟨a_11, e_a_11, q⟩ := q
      refine x_getR hx hb hown hX M e_a_11 okX5 ra0 (by decide) rfl kw_425 dX5_copyUpTo_56 (fun ra_11 => ?_)
      refine lv_aload_n hx hb dX5_copyUpTo_59 rfl (lv_at hl 0 rfl) ?_
      refine x_getI hx hb hown hX M (k := 3) okX5 ra0 (by decide) rfl kw_427 dX5_copyUpTo_60 ?_
      refine lv_aload_n hx hb dX5_copyUpTo_63 rfl (lv_at hl 1 rfl) ?_
      replace q := nn_s q
      obtain ⟨a_12, e_a_12, q⟩ := q
      refine x_getR hx hb hown hX M e_a_12 okX5 ra1 (by decide) rfl kw_425 dX5_copyUpTo_64 (fun ra_12 => ?_)
      refine lv_iload_n hx hb dX5_copyUpTo_67 rfl (lv_at hl 3 rfl) ?_
      replace q := ck_s q
      obtain ⟨hin, q⟩ := q
      refine x_zald hx hb hX M ra_12 (inb_in hin) dX5_copyUpTo_68 ?_
      replace q := ck_s q
      obtain ⟨hin, q⟩ := q
      replace q := ck_s q
      obtain ⟨hz, q⟩ := q
      refine x_zast hx hb hX M ra_11 (zb_nar hz) (inb_in hin) dX5_copyUpTo_69 (fun H locs M => ?_)
      replace q := gen_g M q
      obtain ⟨g_13, -, M, q⟩ := q
      refine lv_aload_n hx hb dX5_copyUpTo_70 rfl (lv_at hl 0 rfl) ?_
      refine lv_dup hx hb dX5_copyUpTo_71 rfl ?_
      refine x_getI hx hb hown hX M (k := 3) okX5 ra0 (by decide) rfl kw_427 dX5_copyUpTo_72 ?_
      refine lv_iconst (v := 1) hx hb dX5_copyUpTo_75 (by decide) ?_
      refine lv_iadd hx hb dX5_copyUpTo_76 ?_
      refine x_putI hx hb hown hX M (k := 3) okX5 ra0 (by decide) rfl (Or.inl rfl) rfl rfl kw_427 dX5_copyUpTo_77 (fun H locs M => ?_)
      replace q := gen_g M q
      obtain ⟨g_14, -, M, q⟩ := q
      obtain ⟨x_15, e_x_15⟩ : ∃ y : Int32, y = x3 + 1 := ⟨_, rfl⟩
      replace q := nm_s q e_x_15
      refine lv_iinc (v := x_15) (lv' := [(3, .int x_15), (0, .ref a0), (1, .ref a1), (2, .int x2)]) hx hb dX5_copyUpTo_80 hl (k := 3) rfl (by rw [e_x_15]; rfl) (by decide) rfl (fun ls hl => ?_)
      refine lv_goto (tgt := 7) hx hb dX5_copyUpTo_83 (by decide) ?_
      exact hk7 _ _ _ _ _ _ _ _ M ra0 ra1 (lv_sub hl [1, 2, 3, 0] rfl) q
set_option maxRecDepth 100000 in
theorem l_X5_copyUpTo_7 (hx : p.tables.exec = Jvm.exec) (hb : c.code = cX5_copyUpTo) (hml : c.maxLocals = 4) (hr : meth.sig.returnType = none) (hlk : meth.locks = false) (hown : s.vm.findClass RX5 = some m.cls) (hX : Kx D cA lo tS s) (hRf : 1 ≤ R.frames) (hRl : 60 ≤ R.locals) {N : Nat} {rv : Unit} {g1 : Hg} {S : Hs} : ∀ (n : Nat), ∀ (H : Heap) (locs : List Loc) (ls : Array Slot) (g : Hg) (a0 : Nat) (a1 : Nat) (x2 : Int32) (x3 : Int32), Mm D cA lo S g s H locs → Rf lo S a0 5 → Rf lo S a1 5 → lv_has ls 4 [(0, .ref a0), (1, .ref a1), (2, .int x2), (3, .int x3)] → n_X5_copyUpTo_7 N S n g a0 a1 x2 x3 = some (rv, g1) → W p l e R s m args below meth c H locs 0 0 (MQ below (Qcx D cA lo S none S g1 True) args s 0 0 (fun q : Nat => lo ≤ q)) (F0 m 7 ls []) := by
  intro n
  induction n with
  | zero =>
    intro H locs ls g a0 a1 x2 x3 M ra0 ra1 hl q
    exact absurd q (by simp [n_X5_copyUpTo_7])
  | succ n ih => exact w_X5_copyUpTo_7 hx hb hml hr hlk hown hX hRf hRl (N := N)  ih
set_option maxHeartbeats 4000000 in
set_option maxRecDepth 100000 in
theorem w_X5_copyUpTo_0 (hx : p.tables.exec = Jvm.exec) (hb : c.code = cX5_copyUpTo) (hml : c.maxLocals = 4) (hr : meth.sig.returnType = none) (hlk : meth.locks = false) (hown : s.vm.findClass RX5 = some m.cls) (hX : Kx D cA lo tS s) (hRf : 1 ≤ R.frames) (hRl : 60 ≤ R.locals) {N : Nat} {rv : Unit} {g1 : Hg} {S : Hs} : ∀ (H : Heap) (locs : List Loc) (ls : Array Slot) (g : Hg) (a0 : Nat) (a1 : Nat) (x2 : Int32), Mm D cA lo S g s H locs → Rf lo S a0 5 → Rf lo S a1 5 → lv_has ls 4 [(0, .ref a0), (1, .ref a1), (2, .int x2)] → b_X5_copyUpTo_0 N S g a0 a1 x2 = some (rv, g1) → W p l e R s m args below meth c H locs 0 0 (MQ below (Qcx D cA lo S none S g1 True) args s 0 0 (fun q : Nat => lo ≤ q)) (F0 m 0 ls []) := by
  intro H locs ls g a0 a1 x2 M ra0 ra1 hl q
  unfold b_X5_copyUpTo_0 at q
  refine lv_aload_n hx hb dX5_copyUpTo_0 rfl (lv_at hl 0 rfl) ?_
  refine lv_iconst (v := 0) hx hb dX5_copyUpTo_1 (by decide) ?_
  refine x_putI hx hb hown hX M (k := 3) okX5 ra0 (by decide) rfl (Or.inl rfl) rfl rfl kw_427 dX5_copyUpTo_2 (fun H locs M => ?_)
  replace q := gen_g M q
  obtain ⟨g_1, -, M, q⟩ := q
  refine lv_iconst (v := 0) hx hb dX5_copyUpTo_5 (by decide) ?_
  refine lv_istore_n (lv' := [(3, .int (0 : Int32)), (0, .ref a0), (1, .ref a1), (2, .int x2)]) hx hb dX5_copyUpTo_6 rfl hl (by decide) rfl (fun ls hl => ?_)
  exact l_X5_copyUpTo_7 hx hb hml hr hlk hown hX hRf hRl (N := N)  N _ _ _ _ _ _ _ _ M ra0 ra1 (lv_sub hl [1, 2, 3, 0] rfl) q
set_option maxRecDepth 100000 in
theorem c_X5_copyUpTo {l : Launch} {D : va_G} {cA : Nat → ClassId} {lo tS N : Nat} {S : Hs} {g g1 : Hg} {rv : Unit} {a0 : Nat} {a1 : Nat} {x2 : Int32} (ra0 : Rf lo S a0 5) (ra1 : Rf lo S a1 5) (q : f_X5_copyUpTo N S g a0 a1 x2 = some (rv, g1)) {d : Nat} (hd : 1 ≤ d) : Ctr l yX5_copyUpTo cX5_copyUpTo 4 none D cA lo tS [.ref a0, .ref a1, .int x2] S g d none S g1 True 0 0 := by
  refine x_met (by decide) (Nat.le_of_ble_eq_true rfl) ?_
  intro p e s m below meth c ls hx hb hml hr hlk hown hnm hX M hl
  exact w_X5_copyUpTo_0 hx hb hml hr hlk hown hX hd (Nat.mul_le_mul_left 60 hd) (N := N) _ _ _ _ _ _ _ M ra0 ra1 (lv_sub hl [0, 1, 2] rfl) q
def b_X3_copyFirst_113 (N : Nat) (S : Hs) (k113 : Hg → Nat → Nat → Int32 → Int32 → Option (Unit × Hg)) (g : Hg) (a0 : Nat) (a1 : Nat) (x2 : Int32) (x4 : Int32) : Option (Unit × Hg) :=
if (9 : Int32) ≤ x4 then (
nm (wrI g a0 9 (-1 : Int32)) (fun g_2 =>
some ((), g_2))) else (
ck (inb x4 9) (
nm ((lvT x4.toNatClampNeg) * (8 : Int32)) (fun x_3 =>
nn (rdR g a1 5) (fun a_4 =>
nn (rdR g a0 5) (fun a_5 =>
ck (cpok x_3 x_3 ((x2 >>> (x4 &&& 31)) * (8 : Int32)) (hpL S a_4) (hpL S a_5)) (
nm (cpI g a_4 x_3.toNatClampNeg a_5 x_3.toNatClampNeg ((x2 >>> (x4 &&& 31)) * (8 : Int32)).toNatClampNeg) (fun g_6 =>
nm (x4 + 1) (fun x_7 =>
k113 g_6 a0 a1 x2 x_7))))))))
def n_X3_copyFirst_113 (N : Nat) (S : Hs) : Nat → Hg → Nat → Nat → Int32 → Int32 → Option (Unit × Hg)
  | 0 => fun _ _ _ _ _ => none
  | n + 1 => fun g a0 a1 x2 x4 => b_X3_copyFirst_113 N S (n_X3_copyFirst_113 N S n) g a0 a1 x2 x4
def b_X3_copyFirst_18 (N : Nat) (S : Hs) (k18 : Hg → Nat → Nat → Int32 → Int32 → Int32 → Option (Unit × Hg)) (g : Hg) (a0 : Nat) (a1 : Nat) (x2 : Int32) (x3 : Int32) (x4 : Int32) : Option (Unit × Hg) :=
if x2 ≤ x4 then (
nn (rdR g a0 0) (fun a_2 =>
nn (rdR g a1 0) (fun a_3 =>
c2 (f_X2_copyFirst N S g a_2 a_3 x3) (fun u_5 g_4 =>
nn (rdR g_4 a0 1) (fun a_6 =>
nn (rdR g_4 a1 1) (fun a_7 =>
c2 (f_X5_copyUpTo N S g_4 a_6 a_7 x2) (fun u_9 g_8 =>
nn (rdR g_8 a1 2) (fun a_10 =>
nn (rdR g_8 a0 2) (fun a_11 =>
ck (cpok (0 : Int32) (0 : Int32) x2 (hpL S a_10) (hpL S a_11)) (
nm (cpI g_8 a_10 (0 : Int32).toNatClampNeg a_11 (0 : Int32).toNatClampNeg x2.toNatClampNeg) (fun g_12 =>
nn (rdR g_12 a1 3) (fun a_13 =>
nn (rdR g_12 a0 3) (fun a_14 =>
ck (cpok (0 : Int32) (0 : Int32) x2 (hpL S a_13) (hpL S a_14)) (
nm (cpI g_12 a_13 (0 : Int32).toNatClampNeg a_14 (0 : Int32).toNatClampNeg x2.toNatClampNeg) (fun g_15 =>
nn (rdR g_15 a1 4) (fun a_16 =>
nn (rdR g_15 a0 4) (fun a_17 =>
ck (cpok (0 : Int32) (0 : Int32) x2 (hpL S a_16) (hpL S a_17)) (
nm (cpL g_15 a_16 (0 : Int32).toNatClampNeg a_17 (0 : Int32).toNatClampNeg x2.toNatClampNeg) (fun g_18 =>
n_X3_copyFirst_113 N S N g_18 a0 a1 x2 (0 : Int32)))))))))))))))))))) else (
nn (rdR g a1 2) (fun a_19 =>
ck (inb x4 (hpL S a_19)) (
nm (if x3 < ((rdI g a_19 x4.toNatClampNeg) + (1 : Int32)) then ((rdI g a_19 x4.toNatClampNeg) + (1 : Int32)) else x3) (fun x_20 =>
nm (x4 + 1) (fun x_21 =>
k18 g a0 a1 x2 x_20 x_21)))))
def n_X3_copyFirst_18 (N : Nat) (S : Hs) : Nat → Hg → Nat → Nat → Int32 → Int32 → Int32 → Option (Unit × Hg)
  | 0 => fun _ _ _ _ _ _ => none
  | n + 1 => fun g a0 a1 x2 x3 x4 => b_X3_copyFirst_18 N S (n_X3_copyFirst_18 N S n) g a0 a1 x2 x3 x4
def b_X3_copyFirst_0 (N : Nat) (S : Hs) (g : Hg) (a0 : Nat) (a1 : Nat) (x2 : Int32) : Option (Unit × Hg) :=
nm (wrI g a0 6 (rdI g a1 6)) (fun g_1 =>
nm (wrI g_1 a0 7 x2) (fun g_2 =>
n_X3_copyFirst_18 N S N g_2 a0 a1 x2 (0 : Int32) (0 : Int32)))
def f_X3_copyFirst (N : Nat) (S : Hs) (g : Hg) (a0 : Nat) (a1 : Nat) (x2 : Int32) : Option (Unit × Hg) := b_X3_copyFirst_0 N S g a0 a1 x2
set_option maxHeartbeats 4000000 in
set_option maxRecDepth 100000 in
theorem w_X3_copyFirst_113 (hx : p.tables.exec = Jvm.exec) (hb : c.code = cX3_copyFirst) (hml : c.maxLocals = 6) (hr : meth.sig.returnType = none) (hlk : meth.locks = false) (hown : s.vm.findClass RX3 = some m.cls) (hX : Kx D cA lo tS s) (hRf : 2 ≤ R.frames) (hRl : 120 ≤ R.locals) {N : Nat} {rv : Unit} {g1 : Hg} {S : Hs} {k113 : Hg → Nat → Nat → Int32 → Int32 → Option (Unit × Hg)} (hk113 : ∀ (H : Heap) (locs : List Loc) (ls : Array Slot) (g : Hg) (a0 : Nat) (a1 : Nat) (x2 : Int32) (x4 : Int32), Mm D cA lo S g s H locs → Rf lo S a0 3 → Rf lo S a1 3 → lv_has ls 6 [(0, .ref a0), (1, .ref a1), (2, .int x2), (4, .int x4)] → k113 g a0 a1 x2 x4 = some (rv, g1) → W p l e R s m args below meth c H locs 0 0 (MQ below (Qcx D cA lo S none S g1 True) args s 0 0 (fun q : Nat => lo ≤ q)) (F0 m 113 ls [])) : ∀ (H : Heap) (locs : List Loc) (ls : Array Slot) (g : Hg) (a0 : Nat) (a1 : Nat) (x2 : Int32) (x4 : Int32), Mm D cA lo S g s H locs → Rf lo S a0 3 → Rf lo S a1 3 → lv_has ls 6 [(0, .ref a0), (1, .ref a1), (2, .int x2), (4, .int x4)] → b_X3_copyFirst_113 N S k113 g a0 a1 x2 x4 = some (rv, g1) → W p l e R s m args below meth c H locs 0 0 (MQ below (Qcx D cA lo S none S g1 True) args s 0 0 (fun q : Nat => lo ≤ q)) (F0 m 113 ls []) := by
  intro H locs ls g a0 a1 x2 x4 M ra0 ra1 hl q
  unfold b_X3_copyFirst_113 at q
  refine lv_iload hx hb dX3_copyFirst_113 (lv_at hl 3 rfl) ?_
  refine lv_bipush (v := 9) hx hb dX3_copyFirst_115 (by decide) ?_
  refine lv_icmp_ge (tgt := 159) hx hb dX3_copyFirst_117 (by decide) (fun c_1 => ?_) (fun c_1 => ?_)
  · replace q := if_t c_1 q
    refine lv_aload_n hx hb dX3_copyFirst_159 rfl (lv_at hl 0 rfl) ?_
    refine lv_iconst (v := -1) hx hb dX3_copyFirst_160 (by decide) ?_
    refine x_putI hx hb hown hX M (k := 9) okX3 ra0 (by decide) rfl (Or.inl rfl) rfl rfl kw_463 dX3_copyFirst_161 (fun H locs M => ?_)
    replace q := gen_g M q
    obtain ⟨g_2, -, M, q⟩ := q
    cases q
    exact x_vret hx hb hr hlk M Ext.rf dX3_copyFirst_164
  · replace q := if_f c_1 q
    refine x_gets hx hb hown hX M kw_539 dX3_copyFirst_120 ?_
    refine lv_iload hx hb dX3_copyFirst_123 (lv_at hl 3 rfl) ?_
    replace q := ck_s q
    obtain ⟨hin, q⟩ := q
    refine x_tbl hx hb hX M (inb_in hin) dX3_copyFirst_125 ?_
    refine lv_bipush (v := 8) hx hb dX3_copyFirst_126 (by decide) ?_
    refine lv_imul hx hb dX3_copyFirst_128 ?_
    refine lv_topi (fun x_3 e_x_3 => ?_)
    replace q := nm_s q e_x_3
    refine lv_istore (lv' := [(5, .int x_3), (0, .ref a0), (1, .ref a1), (2, .int x2), (4, .int x4)]) hx hb dX3_copyFirst_129 hl (by decide) rfl (fun ls hl => ?_)
    refine lv_aload_n hx hb dX3_copyFirst_131 rfl (lv_at hl 2 rfl) ?_
    replace q := nn_s q
    obtain ⟨a_4, e_a_4, q⟩ := q
    refine x_getR hx hb hown hX M e_a_4 okX3 ra1 (by decide) rfl kw_453 dX3_copyFirst_132 (fun ra_4 => ?_)
    refine lv_iload hx hb dX3_copyFirst_135 (lv_at hl 0 rfl) ?_
    refine lv_aload_n hx hb dX3_copyFirst_137 rfl (lv_at hl 1 rfl) ?_
    replace q := nn_s q
    obtain ⟨a_5, e_a_5, q⟩ := q
    refine x_getR hx hb hown hX M e_a_5 okX3 ra0 (by decide) rfl kw_453 dX3_copyFirst_138 (fun ra_5 => ?_)
    refine lv_iload hx hb dX3_copyFirst_141 (lv_at hl 0 rfl) ?_
    refine lv_iload_n hx hb dX3_copyFirst_143 rfl (lv_at hl 3 rfl) ?_
    refine lv_iload hx hb dX3_copyFirst_144 (lv_at hl 4 rfl) ?_
    refine lv_ishr hx hb dX3_copyFirst_146 ?_
    refine lv_bipush (v := 8) hx hb dX3_copyFirst_147 (by decide) ?_
    refine lv_imul hx hb dX3_copyFirst_149 ?_
    replace q := ck_s q
    obtain ⟨hz, q⟩ := q
    refine x_copyI hx hb hml hl.1 hown hX M (rest := []) kw_569 kw_an kw_as kw_ai ra_4 ra_5 hz (Nat.le_of_ble_eq_true rfl) ⟨Nat.le_trans (by omega) hRf, Nat.le_trans (by omega) hRl⟩ dX3_copyFirst_150 (fun H locs M => ?_)
    replace q := gen_g M q
    obtain ⟨g_6, -, M, q⟩ := q
    obtain ⟨x_7, e_x_7⟩ : ∃ y : Int32, y = x4 + 1 := ⟨_, rfl⟩
    replace q := nm_s q e_x_7
    refine lv_iinc (v := x_7) (lv' := [(4, .int x_7), (5, .int x_3), (0, .ref a0), (1, .ref a1), (2, .int x2)]) hx hb dX3_copyFirst_153 hl (k := 4) rfl (by rw [e_x_7]; rfl) (by decide) rfl (fun ls hl => ?_)
    refine lv_goto (tgt := 113) hx hb dX3_copyFirst_156 (by decide) ?_
    exact hk113 _ _ _ _ _ _ _ _ M ra0 ra1 (lv_sub hl [2, 3, 4, 0] rfl) q
set_option maxRecDepth 100000 in
theorem l_X3_copyFirst_113 (hx : p.tables.exec = Jvm.exec) (hb : c.code = cX3_copyFirst) (hml : c.maxLocals = 6) (hr : meth.sig.returnType = none) (hlk : meth.locks = false) (hown : s.vm.findClass RX3 = some m.cls) (hX : Kx D cA lo tS s) (hRf : 2 ≤ R.frames) (hRl : 120 ≤ R.locals) {N : Nat} {rv : Unit} {g1 : Hg} {S : Hs} : ∀ (n : Nat), ∀ (H : Heap) (locs : List Loc) (ls : Array Slot) (g : Hg) (a0 : Nat) (a1 : Nat) (x2 : Int32) (x4 : Int32), Mm D cA lo S g s H locs → Rf lo S a0 3 → Rf lo S a1 3 → lv_has ls 6 [(0, .ref a0), (1, .ref a1), (2, .int x2), (4, .int x4)] → n_X3_copyFirst_113 N S n g a0 a1 x2 x4 = some (rv, g1) → W p l e R s m args below meth c H locs 0 0 (MQ below (Qcx D cA lo S none S g1 True) args s 0 0 (fun q : Nat => lo ≤ q)) (F0 m 113 ls []) := by
  intro n
  induction n with
  | zero =>
    intro H locs ls g a0 a1 x2 x4 M ra0 ra1 hl q
    exact absurd q (by simp [n_X3_copyFirst_113])
  | succ n ih => exact w_X3_copyFirst_113 hx hb hml hr hlk hown hX hRf hRl (N := N)  ih
set_option maxHeartbeats 4000000 in
set_option maxRecDepth 100000 in
theorem w_X3_copyFirst_18 (hx : p.tables.exec = Jvm.exec) (hb : c.code = cX3_copyFirst) (hml : c.maxLocals = 6) (hr : meth.sig.returnType = none) (hlk : meth.locks = false) (hown : s.vm.findClass RX3 = some m.cls) (hX : Kx D cA lo tS s) (hRf : 2 ≤ R.frames) (hRl : 120 ≤ R.locals) {N : Nat} {rv : Unit} {g1 : Hg} {S : Hs} {k18 : Hg → Nat → Nat → Int32 → Int32 → Int32 → Option (Unit × Hg)} (hk18 : ∀ (H : Heap) (locs : List Loc) (ls : Array Slot) (g : Hg) (a0 : Nat) (a1 : Nat) (x2 : Int32) (x3 : Int32) (x4 : Int32), Mm D cA lo S g s H locs → Rf lo S a0 3 → Rf lo S a1 3 → lv_has ls 6 [(0, .ref a0), (1, .ref a1), (2, .int x2), (3, .int x3), (4, .int x4)] → k18 g a0 a1 x2 x3 x4 = some (rv, g1) → W p l e R s m args below meth c H locs 0 0 (MQ below (Qcx D cA lo S none S g1 True) args s 0 0 (fun q : Nat => lo ≤ q)) (F0 m 18 ls [])) : ∀ (H : Heap) (locs : List Loc) (ls : Array Slot) (g : Hg) (a0 : Nat) (a1 : Nat) (x2 : Int32) (x3 : Int32) (x4 : Int32), Mm D cA lo S g s H locs → Rf lo S a0 3 → Rf lo S a1 3 → lv_has ls 6 [(0, .ref a0), (1, .ref a1), (2, .int x2), (3, .int x3), (4, .int x4)] → b_X3_copyFirst_18 N S k18 g a0 a1 x2 x3 x4 = some (rv, g1) → W p l e R s m args below meth c H locs 0 0 (MQ below (Qcx D cA lo S none S g1 True) args s 0 0 (fun q : Nat => lo ≤ q)) (F0 m 18 ls []) := by
  intro H locs ls g a0 a1 x2 x3 x4 M ra0 ra1 hl q
  unfold b_X3_copyFirst_18 at q
  refine lv_iload hx hb dX3_copyFirst_18 (lv_at hl 4 rfl) ?_
  refine lv_iload_n hx hb dX3_copyFirst_20 rfl (lv_at hl 2 rfl) ?_
  refine lv_icmp_ge (tgt := 44) hx hb dX3_copyFirst_21 (by decide) (fun c_1 => ?_) (fun c_1 => ?_)
  · replace q := if_t c_1 q
    refine lv_aload_n hx hb dX3_copyFirst_44 rfl (lv_at hl 0 rfl) ?_
    replace q := nn_s q
    obtain ⟨a_2, e_a_2, q⟩ := q
    refine x_getR hx hb hown hX M e_a_2 okX3 ra0 (by decide) rfl kw_440 dX3_copyFirst_45 (fun ra_2 => ?_)
    refine lv_aload_n hx hb dX3_copyFirst_48 rfl (lv_at hl 1 rfl) ?_
    replace q := nn_s q
    obtain ⟨a_3, e_a_3, q⟩ := q
    refine x_getR hx hb hown hX M e_a_3 okX3 ra1 (by decide) rfl kw_440 dX3_copyFirst_49 (fun ra_3 => ?_)
    refine lv_iload_n hx hb dX3_copyFirst_52 rfl (lv_at hl 3 rfl) ?_
    replace q := c2_s q
    obtain ⟨u_5, g_4, qc, q⟩ := q
    refine x_callV hx hb hml hl.1 hown hX M (S1 := S) (As := [.ref a_3, .int x3]) (rest := []) okX2 ra_2 rfl kw_561 kw_562 mok_X2_copyFirst (c_X2_copyFirst ra_2 ra_3 qc (Nat.le_refl 1)) kw_560 rfl rfl dX3_copyFirst_53 (Nat.le_of_ble_eq_true rfl) ⟨Nat.le_trans (by decide) hRf, Nat.le_trans (by decide) hRl⟩ (Nat.zero_le _) (Nat.zero_le _) (fun H locs M hEF => ?_)
    refine lv_aload_n hx hb dX3_copyFirst_56 rfl (lv_at hl 0 rfl) ?_
    replace q := nn_s q
    obtain ⟨a_6, e_a_6, q⟩ := q
    refine x_getR hx hb hown hX M e_a_6 okX3 ra0 (by decide) rfl kw_444 dX3_copyFirst_57 (fun ra_6 => ?_)
    refine lv_aload_n hx hb dX3_copyFirst_60 rfl (lv_at hl 1 rfl) ?_
    replace q := nn_s q
    obtain ⟨a_7, e_a_7, q⟩ := q
    refine x_getR hx hb hown hX M e_a_7 okX3 ra1 (by decide) rfl kw_444 dX3_copyFirst_61 (fun ra_7 => ?_)
    refine lv_iload_n hx hb dX3_copyFirst_64 rfl (lv_at hl 2 rfl) ?_
    replace q := c2_s q
    obtain ⟨u_9, g_8, qc, q⟩ := q
    refine x_callV hx hb hml hl.1 hown hX M (S1 := S) (As := [.ref a_7, .int x2]) (rest := []) okX5 ra_6 rfl kw_566 kw_567 mok_X5_copyUpTo (c_X5_copyUpTo ra_6 ra_7 qc (Nat.le_refl 1)) kw_565 rfl rfl dX3_copyFirst_65 (Nat.le_of_ble_eq_true rfl) ⟨Nat.le_trans (by decide) hRf, Nat.le_trans (by decide) hRl⟩ (Nat.zero_le _) (Nat.zero_le _) (fun H locs M hEF => ?_)
    refine lv_aload_n hx hb dX3_copyFirst_68 rfl (lv_at hl 1 rfl) ?_
    replace q := nn_s q
    obtain ⟨a_10, e_a_10, q⟩ := q
    refine x_getR hx hb hown hX M e_a_10 okX3 ra1 (by decide) rfl kw_447 dX3_copyFirst_69 (fun ra_10 => ?_)
    refine lv_iconst (v := 0) hx hb dX3_copyFirst_72 (by decide) ?_
    refine lv_aload_n hx hb dX3_copyFirst_73 rfl (lv_at hl 0 rfl) ?_
    replace q := nn_s q
    obtain ⟨a_11, e_a_11, q⟩ := q
    refine x_getR hx hb hown hX M e_a_11 okX3 ra0 (by decide) rfl kw_447 dX3_copyFirst_74 (fun ra_11 => ?_)
    refine lv_iconst (v := 0) hx hb dX3_copyFirst_77 (by decide) ?_
    refine lv_iload_n hx hb dX3_copyFirst_78 rfl (lv_at hl 2 rfl) ?_
    replace q := ck_s q
    obtain ⟨hz, q⟩ := q
    refine x_copyI hx hb hml hl.1 hown hX M (rest := []) kw_569 kw_an kw_as kw_ai ra_10 ra_11 hz (Nat.le_of_ble_eq_true rfl) ⟨Nat.le_trans (by omega) hRf, Nat.le_trans (by omega) hRl⟩ dX3_copyFirst_79 (fun H locs M => ?_)
    replace q := gen_g M q
    obtain ⟨g_12, -, M, q⟩ := q
    refine lv_aload_n hx hb dX3_copyFirst_82 rfl (lv_at hl 1 rfl) ?_
    replace q := nn_s q
    obtain ⟨a_13, e_a_13, q⟩ := q
    refine x_getR hx hb hown hX M e_a_13 okX3 ra1 (by decide) rfl kw_450 dX3_copyFirst_83 (fun ra_13 => ?_)
    refine lv_iconst (v := 0) hx hb dX3_copyFirst_86 (by decide) ?_
    refine lv_aload_n hx hb dX3_copyFirst_87 rfl (lv_at hl 0 rfl) ?_
    replace q := nn_s q
    obtain ⟨a_14, e_a_14, q⟩ := q
    refine x_getR hx hb hown hX M e_a_14 okX3 ra0 (by decide) rfl kw_450 dX3_copyFirst_88 (fun ra_14 => ?_)
    refine lv_iconst (v := 0) hx hb dX3_copyFirst_91 (by decide) ?_
    refine lv_iload_n hx hb dX3_copyFirst_92 rfl (lv_at hl 2 rfl) ?_
    replace q := ck_s q
    obtain ⟨hz, q⟩ := q
    refine x_copyI hx hb hml hl.1 hown hX M (rest := []) kw_569 kw_an kw_as kw_ai ra_13 ra_14 hz (Nat.le_of_ble_eq_true rfl) ⟨Nat.le_trans (by omega) hRf, Nat.le_trans (by omega) hRl⟩ dX3_copyFirst_93 (fun H locs M => ?_)
    replace q := gen_g M q
    obtain ⟨g_15, -, M, q⟩ := q
    refine lv_aload_n hx hb dX3_copyFirst_96 rfl (lv_at hl 1 rfl) ?_
    replace q := nn_s q
    obtain ⟨a_16, e_a_16, q⟩ := q
    refine x_getR hx hb hown hX M e_a_16 okX3 ra1 (by decide) rfl kw_452 dX3_copyFirst_97 (fun ra_16 => ?_)
    refine lv_iconst (v := 0) hx hb dX3_copyFirst_100 (by decide) ?_
    refine lv_aload_n hx hb dX3_copyFirst_101 rfl (lv_at hl 0 rfl) ?_
    replace q := nn_s q
    obtain ⟨a_17, e_a_17, q⟩ := q
    refine x_getR hx hb hown hX M e_a_17 okX3 ra0 (by decide) rfl kw_452 dX3_copyFirst_102 (fun ra_17 => ?_)
    refine lv_iconst (v := 0) hx hb dX3_copyFirst_105 (by decide) ?_
    refine lv_iload_n hx hb dX3_copyFirst_106 rfl (lv_at hl 2 rfl) ?_
    replace q := ck_s q
    obtain ⟨hz, q⟩ := q
    refine x_copyL hx hb hml hl.1 hown hX M (rest := []) kw_569 kw_an kw_as kw_ai ra_16 ra_17 hz (Nat.le_of_ble_eq_true rfl) ⟨Nat.le_trans (by omega) hRf, Nat.le_trans (by omega) hRl⟩ dX3_copyFirst_107 (fun H locs M => ?_)
    replace q := gen_g M q
    obtain ⟨g_18, -, M, q⟩ := q
    refine lv_iconst (v := 0) hx hb dX3_copyFirst_110 (by decide) ?_
    refine lv_istore (lv' := [(4, .int (0 : Int32)), (0, .ref a0), (1, .ref a1), (2, .int x2), (3, .int x3)]) hx hb dX3_copyFirst_111 hl (by decide) rfl (fun ls hl => ?_)
    exact l_X3_copyFirst_113 hx hb hml hr hlk hown hX hRf hRl (N := N)  N _ _ _ _ _ _ _ _ M ra0 ra1 (lv_sub hl [1, 2, 3, 0] rfl) q
  · replace q := if_f c_1 q
    refine lv_iload_n hx hb dX3_copyFirst_24 rfl (lv_at hl 3 rfl) ?_
    refine lv_aload_n hx hb dX3_copyFirst_25 rfl (lv_at hl 1 rfl) ?_
    replace q := nn_s q
    obtain ⟨a_19, e_a_19, q⟩ := q
    refine x_getR hx hb hown hX M e_a_19 okX3 ra1 (by decide) rfl kw_447 dX3_copyFirst_26 (fun ra_19 => ?_)
    refine lv_iload hx hb dX3_copyFirst_29 (lv_at hl 4 rfl) ?_
    replace q := ck_s q
    obtain ⟨hin, q⟩ := q
    refine x_iald hx hb hX M ra_19 (inb_in hin) dX3_copyFirst_31 ?_
    refine lv_iconst (v := 1) hx hb dX3_copyFirst_32 (by decide) ?_
    refine lv_iadd hx hb dX3_copyFirst_33 ?_
    refine va_mmax hx hb (hml.trans hl.1.symm) hown (hX.hts _ _ (mw kw_557 rfl)) (hX.hts _ _ (mw kw_558 rfl)) (hX.hts _ _ (mw kw_67 rfl)) (hX.hts _ _ (mw mok_J9_max_7cf53.1.1 rfl)) (rest := []) (Nat.le_trans (by decide) hRf) (Nat.le_trans (show (([] : List Value).map fun v => v.category).sum + 13 ≤ 60 from Nat.le_of_ble_eq_true rfl) (Nat.le_trans (by decide) hRl)) (Nat.zero_le _) (Nat.zero_le _) dX3_copyFirst_34 ?_
    refine lv_topi (fun x_20 e_x_20 => ?_)
    replace q := nm_s q e_x_20
    refine lv_istore_n (lv' := [(3, .int x_20), (0, .ref a0), (1, .ref a1), (2, .int x2), (4, .int x4)]) hx hb dX3_copyFirst_37 rfl hl (by decide) rfl (fun ls hl => ?_)
    obtain ⟨x_21, e_x_21⟩ : ∃ y : Int32, y = x4 + 1 := ⟨_, rfl⟩
    replace q := nm_s q e_x_21
    refine lv_iinc (v := x_21) (lv' := [(4, .int x_21), (3, .int x_20), (0, .ref a0), (1, .ref a1), (2, .int x2)]) hx hb dX3_copyFirst_38 hl (k := 4) rfl (by rw [e_x_21]; rfl) (by decide) rfl (fun ls hl => ?_)
    refine lv_goto (tgt := 18) hx hb dX3_copyFirst_41 (by decide) ?_
    exact hk18 _ _ _ _ _ _ _ _ _ M ra0 ra1 (lv_sub hl [2, 3, 4, 1, 0] rfl) q
set_option maxRecDepth 100000 in
theorem l_X3_copyFirst_18 (hx : p.tables.exec = Jvm.exec) (hb : c.code = cX3_copyFirst) (hml : c.maxLocals = 6) (hr : meth.sig.returnType = none) (hlk : meth.locks = false) (hown : s.vm.findClass RX3 = some m.cls) (hX : Kx D cA lo tS s) (hRf : 2 ≤ R.frames) (hRl : 120 ≤ R.locals) {N : Nat} {rv : Unit} {g1 : Hg} {S : Hs} : ∀ (n : Nat), ∀ (H : Heap) (locs : List Loc) (ls : Array Slot) (g : Hg) (a0 : Nat) (a1 : Nat) (x2 : Int32) (x3 : Int32) (x4 : Int32), Mm D cA lo S g s H locs → Rf lo S a0 3 → Rf lo S a1 3 → lv_has ls 6 [(0, .ref a0), (1, .ref a1), (2, .int x2), (3, .int x3), (4, .int x4)] → n_X3_copyFirst_18 N S n g a0 a1 x2 x3 x4 = some (rv, g1) → W p l e R s m args below meth c H locs 0 0 (MQ below (Qcx D cA lo S none S g1 True) args s 0 0 (fun q : Nat => lo ≤ q)) (F0 m 18 ls []) := by
  intro n
  induction n with
  | zero =>
    intro H locs ls g a0 a1 x2 x3 x4 M ra0 ra1 hl q
    exact absurd q (by simp [n_X3_copyFirst_18])
  | succ n ih => exact w_X3_copyFirst_18 hx hb hml hr hlk hown hX hRf hRl (N := N)  ih
set_option maxHeartbeats 4000000 in
set_option maxRecDepth 100000 in
theorem w_X3_copyFirst_0 (hx : p.tables.exec = Jvm.exec) (hb : c.code = cX3_copyFirst) (hml : c.maxLocals = 6) (hr : meth.sig.returnType = none) (hlk : meth.locks = false) (hown : s.vm.findClass RX3 = some m.cls) (hX : Kx D cA lo tS s) (hRf : 2 ≤ R.frames) (hRl : 120 ≤ R.locals) {N : Nat} {rv : Unit} {g1 : Hg} {S : Hs} : ∀ (H : Heap) (locs : List Loc) (ls : Array Slot) (g : Hg) (a0 : Nat) (a1 : Nat) (x2 : Int32), Mm D cA lo S g s H locs → Rf lo S a0 3 → Rf lo S a1 3 → lv_has ls 6 [(0, .ref a0), (1, .ref a1), (2, .int x2)] → b_X3_copyFirst_0 N S g a0 a1 x2 = some (rv, g1) → W p l e R s m args below meth c H locs 0 0 (MQ below (Qcx D cA lo S none S g1 True) args s 0 0 (fun q : Nat => lo ≤ q)) (F0 m 0 ls []) := by
  intro H locs ls g a0 a1 x2 M ra0 ra1 hl q
  unfold b_X3_copyFirst_0 at q
  refine lv_aload_n hx hb dX3_copyFirst_0 rfl (lv_at hl 0 rfl) ?_
  refine lv_aload_n hx hb dX3_copyFirst_1 rfl (lv_at hl 1 rfl) ?_
  refine x_getI hx hb hown hX M (k := 6) okX3 ra1 (by decide) rfl kw_454 dX3_copyFirst_2 ?_
  refine x_putI hx hb hown hX M (k := 6) okX3 ra0 (by decide) rfl (Or.inl rfl) rfl rfl kw_454 dX3_copyFirst_5 (fun H locs M => ?_)
  replace q := gen_g M q
  obtain ⟨g_1, -, M, q⟩ := q
  refine lv_aload_n hx hb dX3_copyFirst_8 rfl (lv_at hl 0 rfl) ?_
  refine lv_iload_n hx hb dX3_copyFirst_9 rfl (lv_at hl 2 rfl) ?_
  refine x_putI hx hb hown hX M (k := 7) okX3 ra0 (by decide) rfl (Or.inl rfl) rfl rfl kw_457 dX3_copyFirst_10 (fun H locs M => ?_)
  replace q := gen_g M q
  obtain ⟨g_2, -, M, q⟩ := q
  refine lv_iconst (v := 0) hx hb dX3_copyFirst_13 (by decide) ?_
  refine lv_istore_n (lv' := [(3, .int (0 : Int32)), (0, .ref a0), (1, .ref a1), (2, .int x2)]) hx hb dX3_copyFirst_14 rfl hl (by decide) rfl (fun ls hl => ?_)
  refine lv_iconst (v := 0) hx hb dX3_copyFirst_15 (by decide) ?_
  refine lv_istore (lv' := [(4, .int (0 : Int32)), (3, .int (0 : Int32)), (0, .ref a0), (1, .ref a1), (2, .int x2)]) hx hb dX3_copyFirst_16 hl (by decide) rfl (fun ls hl => ?_)
  exact l_X3_copyFirst_18 hx hb hml hr hlk hown hX hRf hRl (N := N)  N _ _ _ _ _ _ _ _ _ M ra0 ra1 (lv_sub hl [2, 3, 4, 1, 0] rfl) q
set_option maxRecDepth 100000 in
theorem c_X3_copyFirst {l : Launch} {D : va_G} {cA : Nat → ClassId} {lo tS N : Nat} {S : Hs} {g g1 : Hg} {rv : Unit} {a0 : Nat} {a1 : Nat} {x2 : Int32} (ra0 : Rf lo S a0 3) (ra1 : Rf lo S a1 3) (q : f_X3_copyFirst N S g a0 a1 x2 = some (rv, g1)) {d : Nat} (hd : 2 ≤ d) : Ctr l yX3_copyFirst cX3_copyFirst 6 none D cA lo tS [.ref a0, .ref a1, .int x2] S g d none S g1 True 0 0 := by
  refine x_met (by decide) (Nat.le_of_ble_eq_true rfl) ?_
  intro p e s m below meth c ls hx hb hml hr hlk hown hnm hX M hl
  exact w_X3_copyFirst_0 hx hb hml hr hlk hown hX hd (Nat.mul_le_mul_left 60 hd) (N := N) _ _ _ _ _ _ _ M ra0 ra1 (lv_sub hl [0, 1, 2] rfl) q
def b_X7_tellEntry_0 (N : Nat) (S : Hs) (g : Hg) (a0 : Nat) (x1 : Int32) (y2 : Int64) : Option (Unit × Hg) :=
if (40 : Int32) ≤ (rdI g a0 3) then (
some ((), g)) else (
nn (rdR g a0 0) (fun a_2 =>
ck (inb (rdI g a0 3) (hpL S a_2)) (
nm (wrI g a_2 (rdI g a0 3).toNatClampNeg x1) (fun g_3 =>
nn (rdR g_3 a0 1) (fun a_4 =>
ck (inb (rdI g_3 a0 3) (hpL S a_4)) (
nm (wrL g_3 a_4 (rdI g_3 a0 3).toNatClampNeg y2) (fun g_5 =>
nm (wrI g_5 a0 3 ((rdI g_5 a0 3) + (1 : Int32))) (fun g_6 =>
some ((), g_6)))))))))
def f_X7_tellEntry (N : Nat) (S : Hs) (g : Hg) (a0 : Nat) (x1 : Int32) (y2 : Int64) : Option (Unit × Hg) := b_X7_tellEntry_0 N S g a0 x1 y2
set_option maxHeartbeats 4000000 in
set_option maxRecDepth 100000 in
theorem w_X7_tellEntry_0 (hx : p.tables.exec = Jvm.exec) (hb : c.code = cX7_tellEntry) (hml : c.maxLocals = 4) (hr : meth.sig.returnType = none) (hlk : meth.locks = false) (hown : s.vm.findClass RX7 = some m.cls) (hX : Kx D cA lo tS s) (hRf : 1 ≤ R.frames) (hRl : 60 ≤ R.locals) {N : Nat} {rv : Unit} {g1 : Hg} {S : Hs} : ∀ (H : Heap) (locs : List Loc) (ls : Array Slot) (g : Hg) (a0 : Nat) (x1 : Int32) (y2 : Int64), Mm D cA lo S g s H locs → Rf lo S a0 7 → lv_has ls 4 [(0, .ref a0), (1, .int x1), (2, .long y2)] → b_X7_tellEntry_0 N S g a0 x1 y2 = some (rv, g1) → W p l e R s m args below meth c H locs 0 0 (MQ below (Qcx D cA lo S none S g1 True) args s 0 0 (fun q : Nat => lo ≤ q)) (F0 m 0 ls []) := by
  intro H locs ls g a0 x1 y2 M ra0 hl q
  unfold b_X7_tellEntry_0 at q
  refine lv_aload_n hx hb dX7_tellEntry_0 rfl (lv_at hl 0 rfl) ?_
  refine x_getI hx hb hown hX M (k := 3) okX7 ra0 (by decide) rfl kw_189 dX7_tellEntry_1 ?_
  refine lv_bipush (v := 40) hx hb dX7_tellEntry_4 (by decide) ?_
  refine lv_icmp_ge (tgt := 39) hx hb dX7_tellEntry_6 (by decide) (fun c_1 => ?_) (fun c_1 => ?_)
  · replace q := if_t c_1 q
    cases q
    exact x_vret hx hb hr hlk M Ext.rf dX7_tellEntry_39
  · replace q := if_f c_1 q
    refine lv_aload_n hx hb dX7_tellEntry_9 rfl (lv_at hl 0 rfl) ?_
    replace q := nn_s q
    obtain ⟨a_2, e_a_2, q⟩ := q
    refine x_getR hx hb hown hX M e_a_2 okX7 ra0 (by decide) rfl kw_180 dX7_tellEntry_10 (fun ra_2 => ?_)
    refine lv_aload_n hx hb dX7_tellEntry_13 rfl (lv_at hl 0 rfl) ?_
    refine x_getI hx hb hown hX M (k := 3) okX7 ra0 (by decide) rfl kw_189 dX7_tellEntry_14 ?_
    refine lv_iload_n hx hb dX7_tellEntry_17 rfl (lv_at hl 1 rfl) ?_
    replace q := ck_s q
    obtain ⟨hin, q⟩ := q
    refine x_iast hx hb hX M ra_2 (inb_in hin) dX7_tellEntry_18 (fun H locs M => ?_)
    replace q := gen_g M q
    obtain ⟨g_3, -, M, q⟩ := q
    refine lv_aload_n hx hb dX7_tellEntry_19 rfl (lv_at hl 0 rfl) ?_
    replace q := nn_s q
    obtain ⟨a_4, e_a_4, q⟩ := q
    refine x_getR hx hb hown hX M e_a_4 okX7 ra0 (by decide) rfl kw_183 dX7_tellEntry_20 (fun ra_4 => ?_)
    refine lv_aload_n hx hb dX7_tellEntry_23 rfl (lv_at hl 0 rfl) ?_
    refine x_getI hx hb hown hX M (k := 3) okX7 ra0 (by decide) rfl kw_189 dX7_tellEntry_24 ?_
    refine lv_lload_n hx hb dX7_tellEntry_27 rfl (lv_at hl 2 rfl) ?_
    replace q := ck_s q
    obtain ⟨hin, q⟩ := q
    refine x_last hx hb hX M ra_4 (inb_in hin) dX7_tellEntry_28 (fun H locs M => ?_)
    replace q := gen_g M q
    obtain ⟨g_5, -, M, q⟩ := q
    refine lv_aload_n hx hb dX7_tellEntry_29 rfl (lv_at hl 0 rfl) ?_
    refine lv_dup hx hb dX7_tellEntry_30 rfl ?_
    refine x_getI hx hb hown hX M (k := 3) okX7 ra0 (by decide) rfl kw_189 dX7_tellEntry_31 ?_
    refine lv_iconst (v := 1) hx hb dX7_tellEntry_34 (by decide) ?_
    refine lv_iadd hx hb dX7_tellEntry_35 ?_
    refine x_putI hx hb hown hX M (k := 3) okX7 ra0 (by decide) rfl (Or.inl rfl) rfl rfl kw_189 dX7_tellEntry_36 (fun H locs M => ?_)
    replace q := gen_g M q
    obtain ⟨g_6, -, M, q⟩ := q
    cases q
    exact x_vret hx hb hr hlk M Ext.rf dX7_tellEntry_39
set_option maxRecDepth 100000 in
theorem c_X7_tellEntry {l : Launch} {D : va_G} {cA : Nat → ClassId} {lo tS N : Nat} {S : Hs} {g g1 : Hg} {rv : Unit} {a0 : Nat} {x1 : Int32} {y2 : Int64} (ra0 : Rf lo S a0 7) (q : f_X7_tellEntry N S g a0 x1 y2 = some (rv, g1)) {d : Nat} (hd : 1 ≤ d) : Ctr l yX7_tellEntry cX7_tellEntry 4 none D cA lo tS [.ref a0, .int x1, .long y2] S g d none S g1 True 0 0 := by
  refine x_met (by decide) (Nat.le_of_ble_eq_true rfl) ?_
  intro p e s m below meth c ls hx hb hml hr hlk hown hnm hX M hl
  exact w_X7_tellEntry_0 hx hb hml hr hlk hown hX hd (Nat.mul_le_mul_left 60 hd) (N := N) _ _ _ _ _ _ _ M ra0 (lv_sub hl [0, 1, 2] rfl) q
def b_X7_copy_82 (N : Nat) (k82 : Hs → Hg → Nat → Nat → Int32 → Option (Unit × Hs × Hg × Nat × Nat)) (S : Hs) (g : Hg) (a0 : Nat) (a1 : Nat) (x2 : Int32) : Option (Unit × Hs × Hg × Nat × Nat) :=
if (rdI g a1 4) ≤ x2 then (
some ((), S, g, 0, 0)) else (
nn (rdR g a1 2) (fun a_2 =>
c5 (f_X7_tellStep N S g a0 a_2 x2) (fun u_4 S_5 g_3 =>
nm (x2 + 1) (fun x_10 =>
k82 S_5 g_3 a0 a1 x_10))))
def n_X7_copy_82 (N : Nat) : Nat → Hs → Hg → Nat → Nat → Int32 → Option (Unit × Hs × Hg × Nat × Nat)
  | 0 => fun _ _ _ _ _ => none
  | n + 1 => fun S g a0 a1 x2 => b_X7_copy_82 N (n_X7_copy_82 N n) S g a0 a1 x2
def b_X7_copy_50 (N : Nat) (k50 : Hs → Hg → Nat → Nat → Int32 → Option (Unit × Hs × Hg × Nat × Nat)) (S : Hs) (g : Hg) (a0 : Nat) (a1 : Nat) (x2 : Int32) : Option (Unit × Hs × Hg × Nat × Nat) :=
if (rdI g a1 3) ≤ x2 then (
n_X7_copy_82 N N S g a0 a1 (0 : Int32)) else (
nn (rdR g a1 0) (fun a_2 =>
ck (inb x2 (hpL S a_2)) (
nn (rdR g a1 1) (fun a_3 =>
ck (inb x2 (hpL S a_3)) (
c2 (f_X7_tellEntry N S g a0 (rdI g a_2 x2.toNatClampNeg) (rdL g a_3 x2.toNatClampNeg)) (fun u_5 g_4 =>
nm (x2 + 1) (fun x_6 =>
k50 S g_4 a0 a1 x_6)))))))
def n_X7_copy_50 (N : Nat) : Nat → Hs → Hg → Nat → Nat → Int32 → Option (Unit × Hs × Hg × Nat × Nat)
  | 0 => fun _ _ _ _ _ => none
  | n + 1 => fun S g a0 a1 x2 => b_X7_copy_50 N (n_X7_copy_50 N n) S g a0 a1 x2
def b_X7_copy_0 (N : Nat) (S : Hs) (g : Hg) (a0 : Nat) (a1 : Nat) : Option (Unit × Hs × Hg × Nat × Nat) :=
c2 (f_X7_begin N S g a0 (rdI g a1 5) (rdI g a1 6) (rdI g a1 7)) (fun u_2 g_1 =>
nm (wrI g_1 a0 8 (rdI g_1 a1 8)) (fun g_3 =>
nm (wrI g_3 a0 9 (rdI g_3 a1 9)) (fun g_4 =>
nm (wrI g_4 a0 10 (rdI g_4 a1 10)) (fun g_5 =>
nm (wrI g_5 a0 11 (rdI g_5 a1 11)) (fun g_6 =>
n_X7_copy_50 N N S g_6 a0 a1 (0 : Int32))))))
def f_X7_copy (N : Nat) (S : Hs) (g : Hg) (a0 : Nat) (a1 : Nat) : Option (Unit × Hs × Hg × Nat × Nat) := b_X7_copy_0 N S g a0 a1
set_option maxHeartbeats 4000000 in
set_option maxRecDepth 100000 in
theorem w_X7_copy_82 (hx : p.tables.exec = Jvm.exec) (hb : c.code = cX7_copy) (hml : c.maxLocals = 3) (hr : meth.sig.returnType = none) (hlk : meth.locks = false) (hown : s.vm.findClass RX7 = some m.cls) (hX : Kx D cA lo tS s) (hRf : 4 ≤ R.frames) (hRl : 240 ≤ R.locals) {N : Nat} {rv : Unit} {g1 : Hg} {S0 S1 : Hs} {cT wT : Nat} (hRc : cT ≤ R.cells) (hRs : wT ≤ R.slots) {k82 : Hs → Hg → Nat → Nat → Int32 → Option (Unit × Hs × Hg × Nat × Nat)} (hk82 : ∀ (H : Heap) (locs : List Loc) (ls : Array Slot) (cells slots k w : Nat) (S : Hs) (g : Hg) (a0 : Nat) (a1 : Nat) (x2 : Int32), Mm D cA lo S g s H locs → Ext lo S0 S → Rf lo S a0 7 → Rf lo S a1 7 → lv_has ls 3 [(0, .ref a0), (1, .ref a1), (2, .int x2)] → k82 S g a0 a1 x2 = some (rv, S1, g1, k, w) → cells + k = cT → slots + w = wT → W p l e R s m args below meth c H locs cells slots (MQ below (Qcx D cA lo S0 none S1 g1 True) args s cT wT (fun q : Nat => lo ≤ q)) (F0 m 82 ls [])) : ∀ (H : Heap) (locs : List Loc) (ls : Array Slot) (cells slots k w : Nat) (S : Hs) (g : Hg) (a0 : Nat) (a1 : Nat) (x2 : Int32), Mm D cA lo S g s H locs → Ext lo S0 S → Rf lo S a0 7 → Rf lo S a1 7 → lv_has ls 3 [(0, .ref a0), (1, .ref a1), (2, .int x2)] → b_X7_copy_82 N k82 S g a0 a1 x2 = some (rv, S1, g1, k, w) → cells + k = cT → slots + w = wT → W p l e R s m args below meth c H locs cells slots (MQ below (Qcx D cA lo S0 none S1 g1 True) args s cT wT (fun q : Nat => lo ≤ q)) (F0 m 82 ls []) := by
  intro H locs ls cells slots k w S g a0 a1 x2 M hE ra0 ra1 hl q hc hs
  unfold b_X7_copy_82 at q
  refine lv_iload_n hx hb dX7_copy_82 rfl (lv_at hl 2 rfl) ?_
  refine lv_aload_n hx hb dX7_copy_83 rfl (lv_at hl 1 rfl) ?_
  refine x_getI hx hb hown hX M (k := 4) okX7 ra1 (by decide) rfl kw_192 dX7_copy_84 ?_
  refine lv_icmp_ge (tgt := 105) hx hb dX7_copy_87 (by decide) (fun c_1 => ?_) (fun c_1 => ?_)
  · replace q := if_t c_1 q
    cases q
    have hc : cells = cT := hc
    have hs : slots = wT := hs
    subst hc
    subst hs
    exact x_vret hx hb hr hlk M hE dX7_copy_105
  · replace q := if_f c_1 q
    refine lv_aload_n hx hb dX7_copy_90 rfl (lv_at hl 0 rfl) ?_
    refine lv_aload_n hx hb dX7_copy_91 rfl (lv_at hl 1 rfl) ?_
    replace q := nn_s q
    obtain ⟨a_2, e_a_2, q⟩ := q
    refine x_getR hx hb hown hX M e_a_2 okX7 ra1 (by decide) rfl kw_186 dX7_copy_92 (fun ra_2 => ?_)
    refine lv_iload_n hx hb dX7_copy_95 rfl (lv_at hl 2 rfl) ?_
    replace q := c5_s q
    obtain ⟨u_4, S_5, g_3, k_6, w_7, k_8, w_9, qc, ek, ew, q⟩ := q
    refine x_callV hx hb hml hl.1 hown hX M (As := [.ref a_2, .int x2]) (rest := []) okX7 ra0 rfl kw_757 kw_758 mok_X7_tellStep (c_X7_tellStep ra0 ra_2 qc (Nat.le_refl 3)) kw_995 rfl rfl dX7_copy_96 (Nat.le_of_ble_eq_true rfl) ⟨Nat.le_trans (by decide) hRf, Nat.le_trans (by decide) hRl⟩ (hb_step hc ek hRc) (hb_step hs ew hRs) (fun H locs M hEF => ?_)
    replace ra0 := ra0.ext hEF.1
    replace ra1 := ra1.ext hEF.1
    replace hE := hE.tr hEF.1
    replace hc := hc_step hc ek
    replace hs := hc_step hs ew
    clear ek ew
    obtain ⟨x_10, e_x_10⟩ : ∃ y : Int32, y = x2 + 1 := ⟨_, rfl⟩
    replace q := nm_s q e_x_10
    refine lv_iinc (v := x_10) (lv' := [(2, .int x_10), (0, .ref a0), (1, .ref a1)]) hx hb dX7_copy_99 hl (k := 2) rfl (by rw [e_x_10]; rfl) (by decide) rfl (fun ls hl => ?_)
    refine lv_goto (tgt := 82) hx hb dX7_copy_102 (by decide) ?_
    exact hk82 _ _ _ _ _ _ _ _ _ _ _ _ M hE ra0 ra1 (lv_sub hl [1, 2, 0] rfl) q hc hs
set_option maxRecDepth 100000 in
theorem l_X7_copy_82 (hx : p.tables.exec = Jvm.exec) (hb : c.code = cX7_copy) (hml : c.maxLocals = 3) (hr : meth.sig.returnType = none) (hlk : meth.locks = false) (hown : s.vm.findClass RX7 = some m.cls) (hX : Kx D cA lo tS s) (hRf : 4 ≤ R.frames) (hRl : 240 ≤ R.locals) {N : Nat} {rv : Unit} {g1 : Hg} {S0 S1 : Hs} {cT wT : Nat} (hRc : cT ≤ R.cells) (hRs : wT ≤ R.slots) : ∀ (n : Nat), ∀ (H : Heap) (locs : List Loc) (ls : Array Slot) (cells slots k w : Nat) (S : Hs) (g : Hg) (a0 : Nat) (a1 : Nat) (x2 : Int32), Mm D cA lo S g s H locs → Ext lo S0 S → Rf lo S a0 7 → Rf lo S a1 7 → lv_has ls 3 [(0, .ref a0), (1, .ref a1), (2, .int x2)] → n_X7_copy_82 N n S g a0 a1 x2 = some (rv, S1, g1, k, w) → cells + k = cT → slots + w = wT → W p l e R s m args below meth c H locs cells slots (MQ below (Qcx D cA lo S0 none S1 g1 True) args s cT wT (fun q : Nat => lo ≤ q)) (F0 m 82 ls []) := by
  intro n
  induction n with
  | zero =>
    intro H locs ls cells slots k w S g a0 a1 x2 M hE ra0 ra1 hl q hc hs
    exact absurd q (by simp [n_X7_copy_82])
  | succ n ih => exact w_X7_copy_82 hx hb hml hr hlk hown hX hRf hRl (N := N) hRc hRs  ih
set_option maxHeartbeats 4000000 in
set_option maxRecDepth 100000 in
theorem w_X7_copy_50 (hx : p.tables.exec = Jvm.exec) (hb : c.code = cX7_copy) (hml : c.maxLocals = 3) (hr : meth.sig.returnType = none) (hlk : meth.locks = false) (hown : s.vm.findClass RX7 = some m.cls) (hX : Kx D cA lo tS s) (hRf : 4 ≤ R.frames) (hRl : 240 ≤ R.locals) {N : Nat} {rv : Unit} {g1 : Hg} {S0 S1 : Hs} {cT wT : Nat} (hRc : cT ≤ R.cells) (hRs : wT ≤ R.slots) {k50 : Hs → Hg → Nat → Nat → Int32 → Option (Unit × Hs × Hg × Nat × Nat)} (hk50 : ∀ (H : Heap) (locs : List Loc) (ls : Array Slot) (cells slots k w : Nat) (S : Hs) (g : Hg) (a0 : Nat) (a1 : Nat) (x2 : Int32), Mm D cA lo S g s H locs → Ext lo S0 S → Rf lo S a0 7 → Rf lo S a1 7 → lv_has ls 3 [(0, .ref a0), (1, .ref a1), (2, .int x2)] → k50 S g a0 a1 x2 = some (rv, S1, g1, k, w) → cells + k = cT → slots + w = wT → W p l e R s m args below meth c H locs cells slots (MQ below (Qcx D cA lo S0 none S1 g1 True) args s cT wT (fun q : Nat => lo ≤ q)) (F0 m 50 ls [])) : ∀ (H : Heap) (locs : List Loc) (ls : Array Slot) (cells slots k w : Nat) (S : Hs) (g : Hg) (a0 : Nat) (a1 : Nat) (x2 : Int32), Mm D cA lo S g s H locs → Ext lo S0 S → Rf lo S a0 7 → Rf lo S a1 7 → lv_has ls 3 [(0, .ref a0), (1, .ref a1), (2, .int x2)] → b_X7_copy_50 N k50 S g a0 a1 x2 = some (rv, S1, g1, k, w) → cells + k = cT → slots + w = wT → W p l e R s m args below meth c H locs cells slots (MQ below (Qcx D cA lo S0 none S1 g1 True) args s cT wT (fun q : Nat => lo ≤ q)) (F0 m 50 ls []) := by
  intro H locs ls cells slots k w S g a0 a1 x2 M hE ra0 ra1 hl q hc hs
  unfold b_X7_copy_50 at q
  refine lv_iload_n hx hb dX7_copy_50 rfl (lv_at hl 2 rfl) ?_
  refine lv_aload_n hx hb dX7_copy_51 rfl (lv_at hl 1 rfl) ?_
  refine x_getI hx hb hown hX M (k := 3) okX7 ra1 (by decide) rfl kw_189 dX7_copy_52 ?_
  refine lv_icmp_ge (tgt := 80) hx hb dX7_copy_55 (by decide) (fun c_1 => ?_) (fun c_1 => ?_)
  · replace q := if_t c_1 q
    refine lv_iconst (v := 0) hx hb dX7_copy_80 (by decide) ?_
    refine lv_istore_n (lv' := [(2, .int (0 : Int32)), (0, .ref a0), (1, .ref a1)]) hx hb dX7_copy_81 rfl hl (by decide) rfl (fun ls hl => ?_)
    exact l_X7_copy_82 hx hb hml hr hlk hown hX hRf hRl (N := N) hRc hRs  N _ _ _ _ _ _ _ _ _ _ _ _ M hE ra0 ra1 (lv_sub hl [1, 2, 0] rfl) q hc hs
  · replace q := if_f c_1 q
    refine lv_aload_n hx hb dX7_copy_58 rfl (lv_at hl 0 rfl) ?_
    refine lv_aload_n hx hb dX7_copy_59 rfl (lv_at hl 1 rfl) ?_
    replace q := nn_s q
    obtain ⟨a_2, e_a_2, q⟩ := q
    refine x_getR hx hb hown hX M e_a_2 okX7 ra1 (by decide) rfl kw_180 dX7_copy_60 (fun ra_2 => ?_)
    refine lv_iload_n hx hb dX7_copy_63 rfl (lv_at hl 2 rfl) ?_
    replace q := ck_s q
    obtain ⟨hin, q⟩ := q
    refine x_iald hx hb hX M ra_2 (inb_in hin) dX7_copy_64 ?_
    refine lv_aload_n hx hb dX7_copy_65 rfl (lv_at hl 1 rfl) ?_
    replace q := nn_s q
    obtain ⟨a_3, e_a_3, q⟩ := q
    refine x_getR hx hb hown hX M e_a_3 okX7 ra1 (by decide) rfl kw_183 dX7_copy_66 (fun ra_3 => ?_)
    refine lv_iload_n hx hb dX7_copy_69 rfl (lv_at hl 2 rfl) ?_
    replace q := ck_s q
    obtain ⟨hin, q⟩ := q
    refine x_lald hx hb hX M ra_3 (inb_in hin) dX7_copy_70 ?_
    replace q := c2_s q
    obtain ⟨u_5, g_4, qc, q⟩ := q
    refine x_callV hx hb hml hl.1 hown hX M (S1 := S) (As := [.int (rdI g a_2 x2.toNatClampNeg), .long (rdL g a_3 x2.toNatClampNeg)]) (rest := []) okX7 ra0 rfl kw_749 kw_750 mok_X7_tellEntry (c_X7_tellEntry ra0 qc (Nat.le_refl 1)) kw_994 rfl rfl dX7_copy_71 (Nat.le_of_ble_eq_true rfl) ⟨Nat.le_trans (by decide) hRf, Nat.le_trans (by decide) hRl⟩ (hz_step hc hRc) (hz_step hs hRs) (fun H locs M hEF => ?_)
    obtain ⟨x_6, e_x_6⟩ : ∃ y : Int32, y = x2 + 1 := ⟨_, rfl⟩
    replace q := nm_s q e_x_6
    refine lv_iinc (v := x_6) (lv' := [(2, .int x_6), (0, .ref a0), (1, .ref a1)]) hx hb dX7_copy_74 hl (k := 2) rfl (by rw [e_x_6]; rfl) (by decide) rfl (fun ls hl => ?_)
    refine lv_goto (tgt := 50) hx hb dX7_copy_77 (by decide) ?_
    exact hk50 _ _ _ _ _ _ _ _ _ _ _ _ M hE ra0 ra1 (lv_sub hl [1, 2, 0] rfl) q hc hs
set_option maxRecDepth 100000 in
theorem l_X7_copy_50 (hx : p.tables.exec = Jvm.exec) (hb : c.code = cX7_copy) (hml : c.maxLocals = 3) (hr : meth.sig.returnType = none) (hlk : meth.locks = false) (hown : s.vm.findClass RX7 = some m.cls) (hX : Kx D cA lo tS s) (hRf : 4 ≤ R.frames) (hRl : 240 ≤ R.locals) {N : Nat} {rv : Unit} {g1 : Hg} {S0 S1 : Hs} {cT wT : Nat} (hRc : cT ≤ R.cells) (hRs : wT ≤ R.slots) : ∀ (n : Nat), ∀ (H : Heap) (locs : List Loc) (ls : Array Slot) (cells slots k w : Nat) (S : Hs) (g : Hg) (a0 : Nat) (a1 : Nat) (x2 : Int32), Mm D cA lo S g s H locs → Ext lo S0 S → Rf lo S a0 7 → Rf lo S a1 7 → lv_has ls 3 [(0, .ref a0), (1, .ref a1), (2, .int x2)] → n_X7_copy_50 N n S g a0 a1 x2 = some (rv, S1, g1, k, w) → cells + k = cT → slots + w = wT → W p l e R s m args below meth c H locs cells slots (MQ below (Qcx D cA lo S0 none S1 g1 True) args s cT wT (fun q : Nat => lo ≤ q)) (F0 m 50 ls []) := by
  intro n
  induction n with
  | zero =>
    intro H locs ls cells slots k w S g a0 a1 x2 M hE ra0 ra1 hl q hc hs
    exact absurd q (by simp [n_X7_copy_50])
  | succ n ih => exact w_X7_copy_50 hx hb hml hr hlk hown hX hRf hRl (N := N) hRc hRs  ih
set_option maxHeartbeats 4000000 in
set_option maxRecDepth 100000 in
theorem w_X7_copy_0 (hx : p.tables.exec = Jvm.exec) (hb : c.code = cX7_copy) (hml : c.maxLocals = 3) (hr : meth.sig.returnType = none) (hlk : meth.locks = false) (hown : s.vm.findClass RX7 = some m.cls) (hX : Kx D cA lo tS s) (hRf : 4 ≤ R.frames) (hRl : 240 ≤ R.locals) {N : Nat} {rv : Unit} {g1 : Hg} {S0 S1 : Hs} {cT wT : Nat} (hRc : cT ≤ R.cells) (hRs : wT ≤ R.slots) : ∀ (H : Heap) (locs : List Loc) (ls : Array Slot) (cells slots k w : Nat) (S : Hs) (g : Hg) (a0 : Nat) (a1 : Nat), Mm D cA lo S g s H locs → Ext lo S0 S → Rf lo S a0 7 → Rf lo S a1 7 → lv_has ls 3 [(0, .ref a0), (1, .ref a1)] → b_X7_copy_0 N S g a0 a1 = some (rv, S1, g1, k, w) → cells + k = cT → slots + w = wT → W p l e R s m args below meth c H locs cells slots (MQ below (Qcx D cA lo S0 none S1 g1 True) args s cT wT (fun q : Nat => lo ≤ q)) (F0 m 0 ls []) := by
  intro H locs ls cells slots k w S g a0 a1 M hE ra0 ra1 hl q hc hs
  unfold b_X7_copy_0 at q
  refine lv_aload_n hx hb dX7_copy_0 rfl (lv_at hl 0 rfl) ?_
  refine lv_aload_n hx hb dX7_copy_1 rfl (lv_at hl 1 rfl) ?_
  refine x_getI hx hb hown hX M (k := 5) okX7 ra1 (by decide) rfl kw_195 dX7_copy_2 ?_
  refine lv_aload_n hx hb dX7_copy_5 rfl (lv_at hl 1 rfl) ?_
  refine x_getI hx hb hown hX M (k := 6) okX7 ra1 (by decide) rfl kw_199 dX7_copy_6 ?_
  refine lv_aload_n hx hb dX7_copy_9 rfl (lv_at hl 1 rfl) ?_
  refine x_getI hx hb hown hX M (k := 7) okX7 ra1 (by decide) rfl kw_202 dX7_copy_10 ?_
  replace q := c2_s q
  obtain ⟨u_2, g_1, qc, q⟩ := q
  refine x_callV hx hb hml hl.1 hown hX M (S1 := S) (As := [.int (rdI g a1 5), .int (rdI g a1 6), .int (rdI g a1 7)]) (rest := []) okX7 ra0 rfl kw_736 kw_737 mok_X7_begin (c_X7_begin ra0 qc (Nat.le_refl 1)) kw_993 rfl rfl dX7_copy_13 (Nat.le_of_ble_eq_true rfl) ⟨Nat.le_trans (by decide) hRf, Nat.le_trans (by decide) hRl⟩ (hz_step hc hRc) (hz_step hs hRs) (fun H locs M hEF => ?_)
  refine lv_aload_n hx hb dX7_copy_16 rfl (lv_at hl 0 rfl) ?_
  refine lv_aload_n hx hb dX7_copy_17 rfl (lv_at hl 1 rfl) ?_
  refine x_getI hx hb hown hX M (k := 8) okX7 ra1 (by decide) rfl kw_205 dX7_copy_18 ?_
  refine x_putI hx hb hown hX M (k := 8) okX7 ra0 (by decide) rfl (Or.inl rfl) rfl rfl kw_205 dX7_copy_21 (fun H locs M => ?_)
  replace q := gen_g M q
  obtain ⟨g_3, -, M, q⟩ := q
  refine lv_aload_n hx hb dX7_copy_24 rfl (lv_at hl 0 rfl) ?_
  refine lv_aload_n hx hb dX7_copy_25 rfl (lv_at hl 1 rfl) ?_
  refine x_getI hx hb hown hX M (k := 9) okX7 ra1 (by decide) rfl kw_207 dX7_copy_26 ?_
  refine x_putI hx hb hown hX M (k := 9) okX7 ra0 (by decide) rfl (Or.inl rfl) rfl rfl kw_207 dX7_copy_29 (fun H locs M => ?_)
  replace q := gen_g M q
  obtain ⟨g_4, -, M, q⟩ := q
  refine lv_aload_n hx hb dX7_copy_32 rfl (lv_at hl 0 rfl) ?_
  refine lv_aload_n hx hb dX7_copy_33 rfl (lv_at hl 1 rfl) ?_
  refine x_getI hx hb hown hX M (k := 10) okX7 ra1 (by decide) rfl kw_211 dX7_copy_34 ?_
  refine x_putI hx hb hown hX M (k := 10) okX7 ra0 (by decide) rfl (Or.inl rfl) rfl rfl kw_211 dX7_copy_37 (fun H locs M => ?_)
  replace q := gen_g M q
  obtain ⟨g_5, -, M, q⟩ := q
  refine lv_aload_n hx hb dX7_copy_40 rfl (lv_at hl 0 rfl) ?_
  refine lv_aload_n hx hb dX7_copy_41 rfl (lv_at hl 1 rfl) ?_
  refine x_getI hx hb hown hX M (k := 11) okX7 ra1 (by decide) rfl kw_214 dX7_copy_42 ?_
  refine x_putI hx hb hown hX M (k := 11) okX7 ra0 (by decide) rfl (Or.inl rfl) rfl rfl kw_214 dX7_copy_45 (fun H locs M => ?_)
  replace q := gen_g M q
  obtain ⟨g_6, -, M, q⟩ := q
  refine lv_iconst (v := 0) hx hb dX7_copy_48 (by decide) ?_
  refine lv_istore_n (lv' := [(2, .int (0 : Int32)), (0, .ref a0), (1, .ref a1)]) hx hb dX7_copy_49 rfl hl (by decide) rfl (fun ls hl => ?_)
  exact l_X7_copy_50 hx hb hml hr hlk hown hX hRf hRl (N := N) hRc hRs  N _ _ _ _ _ _ _ _ _ _ _ _ M hE ra0 ra1 (lv_sub hl [1, 2, 0] rfl) q hc hs
set_option maxRecDepth 100000 in
theorem c_X7_copy {l : Launch} {D : va_G} {cA : Nat → ClassId} {lo tS N : Nat} {S S1 : Hs} {g g1 : Hg} {k w : Nat} {rv : Unit} {a0 : Nat} {a1 : Nat} (ra0 : Rf lo S a0 7) (ra1 : Rf lo S a1 7) (q : f_X7_copy N S g a0 a1 = some (rv, S1, g1, k, w)) {d : Nat} (hd : 4 ≤ d) : Ctr l yX7_copy cX7_copy 3 none D cA lo tS [.ref a0, .ref a1] S g d none S1 g1 True k w := by
  refine x_met (by decide) (Nat.le_of_ble_eq_true rfl) ?_
  intro p e s m below meth c ls hx hb hml hr hlk hown hnm hX M hl
  exact w_X7_copy_0 hx hb hml hr hlk hown hX hd (Nat.mul_le_mul_left 60 hd) (N := N) (Nat.le_refl k) (Nat.le_refl w) _ _ _ _ _ _ _ _ _ _ _ M Ext.rf ra0 ra1 (lv_sub hl [0, 1] rfl) q (Nat.zero_add k) (Nat.zero_add w)
def b_X1_copy_160 (N : Nat) (k160 : Hs → Hg → Nat → Nat → Int32 → Option (Unit × Hs × Hg × Nat × Nat)) (S : Hs) (g : Hg) (a0 : Nat) (a1 : Nat) (x2 : Int32) : Option (Unit × Hs × Hg × Nat × Nat) :=
if (8 : Int32) ≤ x2 then (
some ((), S, g, 0, 0)) else (
nn (rdR g a0 8) (fun a_2 =>
ck (inb x2 (hpL S a_2)) (
nn (rdR g a_2 x2.toNatClampNeg) (fun a_3 =>
nn (rdR g a1 8) (fun a_4 =>
ck (inb x2 (hpL S a_4)) (
nn (rdR g a_4 x2.toNatClampNeg) (fun a_5 =>
c2 (f_X10_copy N S g a_3 a_5) (fun u_7 g_6 =>
nm (x2 + 1) (fun x_8 =>
k160 S g_6 a0 a1 x_8)))))))))
def n_X1_copy_160 (N : Nat) : Nat → Hs → Hg → Nat → Nat → Int32 → Option (Unit × Hs × Hg × Nat × Nat)
  | 0 => fun _ _ _ _ _ => none
  | n + 1 => fun S g a0 a1 x2 => b_X1_copy_160 N (n_X1_copy_160 N n) S g a0 a1 x2
def b_X1_copy_119 (N : Nat) (k119 : Hs → Hg → Nat → Nat → Int32 → Option (Unit × Hs × Hg × Nat × Nat)) (S : Hs) (g : Hg) (a0 : Nat) (a1 : Nat) (x2 : Int32) : Option (Unit × Hs × Hg × Nat × Nat) :=
if (12 : Int32) ≤ x2 then (
n_X1_copy_160 N N S g a0 a1 (0 : Int32)) else (
nn (rdR g a0 3) (fun a_2 =>
ck (inb x2 (hpL S a_2)) (
nn (rdR g a_2 x2.toNatClampNeg) (fun a_3 =>
nn (rdR g a1 3) (fun a_4 =>
ck (inb x2 (hpL S a_4)) (
nn (rdR g a_4 x2.toNatClampNeg) (fun a_5 =>
c2 (f_X0_copy N S g a_3 a_5) (fun u_7 g_6 =>
nn (rdR g_6 a0 4) (fun a_8 =>
nn (rdR g_6 a1 4) (fun a_9 =>
ck (inb x2 (hpL S a_9)) (
ck (inb x2 (hpL S a_8)) (
nm (wrI g_6 a_8 x2.toNatClampNeg (rdI g_6 a_9 x2.toNatClampNeg)) (fun g_10 =>
nm (x2 + 1) (fun x_11 =>
k119 S g_10 a0 a1 x_11))))))))))))))
def n_X1_copy_119 (N : Nat) : Nat → Hs → Hg → Nat → Nat → Int32 → Option (Unit × Hs × Hg × Nat × Nat)
  | 0 => fun _ _ _ _ _ => none
  | n + 1 => fun S g a0 a1 x2 => b_X1_copy_119 N (n_X1_copy_119 N n) S g a0 a1 x2
def b_X1_copy_90 (N : Nat) (k90 : Hs → Hg → Nat → Nat → Int32 → Option (Unit × Hs × Hg × Nat × Nat)) (S : Hs) (g : Hg) (a0 : Nat) (a1 : Nat) (x2 : Int32) : Option (Unit × Hs × Hg × Nat × Nat) :=
if (16 : Int32) ≤ x2 then (
n_X1_copy_119 N N S g a0 a1 (0 : Int32)) else (
nn (rdR g a0 2) (fun a_2 =>
ck (inb x2 (hpL S a_2)) (
nn (rdR g a_2 x2.toNatClampNeg) (fun a_3 =>
nn (rdR g a1 2) (fun a_4 =>
ck (inb x2 (hpL S a_4)) (
nn (rdR g a_4 x2.toNatClampNeg) (fun a_5 =>
c5 (f_X7_copy N S g a_3 a_5) (fun u_7 S_8 g_6 =>
nm (x2 + 1) (fun x_13 =>
k90 S_8 g_6 a0 a1 x_13)))))))))
def n_X1_copy_90 (N : Nat) : Nat → Hs → Hg → Nat → Nat → Int32 → Option (Unit × Hs × Hg × Nat × Nat)
  | 0 => fun _ _ _ _ _ => none
  | n + 1 => fun S g a0 a1 x2 => b_X1_copy_90 N (n_X1_copy_90 N n) S g a0 a1 x2
def b_X1_copy_60 (N : Nat) (k60 : Hs → Hg → Nat → Nat → Int32 → Option (Unit × Hs × Hg × Nat × Nat)) (S : Hs) (g : Hg) (a0 : Nat) (a1 : Nat) (x2 : Int32) : Option (Unit × Hs × Hg × Nat × Nat) :=
if (rdI g a1 7) ≤ x2 then (
n_X1_copy_90 N N S g a0 a1 (0 : Int32)) else (
c2 (f_X1_firstBlamed N S g a1 x2) (fun o_3 g_2 =>
nn o_3 (fun a_4 =>
c2 (f_X1_secondBlamed N S g_2 a1 x2) (fun o_6 g_5 =>
nn o_6 (fun a_7 =>
c5 (f_X1_tellBlame N S g_5 a0 (some a_4) (some a_7)) (fun u_9 S_10 g_8 =>
nm (x2 + 1) (fun x_15 =>
k60 S_10 g_8 a0 a1 x_15)))))))
def n_X1_copy_60 (N : Nat) : Nat → Hs → Hg → Nat → Nat → Int32 → Option (Unit × Hs × Hg × Nat × Nat)
  | 0 => fun _ _ _ _ _ => none
  | n + 1 => fun S g a0 a1 x2 => b_X1_copy_60 N (n_X1_copy_60 N n) S g a0 a1 x2
def b_X1_copy_7 (N : Nat) (k7 : Hs → Hg → Nat → Nat → Int32 → Option (Unit × Hs × Hg × Nat × Nat)) (S : Hs) (g : Hg) (a0 : Nat) (a1 : Nat) (x2 : Int32) : Option (Unit × Hs × Hg × Nat × Nat) :=
if (rdI g a1 1) ≤ x2 then (
nm (wrI g a0 7 (0 : Int32)) (fun g_2 =>
n_X1_copy_60 N N S g_2 a0 a1 (0 : Int32))) else (
nn (rdR g a1 0) (fun a_3 =>
ck (inb x2 (hpL S a_3)) (
nm (rdR g a_3 x2.toNatClampNeg) (fun o_5 =>
c5 (f_X1_nextLog N S g a0) (fun o_7 S_8 g_6 =>
on o_5 (
nm (x2 + 1) (fun x_14 =>
k7 S_8 g_6 a0 a1 x_14)) (fun a_13 =>
on o_7 (
nm (x2 + 1) (fun x_16 =>
k7 S_8 g_6 a0 a1 x_16)) (fun a_15 =>
c2 (f_X3_copyFirst N S_8 g_6 a_15 a_13 (rdI g_6 a_13 7)) (fun u_18 g_17 =>
nm (x2 + 1) (fun x_19 =>
k7 S_8 g_17 a0 a1 x_19)))))))))
def n_X1_copy_7 (N : Nat) : Nat → Hs → Hg → Nat → Nat → Int32 → Option (Unit × Hs × Hg × Nat × Nat)
  | 0 => fun _ _ _ _ _ => none
  | n + 1 => fun S g a0 a1 x2 => b_X1_copy_7 N (n_X1_copy_7 N n) S g a0 a1 x2
def b_X1_copy_0 (N : Nat) (S : Hs) (g : Hg) (a0 : Nat) (a1 : Nat) : Option (Unit × Hs × Hg × Nat × Nat) :=
nm (wrI g a0 1 (0 : Int32)) (fun g_1 =>
n_X1_copy_7 N N S g_1 a0 a1 (0 : Int32))
def f_X1_copy (N : Nat) (S : Hs) (g : Hg) (a0 : Nat) (a1 : Nat) : Option (Unit × Hs × Hg × Nat × Nat) := b_X1_copy_0 N S g a0 a1
set_option maxHeartbeats 4000000 in
set_option maxRecDepth 100000 in
theorem w_X1_copy_160 (hx : p.tables.exec = Jvm.exec) (hb : c.code = cX1_copy) (hml : c.maxLocals = 5) (hr : meth.sig.returnType = none) (hlk : meth.locks = false) (hown : s.vm.findClass RX1 = some m.cls) (hX : Kx D cA lo tS s) (hRf : 5 ≤ R.frames) (hRl : 300 ≤ R.locals) {N : Nat} {rv : Unit} {g1 : Hg} {S0 S1 : Hs} {cT wT : Nat} (hRc : cT ≤ R.cells) (hRs : wT ≤ R.slots) {k160 : Hs → Hg → Nat → Nat → Int32 → Option (Unit × Hs × Hg × Nat × Nat)} (hk160 : ∀ (H : Heap) (locs : List Loc) (ls : Array Slot) (cells slots k w : Nat) (S : Hs) (g : Hg) (a0 : Nat) (a1 : Nat) (x2 : Int32), Mm D cA lo S g s H locs → Ext lo S0 S → Rf lo S a0 1 → Rf lo S a1 1 → lv_has ls 5 [(0, .ref a0), (1, .ref a1), (2, .int x2)] → k160 S g a0 a1 x2 = some (rv, S1, g1, k, w) → cells + k = cT → slots + w = wT → W p l e R s m args below meth c H locs cells slots (MQ below (Qcx D cA lo S0 none S1 g1 True) args s cT wT (fun q : Nat => lo ≤ q)) (F0 m 160 ls [])) : ∀ (H : Heap) (locs : List Loc) (ls : Array Slot) (cells slots k w : Nat) (S : Hs) (g : Hg) (a0 : Nat) (a1 : Nat) (x2 : Int32), Mm D cA lo S g s H locs → Ext lo S0 S → Rf lo S a0 1 → Rf lo S a1 1 → lv_has ls 5 [(0, .ref a0), (1, .ref a1), (2, .int x2)] → b_X1_copy_160 N k160 S g a0 a1 x2 = some (rv, S1, g1, k, w) → cells + k = cT → slots + w = wT → W p l e R s m args below meth c H locs cells slots (MQ below (Qcx D cA lo S0 none S1 g1 True) args s cT wT (fun q : Nat => lo ≤ q)) (F0 m 160 ls []) := by
  intro H locs ls cells slots k w S g a0 a1 x2 M hE ra0 ra1 hl q hc hs
  unfold b_X1_copy_160 at q
  refine lv_iload_n hx hb dX1_copy_160 rfl (lv_at hl 2 rfl) ?_
  refine lv_bipush (v := 8) hx hb dX1_copy_161 (by decide) ?_
  refine lv_icmp_ge (tgt := 187) hx hb dX1_copy_163 (by decide) (fun c_1 => ?_) (fun c_1 => ?_)
  · replace q := if_t c_1 q
    cases q
    have hc : cells = cT := hc
    have hs : slots = wT := hs
    subst hc
    subst hs
    exact x_vret hx hb hr hlk M hE dX1_copy_187
  · replace q := if_f c_1 q
    refine lv_aload_n hx hb dX1_copy_166 rfl (lv_at hl 0 rfl) ?_
    replace q := nn_s q
    obtain ⟨a_2, e_a_2, q⟩ := q
    refine x_getR hx hb hown hX M e_a_2 okX1 ra0 (by decide) rfl kw_331 dX1_copy_167 (fun ra_2 => ?_)
    refine lv_iload_n hx hb dX1_copy_170 rfl (lv_at hl 2 rfl) ?_
    replace q := ck_s q
    obtain ⟨hin, q⟩ := q
    replace q := nn_s q
    obtain ⟨a_3, e_a_3, q⟩ := q
    refine x_aaldn26 hx hb hX M ra_2 e_a_3 (inb_in hin) dX1_copy_171 (fun ra_3 => ?_)
    refine lv_aload_n hx hb dX1_copy_172 rfl (lv_at hl 1 rfl) ?_
    replace q := nn_s q
    obtain ⟨a_4, e_a_4, q⟩ := q
    refine x_getR hx hb hown hX M e_a_4 okX1 ra1 (by decide) rfl kw_331 dX1_copy_173 (fun ra_4 => ?_)
    refine lv_iload_n hx hb dX1_copy_176 rfl (lv_at hl 2 rfl) ?_
    replace q := ck_s q
    obtain ⟨hin, q⟩ := q
    replace q := nn_s q
    obtain ⟨a_5, e_a_5, q⟩ := q
    refine x_aaldn26 hx hb hX M ra_4 e_a_5 (inb_in hin) dX1_copy_177 (fun ra_5 => ?_)
    replace q := c2_s q
    obtain ⟨u_7, g_6, qc, q⟩ := q
    refine x_callV hx hb hml hl.1 hown hX M (S1 := S) (As := [.ref a_5]) (rest := []) okX10 ra_3 rfl kw_997 kw_998 mok_X10_copy (c_X10_copy ra_3 ra_5 qc (Nat.le_refl 1)) kw_996 rfl rfl dX1_copy_178 (Nat.le_of_ble_eq_true rfl) ⟨Nat.le_trans (by decide) hRf, Nat.le_trans (by decide) hRl⟩ (hz_step hc hRc) (hz_step hs hRs) (fun H locs M hEF => ?_)
    obtain ⟨x_8, e_x_8⟩ : ∃ y : Int32, y = x2 + 1 := ⟨_, rfl⟩
    replace q := nm_s q e_x_8
    refine lv_iinc (v := x_8) (lv' := [(2, .int x_8), (0, .ref a0), (1, .ref a1)]) hx hb dX1_copy_181 hl (k := 2) rfl (by rw [e_x_8]; rfl) (by decide) rfl (fun ls hl => ?_)
    refine lv_goto (tgt := 160) hx hb dX1_copy_184 (by decide) ?_
    exact hk160 _ _ _ _ _ _ _ _ _ _ _ _ M hE ra0 ra1 (lv_sub hl [1, 2, 0] rfl) q hc hs
set_option maxRecDepth 100000 in
theorem l_X1_copy_160 (hx : p.tables.exec = Jvm.exec) (hb : c.code = cX1_copy) (hml : c.maxLocals = 5) (hr : meth.sig.returnType = none) (hlk : meth.locks = false) (hown : s.vm.findClass RX1 = some m.cls) (hX : Kx D cA lo tS s) (hRf : 5 ≤ R.frames) (hRl : 300 ≤ R.locals) {N : Nat} {rv : Unit} {g1 : Hg} {S0 S1 : Hs} {cT wT : Nat} (hRc : cT ≤ R.cells) (hRs : wT ≤ R.slots) : ∀ (n : Nat), ∀ (H : Heap) (locs : List Loc) (ls : Array Slot) (cells slots k w : Nat) (S : Hs) (g : Hg) (a0 : Nat) (a1 : Nat) (x2 : Int32), Mm D cA lo S g s H locs → Ext lo S0 S → Rf lo S a0 1 → Rf lo S a1 1 → lv_has ls 5 [(0, .ref a0), (1, .ref a1), (2, .int x2)] → n_X1_copy_160 N n S g a0 a1 x2 = some (rv, S1, g1, k, w) → cells + k = cT → slots + w = wT → W p l e R s m args below meth c H locs cells slots (MQ below (Qcx D cA lo S0 none S1 g1 True) args s cT wT (fun q : Nat => lo ≤ q)) (F0 m 160 ls []) := by
  intro n
  induction n with
  | zero =>
    intro H locs ls cells slots k w S g a0 a1 x2 M hE ra0 ra1 hl q hc hs
    exact absurd q (by simp [n_X1_copy_160])
  | succ n ih => exact w_X1_copy_160 hx hb hml hr hlk hown hX hRf hRl (N := N) hRc hRs  ih
set_option maxHeartbeats 4000000 in
set_option maxRecDepth 100000 in
theorem w_X1_copy_119 (hx : p.tables.exec = Jvm.exec) (hb : c.code = cX1_copy) (hml : c.maxLocals = 5) (hr : meth.sig.returnType = none) (hlk : meth.locks = false) (hown : s.vm.findClass RX1 = some m.cls) (hX : Kx D cA lo tS s) (hRf : 5 ≤ R.frames) (hRl : 300 ≤ R.locals) {N : Nat} {rv : Unit} {g1 : Hg} {S0 S1 : Hs} {cT wT : Nat} (hRc : cT ≤ R.cells) (hRs : wT ≤ R.slots) {k119 : Hs → Hg → Nat → Nat → Int32 → Option (Unit × Hs × Hg × Nat × Nat)} (hk119 : ∀ (H : Heap) (locs : List Loc) (ls : Array Slot) (cells slots k w : Nat) (S : Hs) (g : Hg) (a0 : Nat) (a1 : Nat) (x2 : Int32), Mm D cA lo S g s H locs → Ext lo S0 S → Rf lo S a0 1 → Rf lo S a1 1 → lv_has ls 5 [(0, .ref a0), (1, .ref a1), (2, .int x2)] → k119 S g a0 a1 x2 = some (rv, S1, g1, k, w) → cells + k = cT → slots + w = wT → W p l e R s m args below meth c H locs cells slots (MQ below (Qcx D cA lo S0 none S1 g1 True) args s cT wT (fun q : Nat => lo ≤ q)) (F0 m 119 ls [])) : ∀ (H : Heap) (locs : List Loc) (ls : Array Slot) (cells slots k w : Nat) (S : Hs) (g : Hg) (a0 : Nat) (a1 : Nat) (x2 : Int32), Mm D cA lo S g s H locs → Ext lo S0 S → Rf lo S a0 1 → Rf lo S a1 1 → lv_has ls 5 [(0, .ref a0), (1, .ref a1), (2, .int x2)] → b_X1_copy_119 N k119 S g a0 a1 x2 = some (rv, S1, g1, k, w) → cells + k = cT → slots + w = wT → W p l e R s m args below meth c H locs cells slots (MQ below (Qcx D cA lo S0 none S1 g1 True) args s cT wT (fun q : Nat => lo ≤ q)) (F0 m 119 ls []) := by
  intro H locs ls cells slots k w S g a0 a1 x2 M hE ra0 ra1 hl q hc hs
  unfold b_X1_copy_119 at q
  refine lv_iload_n hx hb dX1_copy_119 rfl (lv_at hl 2 rfl) ?_
  refine lv_bipush (v := 12) hx hb dX1_copy_120 (by decide) ?_
  refine lv_icmp_ge (tgt := 158) hx hb dX1_copy_122 (by decide) (fun c_1 => ?_) (fun c_1 => ?_)
  · replace q := if_t c_1 q
    refine lv_iconst (v := 0) hx hb dX1_copy_158 (by decide) ?_
    refine lv_istore_n (lv' := [(2, .int (0 : Int32)), (0, .ref a0), (1, .ref a1)]) hx hb dX1_copy_159 rfl hl (by decide) rfl (fun ls hl => ?_)
    exact l_X1_copy_160 hx hb hml hr hlk hown hX hRf hRl (N := N) hRc hRs  N _ _ _ _ _ _ _ _ _ _ _ _ M hE ra0 ra1 (lv_sub hl [1, 2, 0] rfl) q hc hs
  · replace q := if_f c_1 q
    refine lv_aload_n hx hb dX1_copy_125 rfl (lv_at hl 0 rfl) ?_
    replace q := nn_s q
    obtain ⟨a_2, e_a_2, q⟩ := q
    refine x_getR hx hb hown hX M e_a_2 okX1 ra0 (by decide) rfl kw_323 dX1_copy_126 (fun ra_2 => ?_)
    refine lv_iload_n hx hb dX1_copy_129 rfl (lv_at hl 2 rfl) ?_
    replace q := ck_s q
    obtain ⟨hin, q⟩ := q
    replace q := nn_s q
    obtain ⟨a_3, e_a_3, q⟩ := q
    refine x_aaldn25 hx hb hX M ra_2 e_a_3 (inb_in hin) dX1_copy_130 (fun ra_3 => ?_)
    refine lv_aload_n hx hb dX1_copy_131 rfl (lv_at hl 1 rfl) ?_
    replace q := nn_s q
    obtain ⟨a_4, e_a_4, q⟩ := q
    refine x_getR hx hb hown hX M e_a_4 okX1 ra1 (by decide) rfl kw_323 dX1_copy_132 (fun ra_4 => ?_)
    refine lv_iload_n hx hb dX1_copy_135 rfl (lv_at hl 2 rfl) ?_
    replace q := ck_s q
    obtain ⟨hin, q⟩ := q
    replace q := nn_s q
    obtain ⟨a_5, e_a_5, q⟩ := q
    refine x_aaldn25 hx hb hX M ra_4 e_a_5 (inb_in hin) dX1_copy_136 (fun ra_5 => ?_)
    replace q := c2_s q
    obtain ⟨u_7, g_6, qc, q⟩ := q
    refine x_callV hx hb hml hl.1 hown hX M (S1 := S) (As := [.ref a_5]) (rest := []) okX0 ra_3 rfl kw_880 kw_881 mok_X0_copy (c_X0_copy ra_3 ra_5 qc (Nat.le_refl 2)) kw_893 rfl rfl dX1_copy_137 (Nat.le_of_ble_eq_true rfl) ⟨Nat.le_trans (by decide) hRf, Nat.le_trans (by decide) hRl⟩ (hz_step hc hRc) (hz_step hs hRs) (fun H locs M hEF => ?_)
    refine lv_aload_n hx hb dX1_copy_140 rfl (lv_at hl 0 rfl) ?_
    replace q := nn_s q
    obtain ⟨a_8, e_a_8, q⟩ := q
    refine x_getR hx hb hown hX M e_a_8 okX1 ra0 (by decide) rfl kw_325 dX1_copy_141 (fun ra_8 => ?_)
    refine lv_iload_n hx hb dX1_copy_144 rfl (lv_at hl 2 rfl) ?_
    refine lv_aload_n hx hb dX1_copy_145 rfl (lv_at hl 1 rfl) ?_
    replace q := nn_s q
    obtain ⟨a_9, e_a_9, q⟩ := q
    refine x_getR hx hb hown hX M e_a_9 okX1 ra1 (by decide) rfl kw_325 dX1_copy_146 (fun ra_9 => ?_)
    refine lv_iload_n hx hb dX1_copy_149 rfl (lv_at hl 2 rfl) ?_
    replace q := ck_s q
    obtain ⟨hin, q⟩ := q
    refine x_iald hx hb hX M ra_9 (inb_in hin) dX1_copy_150 ?_
    replace q := ck_s q
    obtain ⟨hin, q⟩ := q
    refine x_iast hx hb hX M ra_8 (inb_in hin) dX1_copy_151 (fun H locs M => ?_)
    replace q := gen_g M q
    obtain ⟨g_10, -, M, q⟩ := q
    obtain ⟨x_11, e_x_11⟩ : ∃ y : Int32, y = x2 + 1 := ⟨_, rfl⟩
    replace q := nm_s q e_x_11
    refine lv_iinc (v := x_11) (lv' := [(2, .int x_11), (0, .ref a0), (1, .ref a1)]) hx hb dX1_copy_152 hl (k := 2) rfl (by rw [e_x_11]; rfl) (by decide) rfl (fun ls hl => ?_)
    refine lv_goto (tgt := 119) hx hb dX1_copy_155 (by decide) ?_
    exact hk119 _ _ _ _ _ _ _ _ _ _ _ _ M hE ra0 ra1 (lv_sub hl [1, 2, 0] rfl) q hc hs
set_option maxRecDepth 100000 in
theorem l_X1_copy_119 (hx : p.tables.exec = Jvm.exec) (hb : c.code = cX1_copy) (hml : c.maxLocals = 5) (hr : meth.sig.returnType = none) (hlk : meth.locks = false) (hown : s.vm.findClass RX1 = some m.cls) (hX : Kx D cA lo tS s) (hRf : 5 ≤ R.frames) (hRl : 300 ≤ R.locals) {N : Nat} {rv : Unit} {g1 : Hg} {S0 S1 : Hs} {cT wT : Nat} (hRc : cT ≤ R.cells) (hRs : wT ≤ R.slots) : ∀ (n : Nat), ∀ (H : Heap) (locs : List Loc) (ls : Array Slot) (cells slots k w : Nat) (S : Hs) (g : Hg) (a0 : Nat) (a1 : Nat) (x2 : Int32), Mm D cA lo S g s H locs → Ext lo S0 S → Rf lo S a0 1 → Rf lo S a1 1 → lv_has ls 5 [(0, .ref a0), (1, .ref a1), (2, .int x2)] → n_X1_copy_119 N n S g a0 a1 x2 = some (rv, S1, g1, k, w) → cells + k = cT → slots + w = wT → W p l e R s m args below meth c H locs cells slots (MQ below (Qcx D cA lo S0 none S1 g1 True) args s cT wT (fun q : Nat => lo ≤ q)) (F0 m 119 ls []) := by
  intro n
  induction n with
  | zero =>
    intro H locs ls cells slots k w S g a0 a1 x2 M hE ra0 ra1 hl q hc hs
    exact absurd q (by simp [n_X1_copy_119])
  | succ n ih => exact w_X1_copy_119 hx hb hml hr hlk hown hX hRf hRl (N := N) hRc hRs  ih
set_option maxHeartbeats 4000000 in
set_option maxRecDepth 100000 in
theorem w_X1_copy_90 (hx : p.tables.exec = Jvm.exec) (hb : c.code = cX1_copy) (hml : c.maxLocals = 5) (hr : meth.sig.returnType = none) (hlk : meth.locks = false) (hown : s.vm.findClass RX1 = some m.cls) (hX : Kx D cA lo tS s) (hRf : 5 ≤ R.frames) (hRl : 300 ≤ R.locals) {N : Nat} {rv : Unit} {g1 : Hg} {S0 S1 : Hs} {cT wT : Nat} (hRc : cT ≤ R.cells) (hRs : wT ≤ R.slots) {k90 : Hs → Hg → Nat → Nat → Int32 → Option (Unit × Hs × Hg × Nat × Nat)} (hk90 : ∀ (H : Heap) (locs : List Loc) (ls : Array Slot) (cells slots k w : Nat) (S : Hs) (g : Hg) (a0 : Nat) (a1 : Nat) (x2 : Int32), Mm D cA lo S g s H locs → Ext lo S0 S → Rf lo S a0 1 → Rf lo S a1 1 → lv_has ls 5 [(0, .ref a0), (1, .ref a1), (2, .int x2)] → k90 S g a0 a1 x2 = some (rv, S1, g1, k, w) → cells + k = cT → slots + w = wT → W p l e R s m args below meth c H locs cells slots (MQ below (Qcx D cA lo S0 none S1 g1 True) args s cT wT (fun q : Nat => lo ≤ q)) (F0 m 90 ls [])) : ∀ (H : Heap) (locs : List Loc) (ls : Array Slot) (cells slots k w : Nat) (S : Hs) (g : Hg) (a0 : Nat) (a1 : Nat) (x2 : Int32), Mm D cA lo S g s H locs → Ext lo S0 S → Rf lo S a0 1 → Rf lo S a1 1 → lv_has ls 5 [(0, .ref a0), (1, .ref a1), (2, .int x2)] → b_X1_copy_90 N k90 S g a0 a1 x2 = some (rv, S1, g1, k, w) → cells + k = cT → slots + w = wT → W p l e R s m args below meth c H locs cells slots (MQ below (Qcx D cA lo S0 none S1 g1 True) args s cT wT (fun q : Nat => lo ≤ q)) (F0 m 90 ls []) := by
  intro H locs ls cells slots k w S g a0 a1 x2 M hE ra0 ra1 hl q hc hs
  unfold b_X1_copy_90 at q
  refine lv_iload_n hx hb dX1_copy_90 rfl (lv_at hl 2 rfl) ?_
  refine lv_bipush (v := 16) hx hb dX1_copy_91 (by decide) ?_
  refine lv_icmp_ge (tgt := 117) hx hb dX1_copy_93 (by decide) (fun c_1 => ?_) (fun c_1 => ?_)
  · replace q := if_t c_1 q
    refine lv_iconst (v := 0) hx hb dX1_copy_117 (by decide) ?_
    refine lv_istore_n (lv' := [(2, .int (0 : Int32)), (0, .ref a0), (1, .ref a1)]) hx hb dX1_copy_118 rfl hl (by decide) rfl (fun ls hl => ?_)
    exact l_X1_copy_119 hx hb hml hr hlk hown hX hRf hRl (N := N) hRc hRs  N _ _ _ _ _ _ _ _ _ _ _ _ M hE ra0 ra1 (lv_sub hl [1, 2, 0] rfl) q hc hs
  · replace q := if_f c_1 q
    refine lv_aload_n hx hb dX1_copy_96 rfl (lv_at hl 0 rfl) ?_
    replace q := nn_s q
    obtain ⟨a_2, e_a_2, q⟩ := q
    refine x_getR hx hb hown hX M e_a_2 okX1 ra0 (by decide) rfl kw_322 dX1_copy_97 (fun ra_2 => ?_)
    refine lv_iload_n hx hb dX1_copy_100 rfl (lv_at hl 2 rfl) ?_
    replace q := ck_s q
    obtain ⟨hin, q⟩ := q
    replace q := nn_s q
    obtain ⟨a_3, e_a_3, q⟩ := q
    refine x_aaldn24 hx hb hX M ra_2 e_a_3 (inb_in hin) dX1_copy_101 (fun ra_3 => ?_)
    refine lv_aload_n hx hb dX1_copy_102 rfl (lv_at hl 1 rfl) ?_
    replace q := nn_s q
    obtain ⟨a_4, e_a_4, q⟩ := q
    refine x_getR hx hb hown hX M e_a_4 okX1 ra1 (by decide) rfl kw_322 dX1_copy_103 (fun ra_4 => ?_)
    refine lv_iload_n hx hb dX1_copy_106 rfl (lv_at hl 2 rfl) ?_
    replace q := ck_s q
    obtain ⟨hin, q⟩ := q
    replace q := nn_s q
    obtain ⟨a_5, e_a_5, q⟩ := q
    refine x_aaldn24 hx hb hX M ra_4 e_a_5 (inb_in hin) dX1_copy_107 (fun ra_5 => ?_)
    replace q := c5_s q
    obtain ⟨u_7, S_8, g_6, k_9, w_10, k_11, w_12, qc, ek, ew, q⟩ := q
    refine x_callV hx hb hml hl.1 hown hX M (As := [.ref a_5]) (rest := []) okX7 ra_3 rfl kw_990 kw_991 mok_X7_copy (c_X7_copy ra_3 ra_5 qc (Nat.le_refl 4)) kw_989 rfl rfl dX1_copy_108 (Nat.le_of_ble_eq_true rfl) ⟨Nat.le_trans (by decide) hRf, Nat.le_trans (by decide) hRl⟩ (hb_step hc ek hRc) (hb_step hs ew hRs) (fun H locs M hEF => ?_)
    replace ra0 := ra0.ext hEF.1
    replace ra1 := ra1.ext hEF.1
    replace hE := hE.tr hEF.1
    replace hc := hc_step hc ek
    replace hs := hc_step hs ew
    clear ek ew
    obtain ⟨x_13, e_x_13⟩ : ∃ y : Int32, y = x2 + 1 := ⟨_, rfl⟩
    replace q := nm_s q e_x_13
    refine lv_iinc (v := x_13) (lv' := [(2, .int x_13), (0, .ref a0), (1, .ref a1)]) hx hb dX1_copy_111 hl (k := 2) rfl (by rw [e_x_13]; rfl) (by decide) rfl (fun ls hl => ?_)
    refine lv_goto (tgt := 90) hx hb dX1_copy_114 (by decide) ?_
    exact hk90 _ _ _ _ _ _ _ _ _ _ _ _ M hE ra0 ra1 (lv_sub hl [1, 2, 0] rfl) q hc hs
set_option maxRecDepth 100000 in
theorem l_X1_copy_90 (hx : p.tables.exec = Jvm.exec) (hb : c.code = cX1_copy) (hml : c.maxLocals = 5) (hr : meth.sig.returnType = none) (hlk : meth.locks = false) (hown : s.vm.findClass RX1 = some m.cls) (hX : Kx D cA lo tS s) (hRf : 5 ≤ R.frames) (hRl : 300 ≤ R.locals) {N : Nat} {rv : Unit} {g1 : Hg} {S0 S1 : Hs} {cT wT : Nat} (hRc : cT ≤ R.cells) (hRs : wT ≤ R.slots) : ∀ (n : Nat), ∀ (H : Heap) (locs : List Loc) (ls : Array Slot) (cells slots k w : Nat) (S : Hs) (g : Hg) (a0 : Nat) (a1 : Nat) (x2 : Int32), Mm D cA lo S g s H locs → Ext lo S0 S → Rf lo S a0 1 → Rf lo S a1 1 → lv_has ls 5 [(0, .ref a0), (1, .ref a1), (2, .int x2)] → n_X1_copy_90 N n S g a0 a1 x2 = some (rv, S1, g1, k, w) → cells + k = cT → slots + w = wT → W p l e R s m args below meth c H locs cells slots (MQ below (Qcx D cA lo S0 none S1 g1 True) args s cT wT (fun q : Nat => lo ≤ q)) (F0 m 90 ls []) := by
  intro n
  induction n with
  | zero =>
    intro H locs ls cells slots k w S g a0 a1 x2 M hE ra0 ra1 hl q hc hs
    exact absurd q (by simp [n_X1_copy_90])
  | succ n ih => exact w_X1_copy_90 hx hb hml hr hlk hown hX hRf hRl (N := N) hRc hRs  ih
set_option maxHeartbeats 4000000 in
set_option maxRecDepth 100000 in
theorem w_X1_copy_60 (hx : p.tables.exec = Jvm.exec) (hb : c.code = cX1_copy) (hml : c.maxLocals = 5) (hr : meth.sig.returnType = none) (hlk : meth.locks = false) (hown : s.vm.findClass RX1 = some m.cls) (hX : Kx D cA lo tS s) (hRf : 5 ≤ R.frames) (hRl : 300 ≤ R.locals) {N : Nat} {rv : Unit} {g1 : Hg} {S0 S1 : Hs} {cT wT : Nat} (hRc : cT ≤ R.cells) (hRs : wT ≤ R.slots) {k60 : Hs → Hg → Nat → Nat → Int32 → Option (Unit × Hs × Hg × Nat × Nat)} (hk60 : ∀ (H : Heap) (locs : List Loc) (ls : Array Slot) (cells slots k w : Nat) (S : Hs) (g : Hg) (a0 : Nat) (a1 : Nat) (x2 : Int32), Mm D cA lo S g s H locs → Ext lo S0 S → Rf lo S a0 1 → Rf lo S a1 1 → lv_has ls 5 [(0, .ref a0), (1, .ref a1), (2, .int x2)] → k60 S g a0 a1 x2 = some (rv, S1, g1, k, w) → cells + k = cT → slots + w = wT → W p l e R s m args below meth c H locs cells slots (MQ below (Qcx D cA lo S0 none S1 g1 True) args s cT wT (fun q : Nat => lo ≤ q)) (F0 m 60 ls [])) : ∀ (H : Heap) (locs : List Loc) (ls : Array Slot) (cells slots k w : Nat) (S : Hs) (g : Hg) (a0 : Nat) (a1 : Nat) (x2 : Int32), Mm D cA lo S g s H locs → Ext lo S0 S → Rf lo S a0 1 → Rf lo S a1 1 → lv_has ls 5 [(0, .ref a0), (1, .ref a1), (2, .int x2)] → b_X1_copy_60 N k60 S g a0 a1 x2 = some (rv, S1, g1, k, w) → cells + k = cT → slots + w = wT → W p l e R s m args below meth c H locs cells slots (MQ below (Qcx D cA lo S0 none S1 g1 True) args s cT wT (fun q : Nat => lo ≤ q)) (F0 m 60 ls []) := by
  intro H locs ls cells slots k w S g a0 a1 x2 M hE ra0 ra1 hl q hc hs
  unfold b_X1_copy_60 at q
  refine lv_iload_n hx hb dX1_copy_60 rfl (lv_at hl 2 rfl) ?_
  refine lv_aload_n hx hb dX1_copy_61 rfl (lv_at hl 1 rfl) ?_
  refine x_getI hx hb hown hX M (k := 7) okX1 ra1 (by decide) rfl kw_329 dX1_copy_62 ?_
  refine lv_icmp_ge (tgt := 88) hx hb dX1_copy_65 (by decide) (fun c_1 => ?_) (fun c_1 => ?_)
  · replace q := if_t c_1 q
    refine lv_iconst (v := 0) hx hb dX1_copy_88 (by decide) ?_
    refine lv_istore_n (lv' := [(2, .int (0 : Int32)), (0, .ref a0), (1, .ref a1)]) hx hb dX1_copy_89 rfl hl (by decide) rfl (fun ls hl => ?_)
    exact l_X1_copy_90 hx hb hml hr hlk hown hX hRf hRl (N := N) hRc hRs  N _ _ _ _ _ _ _ _ _ _ _ _ M hE ra0 ra1 (lv_sub hl [1, 2, 0] rfl) q hc hs
  · replace q := if_f c_1 q
    refine lv_aload_n hx hb dX1_copy_68 rfl (lv_at hl 0 rfl) ?_
    refine lv_aload_n hx hb dX1_copy_69 rfl (lv_at hl 1 rfl) ?_
    refine lv_iload_n hx hb dX1_copy_70 rfl (lv_at hl 2 rfl) ?_
    replace q := c2_s q
    obtain ⟨o_3, g_2, qc, q⟩ := q
    replace q := nn_s q
    obtain ⟨a_4, e_a_4, q⟩ := q
    subst e_a_4
    refine x_callV hx hb hml hl.1 hown hX M (S1 := S) (As := [.int x2]) (rest := [.ref a0]) okX1 ra1 rfl kw_907 kw_908 mok_X1_firstBlamed (c_X1_firstBlamed ra1 qc (Nat.le_refl 1)) kw_986 rfl rfl dX1_copy_71 (Nat.le_of_ble_eq_true rfl) ⟨Nat.le_trans (by decide) hRf, Nat.le_trans (by decide) hRl⟩ (hz_step hc hRc) (hz_step hs hRs) (fun H locs M hEF => ?_)
    have ra_4 := hEF.2 a_4 rfl
    refine lv_aload_n hx hb dX1_copy_74 rfl (lv_at hl 1 rfl) ?_
    refine lv_iload_n hx hb dX1_copy_75 rfl (lv_at hl 2 rfl) ?_
    replace q := c2_s q
    obtain ⟨o_6, g_5, qc, q⟩ := q
    replace q := nn_s q
    obtain ⟨a_7, e_a_7, q⟩ := q
    subst e_a_7
    refine x_callV hx hb hml hl.1 hown hX M (S1 := S) (As := [.int x2]) (rest := [.ref a_4, .ref a0]) okX1 ra1 rfl kw_911 kw_912 mok_X1_secondBlamed (c_X1_secondBlamed ra1 qc (Nat.le_refl 1)) kw_987 rfl rfl dX1_copy_76 (Nat.le_of_ble_eq_true rfl) ⟨Nat.le_trans (by decide) hRf, Nat.le_trans (by decide) hRl⟩ (hz_step hc hRc) (hz_step hs hRs) (fun H locs M hEF => ?_)
    have ra_7 := hEF.2 a_7 rfl
    replace q := c5_s q
    obtain ⟨u_9, S_10, g_8, k_11, w_12, k_13, w_14, qc, ek, ew, q⟩ := q
    refine x_callV hx hb hml hl.1 hown hX M (As := [va_rf (some a_4), va_rf (some a_7)]) (rest := []) okX1 ra0 rfl kw_890 kw_891 mok_X1_tellBlame (c_X1_tellBlame ra0 (ra_4.ro) (ra_7.ro) qc (Nat.le_refl 3)) kw_988 rfl rfl dX1_copy_79 (Nat.le_of_ble_eq_true rfl) ⟨Nat.le_trans (by decide) hRf, Nat.le_trans (by decide) hRl⟩ (hb_step hc ek hRc) (hb_step hs ew hRs) (fun H locs M hEF => ?_)
    replace ra0 := ra0.ext hEF.1
    replace ra1 := ra1.ext hEF.1
    replace hE := hE.tr hEF.1
    replace hc := hc_step hc ek
    replace hs := hc_step hs ew
    clear ek ew
    obtain ⟨x_15, e_x_15⟩ : ∃ y : Int32, y = x2 + 1 := ⟨_, rfl⟩
    replace q := nm_s q e_x_15
    refine lv_iinc (v := x_15) (lv' := [(2, .int x_15), (0, .ref a0), (1, .ref a1)]) hx hb dX1_copy_82 hl (k := 2) rfl (by rw [e_x_15]; rfl) (by decide) rfl (fun ls hl => ?_)
    refine lv_goto (tgt := 60) hx hb dX1_copy_85 (by decide) ?_
    exact hk60 _ _ _ _ _ _ _ _ _ _ _ _ M hE ra0 ra1 (lv_sub hl [1, 2, 0] rfl) q hc hs
set_option maxRecDepth 100000 in
theorem l_X1_copy_60 (hx : p.tables.exec = Jvm.exec) (hb : c.code = cX1_copy) (hml : c.maxLocals = 5) (hr : meth.sig.returnType = none) (hlk : meth.locks = false) (hown : s.vm.findClass RX1 = some m.cls) (hX : Kx D cA lo tS s) (hRf : 5 ≤ R.frames) (hRl : 300 ≤ R.locals) {N : Nat} {rv : Unit} {g1 : Hg} {S0 S1 : Hs} {cT wT : Nat} (hRc : cT ≤ R.cells) (hRs : wT ≤ R.slots) : ∀ (n : Nat), ∀ (H : Heap) (locs : List Loc) (ls : Array Slot) (cells slots k w : Nat) (S : Hs) (g : Hg) (a0 : Nat) (a1 : Nat) (x2 : Int32), Mm D cA lo S g s H locs → Ext lo S0 S → Rf lo S a0 1 → Rf lo S a1 1 → lv_has ls 5 [(0, .ref a0), (1, .ref a1), (2, .int x2)] → n_X1_copy_60 N n S g a0 a1 x2 = some (rv, S1, g1, k, w) → cells + k = cT → slots + w = wT → W p l e R s m args below meth c H locs cells slots (MQ below (Qcx D cA lo S0 none S1 g1 True) args s cT wT (fun q : Nat => lo ≤ q)) (F0 m 60 ls []) := by
  intro n
  induction n with
  | zero =>
    intro H locs ls cells slots k w S g a0 a1 x2 M hE ra0 ra1 hl q hc hs
    exact absurd q (by simp [n_X1_copy_60])
  | succ n ih => exact w_X1_copy_60 hx hb hml hr hlk hown hX hRf hRl (N := N) hRc hRs  ih
set_option maxHeartbeats 4000000 in
set_option maxRecDepth 100000 in
theorem w_X1_copy_7 (hx : p.tables.exec = Jvm.exec) (hb : c.code = cX1_copy) (hml : c.maxLocals = 5) (hr : meth.sig.returnType = none) (hlk : meth.locks = false) (hown : s.vm.findClass RX1 = some m.cls) (hX : Kx D cA lo tS s) (hRf : 5 ≤ R.frames) (hRl : 300 ≤ R.locals) {N : Nat} {rv : Unit} {g1 : Hg} {S0 S1 : Hs} {cT wT : Nat} (hRc : cT ≤ R.cells) (hRs : wT ≤ R.slots) {k7 : Hs → Hg → Nat → Nat → Int32 → Option (Unit × Hs × Hg × Nat × Nat)} (hk7 : ∀ (H : Heap) (locs : List Loc) (ls : Array Slot) (cells slots k w : Nat) (S : Hs) (g : Hg) (a0 : Nat) (a1 : Nat) (x2 : Int32), Mm D cA lo S g s H locs → Ext lo S0 S → Rf lo S a0 1 → Rf lo S a1 1 → lv_has ls 5 [(0, .ref a0), (1, .ref a1), (2, .int x2)] → k7 S g a0 a1 x2 = some (rv, S1, g1, k, w) → cells + k = cT → slots + w = wT → W p l e R s m args below meth c H locs cells slots (MQ below (Qcx D cA lo S0 none S1 g1 True) args s cT wT (fun q : Nat => lo ≤ q)) (F0 m 7 ls [])) : ∀ (H : Heap) (locs : List Loc) (ls : Array Slot) (cells slots k w : Nat) (S : Hs) (g : Hg) (a0 : Nat) (a1 : Nat) (x2 : Int32), Mm D cA lo S g s H locs → Ext lo S0 S → Rf lo S a0 1 → Rf lo S a1 1 → lv_has ls 5 [(0, .ref a0), (1, .ref a1), (2, .int x2)] → b_X1_copy_7 N k7 S g a0 a1 x2 = some (rv, S1, g1, k, w) → cells + k = cT → slots + w = wT → W p l e R s m args below meth c H locs cells slots (MQ below (Qcx D cA lo S0 none S1 g1 True) args s cT wT (fun q : Nat => lo ≤ q)) (F0 m 7 ls []) := by
  intro H locs ls cells slots k w S g a0 a1 x2 M hE ra0 ra1 hl q hc hs
  unfold b_X1_copy_7 at q
  refine lv_iload_n hx hb dX1_copy_7 rfl (lv_at hl 2 rfl) ?_
  refine lv_aload_n hx hb dX1_copy_8 rfl (lv_at hl 1 rfl) ?_
  refine x_getI hx hb hown hX M (k := 1) okX1 ra1 (by decide) rfl kw_320 dX1_copy_9 ?_
  refine lv_icmp_ge (tgt := 53) hx hb dX1_copy_12 (by decide) (fun c_1 => ?_) (fun c_1 => ?_)
  · replace q := if_t c_1 q
    refine lv_aload_n hx hb dX1_copy_53 rfl (lv_at hl 0 rfl) ?_
    refine lv_iconst (v := 0) hx hb dX1_copy_54 (by decide) ?_
    refine x_putI hx hb hown hX M (k := 7) okX1 ra0 (by decide) rfl (Or.inl rfl) rfl rfl kw_329 dX1_copy_55 (fun H locs M => ?_)
    replace q := gen_g M q
    obtain ⟨g_2, -, M, q⟩ := q
    refine lv_iconst (v := 0) hx hb dX1_copy_58 (by decide) ?_
    refine lv_istore_n (lv' := [(2, .int (0 : Int32)), (0, .ref a0), (1, .ref a1)]) hx hb dX1_copy_59 rfl hl (by decide) rfl (fun ls hl => ?_)
    exact l_X1_copy_60 hx hb hml hr hlk hown hX hRf hRl (N := N) hRc hRs  N _ _ _ _ _ _ _ _ _ _ _ _ M hE ra0 ra1 (lv_sub hl [1, 2, 0] rfl) q hc hs
  · replace q := if_f c_1 q
    refine lv_aload_n hx hb dX1_copy_15 rfl (lv_at hl 1 rfl) ?_
    replace q := nn_s q
    obtain ⟨a_3, e_a_3, q⟩ := q
    refine x_getR hx hb hown hX M e_a_3 okX1 ra1 (by decide) rfl kw_319 dX1_copy_16 (fun ra_3 => ?_)
    refine lv_iload_n hx hb dX1_copy_19 rfl (lv_at hl 2 rfl) ?_
    replace q := ck_s q
    obtain ⟨hin, q⟩ := q
    refine x_aald23 hx hb hX M ra_3 (inb_in hin) dX1_copy_20 (fun rf_4 => ?_)
    refine x_topo (fun o_5 e_o_5 => ?_)
    replace q := nm_s q e_o_5
    rw [← e_o_5] at rf_4
    refine x_astore_n (lv' := [(3, va_rf o_5), (0, .ref a0), (1, .ref a1), (2, .int x2)]) hx hb dX1_copy_21 rfl hl (by decide) rfl (fun ls hl => ?_)
    refine lv_aload_n hx hb dX1_copy_22 rfl (lv_at hl 1 rfl) ?_
    replace q := c5_s q
    obtain ⟨o_7, S_8, g_6, k_9, w_10, k_11, w_12, qc, ek, ew, q⟩ := q
    refine x_callV hx hb hml hl.1 hown hX M (As := []) (rest := []) okX1 ra0 rfl kw_383 kw_384 mok_X1_nextLog (c_X1_nextLog ra0 qc (Nat.le_refl 3)) kw_984 rfl rfl dX1_copy_23 (Nat.le_of_ble_eq_true rfl) ⟨Nat.le_trans (by decide) hRf, Nat.le_trans (by decide) hRl⟩ (hb_step hc ek hRc) (hb_step hs ew hRs) (fun H locs M hEF => ?_)
    have ro_7 := hEF.2
    replace ra0 := ra0.ext hEF.1
    replace ra1 := ra1.ext hEF.1
    replace rf_4 := rf_4.ext hEF.1
    replace hE := hE.tr hEF.1
    replace hc := hc_step hc ek
    replace hs := hc_step hs ew
    clear ek ew
    refine x_astore (lv' := [(4, va_rf o_7), (3, va_rf o_5), (0, .ref a0), (1, .ref a1), (2, .int x2)]) hx hb dX1_copy_26 hl (by decide) (by cases o_5 <;> rfl) (fun ls hl => ?_)
    refine x_aload_n hx hb dX1_copy_28 rfl (lv_at hl 1 rfl) ?_
    refine x_ifnull (tgt := 47) hx hb dX1_copy_29 (by decide) (fun c_21 => ?_) (fun a_13 c_21 => ?_)
    · replace q := on_n c_21 q
      obtain ⟨x_14, e_x_14⟩ : ∃ y : Int32, y = x2 + 1 := ⟨_, rfl⟩
      replace q := nm_s q e_x_14
      refine lv_iinc (v := x_14) (lv' := [(2, .int x_14), (4, va_rf o_7), (3, va_rf o_5), (0, .ref a0), (1, .ref a1)]) hx hb dX1_copy_47 hl (k := 4) rfl (by rw [e_x_14]; rfl) (by decide) rfl (fun ls hl => ?_)
      refine lv_goto (tgt := 7) hx hb dX1_copy_50 (by decide) ?_
      exact hk7 _ _ _ _ _ _ _ _ _ _ _ _ M hE ra0 ra1 (lv_sub hl [3, 4, 0] rfl) q hc hs
    · subst c_21
      replace q := on_s rfl q
      have ra_13 := rf_4 a_13 rfl
      have hl : lv_has ls 5 [(4, va_rf o_7), (3, .ref a_13), (0, .ref a0), (1, .ref a1), (2, .int x2)] := hl
      refine x_aload hx hb dX1_copy_32 (lv_at hl 0 rfl) ?_
      refine x_ifnull (tgt := 47) hx hb dX1_copy_34 (by decide) (fun c_20 => ?_) (fun a_15 c_20 => ?_)
      · replace q := on_n c_20 q
        obtain ⟨x_16, e_x_16⟩ : ∃ y : Int32, y = x2 + 1 := ⟨_, rfl⟩
        replace q := nm_s q e_x_16
        refine lv_iinc (v := x_16) (lv' := [(2, .int x_16), (4, va_rf o_7), (3, .ref a_13), (0, .ref a0), (1, .ref a1)]) hx hb dX1_copy_47 hl (k := 4) rfl (by rw [e_x_16]; rfl) (by decide) rfl (fun ls hl => ?_)
        refine lv_goto (tgt := 7) hx hb dX1_copy_50 (by decide) ?_
        exact hk7 _ _ _ _ _ _ _ _ _ _ _ _ M hE ra0 ra1 (lv_sub hl [3, 4, 0] rfl) q hc hs
      · subst c_20
        replace q := on_s rfl q
        have ra_15 := ro_7 a_15 rfl
        have hl : lv_has ls 5 [(4, .ref a_15), (3, .ref a_13), (0, .ref a0), (1, .ref a1), (2, .int x2)] := hl
        refine lv_aload hx hb dX1_copy_37 (lv_at hl 0 rfl) ?_
        refine lv_aload_n hx hb dX1_copy_39 rfl (lv_at hl 1 rfl) ?_
        refine lv_aload_n hx hb dX1_copy_40 rfl (lv_at hl 1 rfl) ?_
        refine x_getI hx hb hown hX M (k := 7) okX3 ra_13 (by decide) rfl kw_460 dX1_copy_41 ?_
        replace q := c2_s q
        obtain ⟨u_18, g_17, qc, q⟩ := q
        refine x_callV hx hb hml hl.1 hown hX M (S1 := S_8) (As := [.ref a_13, .int (rdI g_6 a_13 7)]) (rest := []) okX3 ra_15 rfl kw_554 kw_555 mok_X3_copyFirst (c_X3_copyFirst ra_15 ra_13 qc (Nat.le_refl 2)) kw_985 rfl rfl dX1_copy_44 (Nat.le_of_ble_eq_true rfl) ⟨Nat.le_trans (by decide) hRf, Nat.le_trans (by decide) hRl⟩ (hz_step hc hRc) (hz_step hs hRs) (fun H locs M hEF => ?_)
        obtain ⟨x_19, e_x_19⟩ : ∃ y : Int32, y = x2 + 1 := ⟨_, rfl⟩
        replace q := nm_s q e_x_19
        refine lv_iinc (v := x_19) (lv' := [(2, .int x_19), (4, .ref a_15), (3, .ref a_13), (0, .ref a0), (1, .ref a1)]) hx hb dX1_copy_47 hl (k := 4) rfl (by rw [e_x_19]; rfl) (by decide) rfl (fun ls hl => ?_)
        refine lv_goto (tgt := 7) hx hb dX1_copy_50 (by decide) ?_
        exact hk7 _ _ _ _ _ _ _ _ _ _ _ _ M hE ra0 ra1 (lv_sub hl [3, 4, 0] rfl) q hc hs
set_option maxRecDepth 100000 in
theorem l_X1_copy_7 (hx : p.tables.exec = Jvm.exec) (hb : c.code = cX1_copy) (hml : c.maxLocals = 5) (hr : meth.sig.returnType = none) (hlk : meth.locks = false) (hown : s.vm.findClass RX1 = some m.cls) (hX : Kx D cA lo tS s) (hRf : 5 ≤ R.frames) (hRl : 300 ≤ R.locals) {N : Nat} {rv : Unit} {g1 : Hg} {S0 S1 : Hs} {cT wT : Nat} (hRc : cT ≤ R.cells) (hRs : wT ≤ R.slots) : ∀ (n : Nat), ∀ (H : Heap) (locs : List Loc) (ls : Array Slot) (cells slots k w : Nat) (S : Hs) (g : Hg) (a0 : Nat) (a1 : Nat) (x2 : Int32), Mm D cA lo S g s H locs → Ext lo S0 S → Rf lo S a0 1 → Rf lo S a1 1 → lv_has ls 5 [(0, .ref a0), (1, .ref a1), (2, .int x2)] → n_X1_copy_7 N n S g a0 a1 x2 = some (rv, S1, g1, k, w) → cells + k = cT → slots + w = wT → W p l e R s m args below meth c H locs cells slots (MQ below (Qcx D cA lo S0 none S1 g1 True) args s cT wT (fun q : Nat => lo ≤ q)) (F0 m 7 ls []) := by
  intro n
  induction n with
  | zero =>
    intro H locs ls cells slots k w S g a0 a1 x2 M hE ra0 ra1 hl q hc hs
    exact absurd q (by simp [n_X1_copy_7])
  | succ n ih => exact w_X1_copy_7 hx hb hml hr hlk hown hX hRf hRl (N := N) hRc hRs  ih
set_option maxHeartbeats 4000000 in
set_option maxRecDepth 100000 in
theorem w_X1_copy_0 (hx : p.tables.exec = Jvm.exec) (hb : c.code = cX1_copy) (hml : c.maxLocals = 5) (hr : meth.sig.returnType = none) (hlk : meth.locks = false) (hown : s.vm.findClass RX1 = some m.cls) (hX : Kx D cA lo tS s) (hRf : 5 ≤ R.frames) (hRl : 300 ≤ R.locals) {N : Nat} {rv : Unit} {g1 : Hg} {S0 S1 : Hs} {cT wT : Nat} (hRc : cT ≤ R.cells) (hRs : wT ≤ R.slots) : ∀ (H : Heap) (locs : List Loc) (ls : Array Slot) (cells slots k w : Nat) (S : Hs) (g : Hg) (a0 : Nat) (a1 : Nat), Mm D cA lo S g s H locs → Ext lo S0 S → Rf lo S a0 1 → Rf lo S a1 1 → lv_has ls 5 [(0, .ref a0), (1, .ref a1)] → b_X1_copy_0 N S g a0 a1 = some (rv, S1, g1, k, w) → cells + k = cT → slots + w = wT → W p l e R s m args below meth c H locs cells slots (MQ below (Qcx D cA lo S0 none S1 g1 True) args s cT wT (fun q : Nat => lo ≤ q)) (F0 m 0 ls []) := by
  intro H locs ls cells slots k w S g a0 a1 M hE ra0 ra1 hl q hc hs
  unfold b_X1_copy_0 at q
  refine lv_aload_n hx hb dX1_copy_0 rfl (lv_at hl 0 rfl) ?_
  refine lv_iconst (v := 0) hx hb dX1_copy_1 (by decide) ?_
  refine x_putI hx hb hown hX M (k := 1) okX1 ra0 (by decide) rfl (Or.inl rfl) rfl rfl kw_320 dX1_copy_2 (fun H locs M => ?_)
  replace q := gen_g M q
  obtain ⟨g_1, -, M, q⟩ := q
  refine lv_iconst (v := 0) hx hb dX1_copy_5 (by decide) ?_
  refine lv_istore_n (lv' := [(2, .int (0 : Int32)), (0, .ref a0), (1, .ref a1)]) hx hb dX1_copy_6 rfl hl (by decide) rfl (fun ls hl => ?_)
  exact l_X1_copy_7 hx hb hml hr hlk hown hX hRf hRl (N := N) hRc hRs  N _ _ _ _ _ _ _ _ _ _ _ _ M hE ra0 ra1 (lv_sub hl [1, 2, 0] rfl) q hc hs
set_option maxRecDepth 100000 in
theorem c_X1_copy {l : Launch} {D : va_G} {cA : Nat → ClassId} {lo tS N : Nat} {S S1 : Hs} {g g1 : Hg} {k w : Nat} {rv : Unit} {a0 : Nat} {a1 : Nat} (ra0 : Rf lo S a0 1) (ra1 : Rf lo S a1 1) (q : f_X1_copy N S g a0 a1 = some (rv, S1, g1, k, w)) {d : Nat} (hd : 5 ≤ d) : Ctr l yX1_copy cX1_copy 5 none D cA lo tS [.ref a0, .ref a1] S g d none S1 g1 True k w := by
  refine x_met (by decide) (Nat.le_of_ble_eq_true rfl) ?_
  intro p e s m below meth c ls hx hb hml hr hlk hown hnm hX M hl
  exact w_X1_copy_0 hx hb hml hr hlk hown hX hd (Nat.mul_le_mul_left 60 hd) (N := N) (Nat.le_refl k) (Nat.le_refl w) _ _ _ _ _ _ _ _ _ _ _ M Ext.rf ra0 ra1 (lv_sub hl [0, 1] rfl) q (Nat.zero_add k) (Nat.zero_add w)
def b_X11_back_0 (N : Nat) (S : Hs) (g : Hg) (a0 : Nat) : Option (Int32 × Hs × Hg × Nat × Nat) :=
nm (rdR g a0 6) (fun o_2 =>
on o_2 (
some ((0 : Int32), S, g, 0, 0)) (fun a_3 =>
nn (rdR g a0 3) (fun a_4 =>
nn (rdR g a0 6) (fun a_5 =>
c5 (f_X1_copy N S g a_4 a_5) (fun u_7 S_8 g_6 =>
some ((1 : Int32), S_8, g_6, 0, 0))))))
def f_X11_back (N : Nat) (S : Hs) (g : Hg) (a0 : Nat) : Option (Int32 × Hs × Hg × Nat × Nat) := b_X11_back_0 N S g a0
set_option maxHeartbeats 4000000 in
set_option maxRecDepth 100000 in
theorem w_X11_back_0 (hx : p.tables.exec = Jvm.exec) (hb : c.code = cX11_back) (hml : c.maxLocals = 1) (hr : meth.sig.returnType = (some .boolean)) (hlk : meth.locks = false) (hown : s.vm.findClass RX11 = some m.cls) (hX : Kx D cA lo tS s) (hRf : 6 ≤ R.frames) (hRl : 360 ≤ R.locals) {N : Nat} {rv : Int32} {g1 : Hg} {S0 S1 : Hs} {cT wT : Nat} (hRc : cT ≤ R.cells) (hRs : wT ≤ R.slots) : ∀ (H : Heap) (locs : List Loc) (ls : Array Slot) (cells slots k w : Nat) (S : Hs) (g : Hg) (a0 : Nat), Mm D cA lo S g s H locs → Ext lo S0 S → Rf lo S a0 11 → lv_has ls 1 [(0, .ref a0)] → b_X11_back_0 N S g a0 = some (rv, S1, g1, k, w) → cells + k = cT → slots + w = wT → W p l e R s m args below meth c H locs cells slots (MQ below (Qcx D cA lo S0 (some (.int rv)) S1 g1 True) args s cT wT (fun q : Nat => lo ≤ q)) (F0 m 0 ls []) := by
  intro H locs ls cells slots k w S g a0 M hE ra0 hl q hc hs
  unfold b_X11_back_0 at q
  refine lv_aload_n hx hb dX11_back_0 rfl (lv_at hl 0 rfl) ?_
  refine x_getO hx hb hown hX M (k := 6) okX11 ra0 (by decide) rfl kw_362 dX11_back_1 (fun rf_1 => ?_)
  refine x_topo (fun o_2 e_o_2 => ?_)
  replace q := nm_s q e_o_2
  rw [← e_o_2] at rf_1
  refine x_ifnonnull (tgt := 9) hx hb dX11_back_4 (by decide) (fun a_3 c_13 => ?_) (fun c_13 => ?_)
  · subst c_13
    replace q := on_s rfl q
    have ra_3 := rf_1 a_3 rfl
    have hl : lv_has ls 1 [(0, .ref a0)] := hl
    refine lv_aload_n hx hb dX11_back_9 rfl (lv_at hl 0 rfl) ?_
    replace q := nn_s q
    obtain ⟨a_4, e_a_4, q⟩ := q
    refine x_getR hx hb hown hX M e_a_4 okX11 ra0 (by decide) rfl kw_359 dX11_back_10 (fun ra_4 => ?_)
    refine lv_aload_n hx hb dX11_back_13 rfl (lv_at hl 0 rfl) ?_
    replace q := nn_s q
    obtain ⟨a_5, e_a_5, q⟩ := q
    refine x_getR hx hb hown hX M e_a_5 okX11 ra0 (by decide) rfl kw_362 dX11_back_14 (fun ra_5 => ?_)
    replace q := c5_s q
    obtain ⟨u_7, S_8, g_6, k_9, w_10, k_11, w_12, qc, ek, ew, q⟩ := q
    refine x_callV hx hb hml hl.1 hown hX M (As := [.ref a_5]) (rest := []) okX1 ra_4 rfl kw_981 kw_982 mok_X1_copy (c_X1_copy ra_4 ra_5 qc (Nat.le_refl 5)) kw_980 rfl rfl dX11_back_17 (Nat.le_of_ble_eq_true rfl) ⟨Nat.le_trans (by decide) hRf, Nat.le_trans (by decide) hRl⟩ (hb_step hc ek hRc) (hb_step hs ew hRs) (fun H locs M hEF => ?_)
    replace ra0 := ra0.ext hEF.1
    replace hE := hE.tr hEF.1
    replace hc := hc_step hc ek
    replace hs := hc_step hs ew
    clear ek ew
    refine lv_iconst (v := 1) hx hb dX11_back_20 (by decide) ?_
    cases q
    have hc : cells + k_9 = cT := hc
    have hs : slots + w_10 = wT := hs
    subst hc
    subst hs
    exact x_zret hx hb hr hlk rfl M hE dX11_back_21
  · replace q := on_n c_13 q
    refine lv_iconst (v := 0) hx hb dX11_back_7 (by decide) ?_
    cases q
    have hc : cells = cT := hc
    have hs : slots = wT := hs
    subst hc
    subst hs
    exact x_zret hx hb hr hlk rfl M hE dX11_back_8
set_option maxRecDepth 100000 in
theorem c_X11_back {l : Launch} {D : va_G} {cA : Nat → ClassId} {lo tS N : Nat} {S S1 : Hs} {g g1 : Hg} {k w : Nat} {rv : Int32} {a0 : Nat} (ra0 : Rf lo S a0 11) (q : f_X11_back N S g a0 = some (rv, S1, g1, k, w)) {d : Nat} (hd : 6 ≤ d) : Ctr l yX11_back cX11_back 1 (some .boolean) D cA lo tS [.ref a0] S g d (some (.int rv)) S1 g1 True k w := by
  refine x_met (by decide) (Nat.le_of_ble_eq_true rfl) ?_
  intro p e s m below meth c ls hx hb hml hr hlk hown hnm hX M hl
  exact w_X11_back_0 hx hb hml hr hlk hown hX hd (Nat.mul_le_mul_left 60 hd) (N := N) (Nat.le_refl k) (Nat.le_refl w) _ _ _ _ _ _ _ _ _ _ M Ext.rf ra0 (lv_sub hl [0] rfl) q (Nat.zero_add k) (Nat.zero_add w)
def b_X11_isPlaceInSum_0 (N : Nat) (S : Hs) (g : Hg) (x0 : Int32) : Option (Int32 × Hg) :=
if x0 < 0 then (
some ((0 : Int32), g)) else (
if (8 : Int32) ≤ x0 then (
some ((0 : Int32), g)) else (
some ((1 : Int32), g)))
def f_X11_isPlaceInSum (N : Nat) (S : Hs) (g : Hg) (x0 : Int32) : Option (Int32 × Hg) := b_X11_isPlaceInSum_0 N S g x0
set_option maxHeartbeats 4000000 in
set_option maxRecDepth 100000 in
theorem w_X11_isPlaceInSum_0 (hx : p.tables.exec = Jvm.exec) (hb : c.code = cX11_isPlaceInSum) (hml : c.maxLocals = 1) (hr : meth.sig.returnType = (some .boolean)) (hlk : meth.locks = false) (hown : s.vm.findClass RX11 = some m.cls) (hX : Kx D cA lo tS s) (hRf : 1 ≤ R.frames) (hRl : 60 ≤ R.locals) {N : Nat} {rv : Int32} {g1 : Hg} {S : Hs} : ∀ (H : Heap) (locs : List Loc) (ls : Array Slot) (g : Hg) (x0 : Int32), Mm D cA lo S g s H locs → lv_has ls 1 [(0, .int x0)] → b_X11_isPlaceInSum_0 N S g x0 = some (rv, g1) → W p l e R s m args below meth c H locs 0 0 (MQ below (Qcx D cA lo S (some (.int rv)) S g1 True) args s 0 0 (fun q : Nat => lo ≤ q)) (F0 m 0 ls []) := by
  intro H locs ls g x0 M hl q
  unfold b_X11_isPlaceInSum_0 at q
  refine lv_iload_n hx hb dX11_isPlaceInSum_0 rfl (lv_at hl 0 rfl) ?_
  refine lv_if_lt (tgt := 14) hx hb dX11_isPlaceInSum_1 (by decide) (fun c_1 => ?_) (fun c_1 => ?_)
  · replace q := if_t c_1 q
    refine lv_iconst (v := 0) hx hb dX11_isPlaceInSum_14 (by decide) ?_
    cases q
    exact x_zret hx hb hr hlk rfl M Ext.rf dX11_isPlaceInSum_15
  · replace q := if_f c_1 q
    refine lv_iload_n hx hb dX11_isPlaceInSum_4 rfl (lv_at hl 0 rfl) ?_
    refine lv_bipush (v := 8) hx hb dX11_isPlaceInSum_5 (by decide) ?_
    refine lv_icmp_ge (tgt := 14) hx hb dX11_isPlaceInSum_7 (by decide) (fun c_2 => ?_) (fun c_2 => ?_)
    · replace q := if_t c_2 q
      refine lv_iconst (v := 0) hx hb dX11_isPlaceInSum_14 (by decide) ?_
      cases q
      exact x_zret hx hb hr hlk rfl M Ext.rf dX11_isPlaceInSum_15
    · replace q := if_f c_2 q
      refine lv_iconst (v := 1) hx hb dX11_isPlaceInSum_10 (by decide) ?_
      refine lv_goto (tgt := 15) hx hb dX11_isPlaceInSum_11 (by decide) ?_
      cases q
      exact x_zret hx hb hr hlk rfl M Ext.rf dX11_isPlaceInSum_15
set_option maxRecDepth 100000 in
theorem c_X11_isPlaceInSum {l : Launch} {D : va_G} {cA : Nat → ClassId} {lo tS N : Nat} {S : Hs} {g g1 : Hg} {rv : Int32} {x0 : Int32}  (q : f_X11_isPlaceInSum N S g x0 = some (rv, g1)) {d : Nat} (hd : 1 ≤ d) : Ctr l yX11_isPlaceInSum cX11_isPlaceInSum 1 (some .boolean) D cA lo tS [.int x0] S g d (some (.int rv)) S g1 True 0 0 := by
  refine x_met (by decide) (Nat.le_of_ble_eq_true rfl) ?_
  intro p e s m below meth c ls hx hb hml hr hlk hown hnm hX M hl
  exact w_X11_isPlaceInSum_0 hx hb hml hr hlk hown hX hd (Nat.mul_le_mul_left 60 hd) (N := N) _ _ _ _ _ M  (lv_sub hl [0] rfl) q
def b_X7_hasStep_0 (N : Nat) (S : Hs) (g : Hg) (a0 : Nat) (x1 : Int32) : Option (Int32 × Hg) :=
if x1 < 0 then (
some ((0 : Int32), g)) else (
if (rdI g a0 4) ≤ x1 then (
some ((0 : Int32), g)) else (
some ((1 : Int32), g)))
def f_X7_hasStep (N : Nat) (S : Hs) (g : Hg) (a0 : Nat) (x1 : Int32) : Option (Int32 × Hg) := b_X7_hasStep_0 N S g a0 x1
set_option maxHeartbeats 4000000 in
set_option maxRecDepth 100000 in
theorem w_X7_hasStep_0 (hx : p.tables.exec = Jvm.exec) (hb : c.code = cX7_hasStep) (hml : c.maxLocals = 2) (hr : meth.sig.returnType = (some .boolean)) (hlk : meth.locks = false) (hown : s.vm.findClass RX7 = some m.cls) (hX : Kx D cA lo tS s) (hRf : 1 ≤ R.frames) (hRl : 60 ≤ R.locals) {N : Nat} {rv : Int32} {g1 : Hg} {S : Hs} : ∀ (H : Heap) (locs : List Loc) (ls : Array Slot) (g : Hg) (a0 : Nat) (x1 : Int32), Mm D cA lo S g s H locs → Rf lo S a0 7 → lv_has ls 2 [(0, .ref a0), (1, .int x1)] → b_X7_hasStep_0 N S g a0 x1 = some (rv, g1) → W p l e R s m args below meth c H locs 0 0 (MQ below (Qcx D cA lo S (some (.int rv)) S g1 True) args s 0 0 (fun q : Nat => lo ≤ q)) (F0 m 0 ls []) := by
  intro H locs ls g a0 x1 M ra0 hl q
  unfold b_X7_hasStep_0 at q
  refine lv_iload_n hx hb dX7_hasStep_0 rfl (lv_at hl 1 rfl) ?_
  refine lv_if_lt (tgt := 16) hx hb dX7_hasStep_1 (by decide) (fun c_1 => ?_) (fun c_1 => ?_)
  · replace q := if_t c_1 q
    refine lv_iconst (v := 0) hx hb dX7_hasStep_16 (by decide) ?_
    cases q
    exact x_zret hx hb hr hlk rfl M Ext.rf dX7_hasStep_17
  · replace q := if_f c_1 q
    refine lv_iload_n hx hb dX7_hasStep_4 rfl (lv_at hl 1 rfl) ?_
    refine lv_aload_n hx hb dX7_hasStep_5 rfl (lv_at hl 0 rfl) ?_
    refine x_getI hx hb hown hX M (k := 4) okX7 ra0 (by decide) rfl kw_192 dX7_hasStep_6 ?_
    refine lv_icmp_ge (tgt := 16) hx hb dX7_hasStep_9 (by decide) (fun c_2 => ?_) (fun c_2 => ?_)
    · replace q := if_t c_2 q
      refine lv_iconst (v := 0) hx hb dX7_hasStep_16 (by decide) ?_
      cases q
      exact x_zret hx hb hr hlk rfl M Ext.rf dX7_hasStep_17
    · replace q := if_f c_2 q
      refine lv_iconst (v := 1) hx hb dX7_hasStep_12 (by decide) ?_
      refine lv_goto (tgt := 17) hx hb dX7_hasStep_13 (by decide) ?_
      cases q
      exact x_zret hx hb hr hlk rfl M Ext.rf dX7_hasStep_17
set_option maxRecDepth 100000 in
theorem c_X7_hasStep {l : Launch} {D : va_G} {cA : Nat → ClassId} {lo tS N : Nat} {S : Hs} {g g1 : Hg} {rv : Int32} {a0 : Nat} {x1 : Int32} (ra0 : Rf lo S a0 7) (q : f_X7_hasStep N S g a0 x1 = some (rv, g1)) {d : Nat} (hd : 1 ≤ d) : Ctr l yX7_hasStep cX7_hasStep 2 (some .boolean) D cA lo tS [.ref a0, .int x1] S g d (some (.int rv)) S g1 True 0 0 := by
  refine x_met (by decide) (Nat.le_of_ble_eq_true rfl) ?_
  intro p e s m below meth c ls hx hb hml hr hlk hown hnm hX M hl
  exact w_X7_hasStep_0 hx hb hml hr hlk hown hX hd (Nat.mul_le_mul_left 60 hd) (N := N) _ _ _ _ _ _ M ra0 (lv_sub hl [0, 1] rfl) q
def b_X11_bend_0 (N : Nat) (S : Hs) (g : Hg) (a0 : Nat) (x1 : Int32) (x2 : Int32) (x3 : Int32) (x4 : Int32) : Option (Int32 × Hg) :=
nn (rdR g a0 3) (fun a_1 =>
c2 (f_X1_slotAt N S g a_1 x1) (fun o_3 g_2 =>
on o_3 (
some ((0 : Int32), g_2)) (fun a_4 =>
c2 (f_X7_hasStep N S g_2 a_4 x2) (fun x_6 g_5 =>
if x_6 = 0 then (
some ((0 : Int32), g_5)) else (
c2 (f_X11_isPlaceInSum N S g_5 x3) (fun x_9 g_8 =>
if x_9 = 0 then (
some ((0 : Int32), g_8)) else (
nn (rdR g_8 a_4 2) (fun a_11 =>
ck (inb ((x2 * (8 : Int32)) + x3) (hpL S a_11)) (
ck (inb ((x2 * (8 : Int32)) + x3) (hpL S a_11)) (
nm (wrI g_8 a_11 ((x2 * (8 : Int32)) + x3).toNatClampNeg ((rdI g_8 a_11 ((x2 * (8 : Int32)) + x3).toNatClampNeg) ^^^ x4)) (fun g_12 =>
some ((1 : Int32), g_12))))))))))))
def f_X11_bend (N : Nat) (S : Hs) (g : Hg) (a0 : Nat) (x1 : Int32) (x2 : Int32) (x3 : Int32) (x4 : Int32) : Option (Int32 × Hg) := b_X11_bend_0 N S g a0 x1 x2 x3 x4
set_option maxHeartbeats 4000000 in
set_option maxRecDepth 100000 in
theorem w_X11_bend_0 (hx : p.tables.exec = Jvm.exec) (hb : c.code = cX11_bend) (hml : c.maxLocals = 6) (hr : meth.sig.returnType = (some .boolean)) (hlk : meth.locks = false) (hown : s.vm.findClass RX11 = some m.cls) (hX : Kx D cA lo tS s) (hRf : 2 ≤ R.frames) (hRl : 120 ≤ R.locals) {N : Nat} {rv : Int32} {g1 : Hg} {S : Hs} : ∀ (H : Heap) (locs : List Loc) (ls : Array Slot) (g : Hg) (a0 : Nat) (x1 : Int32) (x2 : Int32) (x3 : Int32) (x4 : Int32), Mm D cA lo S g s H locs → Rf lo S a0 11 → lv_has ls 6 [(0, .ref a0), (1, .int x1), (2, .int x2), (3, .int x3), (4, .int x4)] → b_X11_bend_0 N S g a0 x1 x2 x3 x4 = some (rv, g1) → W p l e R s m args below meth c H locs 0 0 (MQ below (Qcx D cA lo S (some (.int rv)) S g1 True) args s 0 0 (fun q : Nat => lo ≤ q)) (F0 m 0 ls []) := by
  intro H locs ls g a0 x1 x2 x3 x4 M ra0 hl q
  unfold b_X11_bend_0 at q
  refine lv_aload_n hx hb dX11_bend_0 rfl (lv_at hl 0 rfl) ?_
  replace q := nn_s q
  obtain ⟨a_1, e_a_1, q⟩ := q
  refine x_getR hx hb hown hX M e_a_1 okX11 ra0 (by decide) rfl kw_359 dX11_bend_1 (fun ra_1 => ?_)
  refine lv_iload_n hx hb dX11_bend_4 rfl (lv_at hl 1 rfl) ?_
  replace q := c2_s q
  obtain ⟨o_3, g_2, qc, q⟩ := q
  refine x_callV hx hb hml hl.1 hown hX M (S1 := S) (As := [.int x1]) (rest := []) okX1 ra_1 rfl kw_732 kw_733 mok_X1_slotAt (c_X1_slotAt ra_1 qc (Nat.le_refl 1)) kw_731 rfl rfl dX11_bend_5 (Nat.le_of_ble_eq_true rfl) ⟨Nat.le_trans (by decide) hRf, Nat.le_trans (by decide) hRl⟩ (Nat.zero_le _) (Nat.zero_le _) (fun H locs M hEF => ?_)
  have ro_3 := hEF.2
  refine x_astore (lv' := [(5, va_rf o_3), (0, .ref a0), (1, .int x1), (2, .int x2), (3, .int x3), (4, .int x4)]) hx hb dX11_bend_8 hl (by decide) rfl (fun ls hl => ?_)
  refine x_aload hx hb dX11_bend_10 (lv_at hl 0 rfl) ?_
  refine x_ifnull (tgt := 31) hx hb dX11_bend_12 (by decide) (fun c_13 => ?_) (fun a_4 c_13 => ?_)
  · replace q := on_n c_13 q
    refine lv_iconst (v := 0) hx hb dX11_bend_31 (by decide) ?_
    cases q
    exact x_zret hx hb hr hlk rfl M Ext.rf dX11_bend_32
  · subst c_13
    replace q := on_s rfl q
    have ra_4 := ro_3 a_4 rfl
    have hl : lv_has ls 6 [(5, .ref a_4), (0, .ref a0), (1, .int x1), (2, .int x2), (3, .int x3), (4, .int x4)] := hl
    refine lv_aload hx hb dX11_bend_15 (lv_at hl 0 rfl) ?_
    refine lv_iload_n hx hb dX11_bend_17 rfl (lv_at hl 3 rfl) ?_
    replace q := c2_s q
    obtain ⟨x_6, g_5, qc, q⟩ := q
    refine x_callV hx hb hml hl.1 hown hX M (S1 := S) (As := [.int x2]) (rest := []) okX7 ra_4 rfl kw_825 kw_826 mok_X7_hasStep (c_X7_hasStep ra_4 qc (Nat.le_refl 1)) kw_824 rfl rfl dX11_bend_18 (Nat.le_of_ble_eq_true rfl) ⟨Nat.le_trans (by decide) hRf, Nat.le_trans (by decide) hRl⟩ (Nat.zero_le _) (Nat.zero_le _) (fun H locs M hEF => ?_)
    refine lv_if_eq (tgt := 31) hx hb dX11_bend_21 (by decide) (fun c_7 => ?_) (fun c_7 => ?_)
    · replace q := if_t c_7 q
      refine lv_iconst (v := 0) hx hb dX11_bend_31 (by decide) ?_
      cases q
      exact x_zret hx hb hr hlk rfl M Ext.rf dX11_bend_32
    · replace q := if_f c_7 q
      refine lv_iload_n hx hb dX11_bend_24 rfl (lv_at hl 4 rfl) ?_
      replace q := c2_s q
      obtain ⟨x_9, g_8, qc, q⟩ := q
      refine x_callS hx hb hml hl.1 hown hX M (S1 := S) (As := [.int x3]) (rest := []) kw_647 mok_X11_isPlaceInSum (c_X11_isPlaceInSum  qc (Nat.le_refl 1)) kw_646 rfl rfl dX11_bend_25 (Nat.le_of_ble_eq_true rfl) ⟨Nat.le_trans (by decide) hRf, Nat.le_trans (by decide) hRl⟩ (Nat.zero_le _) (Nat.zero_le _) (fun H locs M hEF => ?_)
      refine lv_if_ne (tgt := 33) hx hb dX11_bend_28 (by decide) (fun c_10 => ?_) (fun c_10 => ?_)
      · replace q := if_f c_10 q
        refine lv_aload hx hb dX11_bend_33 (lv_at hl 0 rfl) ?_
        replace q := nn_s q
        obtain ⟨a_11, e_a_11, q⟩ := q
        refine x_getR hx hb hown hX M e_a_11 okX7 ra_4 (by decide) rfl kw_188 dX11_bend_35 (fun ra_11 => ?_)
        refine lv_iload_n hx hb dX11_bend_38 rfl (lv_at hl 3 rfl) ?_
        refine lv_bipush (v := 8) hx hb dX11_bend_39 (by decide) ?_
        refine lv_imul hx hb dX11_bend_41 ?_
        refine lv_iload_n hx hb dX11_bend_42 rfl (lv_at hl 4 rfl) ?_
        refine lv_iadd hx hb dX11_bend_43 ?_
        refine lv_dup2_11 hx hb dX11_bend_44 rfl rfl ?_
        replace q := ck_s q
        obtain ⟨hin, q⟩ := q
        refine x_iald hx hb hX M ra_11 (inb_in hin) dX11_bend_45 ?_
        refine lv_iload hx hb dX11_bend_46 (lv_at hl 5 rfl) ?_
        refine lv_ixor hx hb dX11_bend_48 ?_
        replace q := ck_s q
        obtain ⟨hin, q⟩ := q
        refine x_iast hx hb hX M ra_11 (inb_in hin) dX11_bend_49 (fun H locs M => ?_)
        replace q := gen_g M q
        obtain ⟨g_12, -, M, q⟩ := q
        refine lv_iconst (v := 1) hx hb dX11_bend_50 (by decide) ?_
        cases q
        exact x_zret hx hb hr hlk rfl M Ext.rf dX11_bend_51
      · replace q := if_t c_10 q
        refine lv_iconst (v := 0) hx hb dX11_bend_31 (by decide) ?_
        cases q
        exact x_zret hx hb hr hlk rfl M Ext.rf dX11_bend_32
set_option maxRecDepth 100000 in
theorem c_X11_bend {l : Launch} {D : va_G} {cA : Nat → ClassId} {lo tS N : Nat} {S : Hs} {g g1 : Hg} {rv : Int32} {a0 : Nat} {x1 : Int32} {x2 : Int32} {x3 : Int32} {x4 : Int32} (ra0 : Rf lo S a0 11) (q : f_X11_bend N S g a0 x1 x2 x3 x4 = some (rv, g1)) {d : Nat} (hd : 2 ≤ d) : Ctr l yX11_bend cX11_bend 6 (some .boolean) D cA lo tS [.ref a0, .int x1, .int x2, .int x3, .int x4] S g d (some (.int rv)) S g1 True 0 0 := by
  refine x_met (by decide) (Nat.le_of_ble_eq_true rfl) ?_
  intro p e s m below meth c ls hx hb hml hr hlk hown hnm hX M hl
  exact w_X11_bend_0 hx hb hml hr hlk hown hX hd (Nat.mul_le_mul_left 60 hd) (N := N) _ _ _ _ _ _ _ _ _ M ra0 (lv_sub hl [0, 1, 2, 3, 4] rfl) q
end W4
