section W5
variable {p : Program} {l : Launch} {e : Env} {R : Room} {s : State} {m : MethodId} {args : Array Value} {below : List Frame} {meth : Method} {c : Code} {D : va_G} {cA : Nat → ClassId} {lo tS : Nat}
def b_X11_isSameSum_2 (N : Nat) (S : Hs) (k2 : Hg → Nat → Nat → Int32 → Option (Int32 × Hg)) (g : Hg) (a0 : Nat) (a1 : Nat) (x2 : Int32) : Option (Int32 × Hg) :=
if (8 : Int32) ≤ x2 then (
some ((1 : Int32), g)) else (
ck (inb x2 (hpL S a0)) (
ck (inb x2 (hpL S a1)) (
if (rdI g a0 x2.toNatClampNeg) = (rdI g a1 x2.toNatClampNeg) then (
nm (x2 + 1) (fun x_3 =>
k2 g a0 a1 x_3)) else (
some ((0 : Int32), g)))))
def n_X11_isSameSum_2 (N : Nat) (S : Hs) : Nat → Hg → Nat → Nat → Int32 → Option (Int32 × Hg)
  | 0 => fun _ _ _ _ => none
  | n + 1 => fun g a0 a1 x2 => b_X11_isSameSum_2 N S (n_X11_isSameSum_2 N S n) g a0 a1 x2
def b_X11_isSameSum_0 (N : Nat) (S : Hs) (g : Hg) (a0 : Nat) (a1 : Nat) : Option (Int32 × Hg) :=
n_X11_isSameSum_2 N S N g a0 a1 (0 : Int32)
def f_X11_isSameSum (N : Nat) (S : Hs) (g : Hg) (a0 : Nat) (a1 : Nat) : Option (Int32 × Hg) := b_X11_isSameSum_0 N S g a0 a1
set_option maxHeartbeats 4000000 in
set_option maxRecDepth 100000 in
theorem w_X11_isSameSum_2 (hx : p.tables.exec = Jvm.exec) (hb : c.code = cX11_isSameSum) (hml : c.maxLocals = 3) (hr : meth.sig.returnType = (some .boolean)) (hlk : meth.locks = false) (hown : s.vm.findClass RX11 = some m.cls) (hX : Kx D cA lo tS s) (hRf : 1 ≤ R.frames) (hRl : 60 ≤ R.locals) {N : Nat} {rv : Int32} {g1 : Hg} {S : Hs} {k2 : Hg → Nat → Nat → Int32 → Option (Int32 × Hg)} (hk2 : ∀ (H : Heap) (locs : List Loc) (ls : Array Slot) (g : Hg) (a0 : Nat) (a1 : Nat) (x2 : Int32), Mm D cA lo S g s H locs → Rf lo S a0 20 → Rf lo S a1 20 → lv_has ls 3 [(0, .ref a0), (1, .ref a1), (2, .int x2)] → k2 g a0 a1 x2 = some (rv, g1) → W p l e R s m args below meth c H locs 0 0 (MQ below (Qcx D cA lo S (some (.int rv)) S g1 True) args s 0 0 (fun q : Nat => lo ≤ q)) (F0 m 2 ls [])) : ∀ (H : Heap) (locs : List Loc) (ls : Array Slot) (g : Hg) (a0 : Nat) (a1 : Nat) (x2 : Int32), Mm D cA lo S g s H locs → Rf lo S a0 20 → Rf lo S a1 20 → lv_has ls 3 [(0, .ref a0), (1, .ref a1), (2, .int x2)] → b_X11_isSameSum_2 N S k2 g a0 a1 x2 = some (rv, g1) → W p l e R s m args below meth c H locs 0 0 (MQ below (Qcx D cA lo S (some (.int rv)) S g1 True) args s 0 0 (fun q : Nat => lo ≤ q)) (F0 m 2 ls []) := by
  intro H locs ls g a0 a1 x2 M ra0 ra1 hl q
  unfold b_X11_isSameSum_2 at q
  refine lv_iload_n hx hb dX11_isSameSum_2 rfl (lv_at hl 2 rfl) ?_
  refine lv_bipush (v := 8) hx hb dX11_isSameSum_3 (by decide) ?_
  refine lv_icmp_ge (tgt := 25) hx hb dX11_isSameSum_5 (by decide) (fun c_1 => ?_) (fun c_1 => ?_)
  · replace q := if_t c_1 q
    refine lv_iconst (v := 1) hx hb dX11_isSameSum_25 (by decide) ?_
    cases q
    exact x_zret hx hb hr hlk rfl M Ext.rf dX11_isSameSum_26
  · replace q := if_f c_1 q
    refine lv_aload_n hx hb dX11_isSameSum_8 rfl (lv_at hl 0 rfl) ?_
    refine lv_iload_n hx hb dX11_isSameSum_9 rfl (lv_at hl 2 rfl) ?_
    replace q := ck_s q
    obtain ⟨hin, q⟩ := q
    refine x_iald hx hb hX M ra0 (inb_in hin) dX11_isSameSum_10 ?_
    refine lv_aload_n hx hb dX11_isSameSum_11 rfl (lv_at hl 1 rfl) ?_
    refine lv_iload_n hx hb dX11_isSameSum_12 rfl (lv_at hl 2 rfl) ?_
    replace q := ck_s q
    obtain ⟨hin, q⟩ := q
    refine x_iald hx hb hX M ra1 (inb_in hin) dX11_isSameSum_13 ?_
    refine lv_icmp_eq (tgt := 19) hx hb dX11_isSameSum_14 (by decide) (fun c_2 => ?_) (fun c_2 => ?_)
    · replace q := if_t c_2 q
      obtain ⟨x_3, e_x_3⟩ : ∃ y : Int32, y = x2 + 1 := ⟨_, rfl⟩
      replace q := nm_s q e_x_3
      refine lv_iinc (v := x_3) (lv' := [(2, .int x_3), (0, .ref a0), (1, .ref a1)]) hx hb dX11_isSameSum_19 hl (k := 2) rfl (by rw [e_x_3]; rfl) (by decide) rfl (fun ls hl => ?_)
      refine lv_goto (tgt := 2) hx hb dX11_isSameSum_22 (by decide) ?_
      exact hk2 _ _ _ _ _ _ _ M ra0 ra1 (lv_sub hl [1, 2, 0] rfl) q
    · replace q := if_f c_2 q
      refine lv_iconst (v := 0) hx hb dX11_isSameSum_17 (by decide) ?_
      cases q
      exact x_zret hx hb hr hlk rfl M Ext.rf dX11_isSameSum_18
set_option maxRecDepth 100000 in
theorem l_X11_isSameSum_2 (hx : p.tables.exec = Jvm.exec) (hb : c.code = cX11_isSameSum) (hml : c.maxLocals = 3) (hr : meth.sig.returnType = (some .boolean)) (hlk : meth.locks = false) (hown : s.vm.findClass RX11 = some m.cls) (hX : Kx D cA lo tS s) (hRf : 1 ≤ R.frames) (hRl : 60 ≤ R.locals) {N : Nat} {rv : Int32} {g1 : Hg} {S : Hs} : ∀ (n : Nat), ∀ (H : Heap) (locs : List Loc) (ls : Array Slot) (g : Hg) (a0 : Nat) (a1 : Nat) (x2 : Int32), Mm D cA lo S g s H locs → Rf lo S a0 20 → Rf lo S a1 20 → lv_has ls 3 [(0, .ref a0), (1, .ref a1), (2, .int x2)] → n_X11_isSameSum_2 N S n g a0 a1 x2 = some (rv, g1) → W p l e R s m args below meth c H locs 0 0 (MQ below (Qcx D cA lo S (some (.int rv)) S g1 True) args s 0 0 (fun q : Nat => lo ≤ q)) (F0 m 2 ls []) := by
  intro n
  induction n with
  | zero =>
    intro H locs ls g a0 a1 x2 M ra0 ra1 hl q
    exact absurd q (by simp [n_X11_isSameSum_2])
  | succ n ih => exact w_X11_isSameSum_2 hx hb hml hr hlk hown hX hRf hRl (N := N)  ih
set_option maxHeartbeats 4000000 in
set_option maxRecDepth 100000 in
theorem w_X11_isSameSum_0 (hx : p.tables.exec = Jvm.exec) (hb : c.code = cX11_isSameSum) (hml : c.maxLocals = 3) (hr : meth.sig.returnType = (some .boolean)) (hlk : meth.locks = false) (hown : s.vm.findClass RX11 = some m.cls) (hX : Kx D cA lo tS s) (hRf : 1 ≤ R.frames) (hRl : 60 ≤ R.locals) {N : Nat} {rv : Int32} {g1 : Hg} {S : Hs} : ∀ (H : Heap) (locs : List Loc) (ls : Array Slot) (g : Hg) (a0 : Nat) (a1 : Nat), Mm D cA lo S g s H locs → Rf lo S a0 20 → Rf lo S a1 20 → lv_has ls 3 [(0, .ref a0), (1, .ref a1)] → b_X11_isSameSum_0 N S g a0 a1 = some (rv, g1) → W p l e R s m args below meth c H locs 0 0 (MQ below (Qcx D cA lo S (some (.int rv)) S g1 True) args s 0 0 (fun q : Nat => lo ≤ q)) (F0 m 0 ls []) := by
  intro H locs ls g a0 a1 M ra0 ra1 hl q
  unfold b_X11_isSameSum_0 at q
  refine lv_iconst (v := 0) hx hb dX11_isSameSum_0 (by decide) ?_
  refine lv_istore_n (lv' := [(2, .int (0 : Int32)), (0, .ref a0), (1, .ref a1)]) hx hb dX11_isSameSum_1 rfl hl (by decide) rfl (fun ls hl => ?_)
  exact l_X11_isSameSum_2 hx hb hml hr hlk hown hX hRf hRl (N := N)  N _ _ _ _ _ _ _ M ra0 ra1 (lv_sub hl [1, 2, 0] rfl) q
set_option maxRecDepth 100000 in
theorem c_X11_isSameSum {l : Launch} {D : va_G} {cA : Nat → ClassId} {lo tS N : Nat} {S : Hs} {g g1 : Hg} {rv : Int32} {a0 : Nat} {a1 : Nat} (ra0 : Rf lo S a0 20) (ra1 : Rf lo S a1 20) (q : f_X11_isSameSum N S g a0 a1 = some (rv, g1)) {d : Nat} (hd : 1 ≤ d) : Ctr l yX11_isSameSum cX11_isSameSum 3 (some .boolean) D cA lo tS [.ref a0, .ref a1] S g d (some (.int rv)) S g1 True 0 0 := by
  refine x_met (by decide) (Nat.le_of_ble_eq_true rfl) ?_
  intro p e s m below meth c ls hx hb hml hr hlk hown hnm hX M hl
  exact w_X11_isSameSum_0 hx hb hml hr hlk hown hX hd (Nat.mul_le_mul_left 60 hd) (N := N) _ _ _ _ _ _ M ra0 ra1 (lv_sub hl [0, 1] rfl) q
def b_X6_markOf_0 (N : Nat) (S : Hs) (g : Hg) (a0 : Nat) (a1 : Nat) (a2 : Nat) : Option (Unit × Hg) :=
nn (rdR g a0 0) (fun a_1 =>
ck (inb (0 : Int32) (hpL S a_1)) (
nm (wrI g a_1 (0 : Int32).toNatClampNeg (6 : Int32)) (fun g_2 =>
nn (rdR g_2 a0 0) (fun a_3 =>
ck (inb (1 : Int32) (hpL S a_3)) (
nm (wrI g_2 a_3 (1 : Int32).toNatClampNeg (rdI g_2 a1 6)) (fun g_4 =>
nn (rdR g_4 a0 0) (fun a_5 =>
ck (inb (2 : Int32) (hpL S a_5)) (
nm (wrI g_4 a_5 (2 : Int32).toNatClampNeg (((1000003 : Int32) * (rdI g_4 a1 6)) + (77 : Int32))) (fun g_6 =>
nn (rdR g_6 a0 0) (fun a_7 =>
ck (inb (3 : Int32) (hpL S a_7)) (
nm (wrI g_6 a_7 (3 : Int32).toNatClampNeg (rdI g_6 a1 4)) (fun g_8 =>
nn (rdR g_8 a1 0) (fun a_9 =>
nn (rdR g_8 a0 0) (fun a_10 =>
ck (cpok (0 : Int32) (4 : Int32) (8 : Int32) (hpL S a_9) (hpL S a_10)) (
nm (cpI g_8 a_9 (0 : Int32).toNatClampNeg a_10 (4 : Int32).toNatClampNeg (8 : Int32).toNatClampNeg) (fun g_11 =>
nn (rdR g_11 a1 1) (fun a_12 =>
nn (rdR g_11 a0 0) (fun a_13 =>
ck (cpok (0 : Int32) (12 : Int32) (8 : Int32) (hpL S a_12) (hpL S a_13)) (
nm (cpI g_11 a_12 (0 : Int32).toNatClampNeg a_13 (12 : Int32).toNatClampNeg (8 : Int32).toNatClampNeg) (fun g_14 =>
c2 (f_X6_mix N S g_14 a0 (20 : Int32) a2 (0 : Int32)) (fun u_16 g_15 =>
some ((), g_15))))))))))))))))))))))
def f_X6_markOf (N : Nat) (S : Hs) (g : Hg) (a0 : Nat) (a1 : Nat) (a2 : Nat) : Option (Unit × Hg) := b_X6_markOf_0 N S g a0 a1 a2
set_option maxHeartbeats 4000000 in
set_option maxRecDepth 100000 in
theorem w_X6_markOf_0 (hx : p.tables.exec = Jvm.exec) (hb : c.code = cX6_markOf) (hml : c.maxLocals = 3) (hr : meth.sig.returnType = none) (hlk : meth.locks = false) (hown : s.vm.findClass RX6 = some m.cls) (hX : Kx D cA lo tS s) (hRf : 3 ≤ R.frames) (hRl : 180 ≤ R.locals) {N : Nat} {rv : Unit} {g1 : Hg} {S : Hs} : ∀ (H : Heap) (locs : List Loc) (ls : Array Slot) (g : Hg) (a0 : Nat) (a1 : Nat) (a2 : Nat), Mm D cA lo S g s H locs → Rf lo S a0 6 → Rf lo S a1 0 → Rf lo S a2 20 → lv_has ls 3 [(0, .ref a0), (1, .ref a1), (2, .ref a2)] → b_X6_markOf_0 N S g a0 a1 a2 = some (rv, g1) → W p l e R s m args below meth c H locs 0 0 (MQ below (Qcx D cA lo S none S g1 True) args s 0 0 (fun q : Nat => lo ≤ q)) (F0 m 0 ls []) := by
  intro H locs ls g a0 a1 a2 M ra0 ra1 ra2 hl q
  unfold b_X6_markOf_0 at q
  refine lv_aload_n hx hb dX6_markOf_0 rfl (lv_at hl 0 rfl) ?_
  replace q := nn_s q
  obtain ⟨a_1, e_a_1, q⟩ := q
  refine x_getR hx hb hown hX M e_a_1 okX6 ra0 (by decide) rfl kw_83 dX6_markOf_1 (fun ra_1 => ?_)
  refine lv_iconst (v := 0) hx hb dX6_markOf_4 (by decide) ?_
  refine lv_bipush (v := 6) hx hb dX6_markOf_5 (by decide) ?_
  replace q := ck_s q
  obtain ⟨hin, q⟩ := q
  refine x_iast hx hb hX M ra_1 (inb_in hin) dX6_markOf_7 (fun H locs M => ?_)
  replace q := gen_g M q
  obtain ⟨g_2, -, M, q⟩ := q
  refine lv_aload_n hx hb dX6_markOf_8 rfl (lv_at hl 0 rfl) ?_
  replace q := nn_s q
  obtain ⟨a_3, e_a_3, q⟩ := q
  refine x_getR hx hb hown hX M e_a_3 okX6 ra0 (by decide) rfl kw_83 dX6_markOf_9 (fun ra_3 => ?_)
  refine lv_iconst (v := 1) hx hb dX6_markOf_12 (by decide) ?_
  refine lv_aload_n hx hb dX6_markOf_13 rfl (lv_at hl 1 rfl) ?_
  refine x_getI hx hb hown hX M (k := 6) okX0 ra1 (by decide) rfl kw_271 dX6_markOf_14 ?_
  replace q := ck_s q
  obtain ⟨hin, q⟩ := q
  refine x_iast hx hb hX M ra_3 (inb_in hin) dX6_markOf_17 (fun H locs M => ?_)
  replace q := gen_g M q
  obtain ⟨g_4, -, M, q⟩ := q
  refine lv_aload_n hx hb dX6_markOf_18 rfl (lv_at hl 0 rfl) ?_
  replace q := nn_s q
  obtain ⟨a_5, e_a_5, q⟩ := q
  refine x_getR hx hb hown hX M e_a_5 okX6 ra0 (by decide) rfl kw_83 dX6_markOf_19 (fun ra_5 => ?_)
  refine lv_iconst (v := 2) hx hb dX6_markOf_22 (by decide) ?_
  refine lv_ldc (v := 1000003) hx hb hown (hX.hts _ _ (mw kw_726 rfl)) dX6_markOf_23 ?_
  refine lv_aload_n hx hb dX6_markOf_25 rfl (lv_at hl 1 rfl) ?_
  refine x_getI hx hb hown hX M (k := 6) okX0 ra1 (by decide) rfl kw_271 dX6_markOf_26 ?_
  refine lv_imul hx hb dX6_markOf_29 ?_
  refine lv_bipush (v := 77) hx hb dX6_markOf_30 (by decide) ?_
  refine lv_iadd hx hb dX6_markOf_32 ?_
  replace q := ck_s q
  obtain ⟨hin, q⟩ := q
  refine x_iast hx hb hX M ra_5 (inb_in hin) dX6_markOf_33 (fun H locs M => ?_)
  replace q := gen_g M q
  obtain ⟨g_6, -, M, q⟩ := q
  refine lv_aload_n hx hb dX6_markOf_34 rfl (lv_at hl 0 rfl) ?_
  replace q := nn_s q
  obtain ⟨a_7, e_a_7, q⟩ := q
  refine x_getR hx hb hown hX M e_a_7 okX6 ra0 (by decide) rfl kw_83 dX6_markOf_35 (fun ra_7 => ?_)
  refine lv_iconst (v := 3) hx hb dX6_markOf_38 (by decide) ?_
  refine lv_aload_n hx hb dX6_markOf_39 rfl (lv_at hl 1 rfl) ?_
  refine x_getI hx hb hown hX M (k := 4) okX0 ra1 (by decide) rfl kw_264 dX6_markOf_40 ?_
  replace q := ck_s q
  obtain ⟨hin, q⟩ := q
  refine x_iast hx hb hX M ra_7 (inb_in hin) dX6_markOf_43 (fun H locs M => ?_)
  replace q := gen_g M q
  obtain ⟨g_8, -, M, q⟩ := q
  refine lv_aload_n hx hb dX6_markOf_44 rfl (lv_at hl 1 rfl) ?_
  replace q := nn_s q
  obtain ⟨a_9, e_a_9, q⟩ := q
  refine x_getR hx hb hown hX M e_a_9 okX0 ra1 (by decide) rfl kw_250 dX6_markOf_45 (fun ra_9 => ?_)
  refine lv_iconst (v := 0) hx hb dX6_markOf_48 (by decide) ?_
  refine lv_aload_n hx hb dX6_markOf_49 rfl (lv_at hl 0 rfl) ?_
  replace q := nn_s q
  obtain ⟨a_10, e_a_10, q⟩ := q
  refine x_getR hx hb hown hX M e_a_10 okX6 ra0 (by decide) rfl kw_83 dX6_markOf_50 (fun ra_10 => ?_)
  refine lv_iconst (v := 4) hx hb dX6_markOf_53 (by decide) ?_
  refine lv_bipush (v := 8) hx hb dX6_markOf_54 (by decide) ?_
  replace q := ck_s q
  obtain ⟨hz, q⟩ := q
  refine x_copyI hx hb hml hl.1 hown hX M (rest := []) kw_523 kw_an kw_as kw_ai ra_9 ra_10 hz (Nat.le_of_ble_eq_true rfl) ⟨Nat.le_trans (by omega) hRf, Nat.le_trans (by omega) hRl⟩ dX6_markOf_56 (fun H locs M => ?_)
  replace q := gen_g M q
  obtain ⟨g_11, -, M, q⟩ := q
  refine lv_aload_n hx hb dX6_markOf_59 rfl (lv_at hl 1 rfl) ?_
  replace q := nn_s q
  obtain ⟨a_12, e_a_12, q⟩ := q
  refine x_getR hx hb hown hX M e_a_12 okX0 ra1 (by decide) rfl kw_254 dX6_markOf_60 (fun ra_12 => ?_)
  refine lv_iconst (v := 0) hx hb dX6_markOf_63 (by decide) ?_
  refine lv_aload_n hx hb dX6_markOf_64 rfl (lv_at hl 0 rfl) ?_
  replace q := nn_s q
  obtain ⟨a_13, e_a_13, q⟩ := q
  refine x_getR hx hb hown hX M e_a_13 okX6 ra0 (by decide) rfl kw_83 dX6_markOf_65 (fun ra_13 => ?_)
  refine lv_bipush (v := 12) hx hb dX6_markOf_68 (by decide) ?_
  refine lv_bipush (v := 8) hx hb dX6_markOf_70 (by decide) ?_
  replace q := ck_s q
  obtain ⟨hz, q⟩ := q
  refine x_copyI hx hb hml hl.1 hown hX M (rest := []) kw_523 kw_an kw_as kw_ai ra_12 ra_13 hz (Nat.le_of_ble_eq_true rfl) ⟨Nat.le_trans (by omega) hRf, Nat.le_trans (by omega) hRl⟩ dX6_markOf_72 (fun H locs M => ?_)
  replace q := gen_g M q
  obtain ⟨g_14, -, M, q⟩ := q
  refine lv_aload_n hx hb dX6_markOf_75 rfl (lv_at hl 0 rfl) ?_
  refine lv_bipush (v := 20) hx hb dX6_markOf_76 (by decide) ?_
  refine lv_aload_n hx hb dX6_markOf_78 rfl (lv_at hl 2 rfl) ?_
  refine lv_iconst (v := 0) hx hb dX6_markOf_79 (by decide) ?_
  replace q := c2_s q
  obtain ⟨u_16, g_15, qc, q⟩ := q
  refine x_callV hx hb hml hl.1 hown hX M (S1 := S) (As := [.int (20 : Int32), .ref a2, .int (0 : Int32)]) (rest := []) okX6 ra0 rfl kw_516 kw_0 mok_X6_mix (c_X6_mix ra0 ra2 qc (Nat.le_refl 2)) kw_514 rfl rfl dX6_markOf_80 (Nat.le_of_ble_eq_true rfl) ⟨Nat.le_trans (by decide) hRf, Nat.le_trans (by decide) hRl⟩ (Nat.zero_le _) (Nat.zero_le _) (fun H locs M hEF => ?_)
  cases q
  exact x_vret hx hb hr hlk M Ext.rf dX6_markOf_83
set_option maxRecDepth 100000 in
theorem c_X6_markOf {l : Launch} {D : va_G} {cA : Nat → ClassId} {lo tS N : Nat} {S : Hs} {g g1 : Hg} {rv : Unit} {a0 : Nat} {a1 : Nat} {a2 : Nat} (ra0 : Rf lo S a0 6) (ra1 : Rf lo S a1 0) (ra2 : Rf lo S a2 20) (q : f_X6_markOf N S g a0 a1 a2 = some (rv, g1)) {d : Nat} (hd : 3 ≤ d) : Ctr l yX6_markOf cX6_markOf 3 none D cA lo tS [.ref a0, .ref a1, .ref a2] S g d none S g1 True 0 0 := by
  refine x_met (by decide) (Nat.le_of_ble_eq_true rfl) ?_
  intro p e s m below meth c ls hx hb hml hr hlk hown hnm hX M hl
  exact w_X6_markOf_0 hx hb hml hr hlk hown hX hd (Nat.mul_le_mul_left 60 hd) (N := N) _ _ _ _ _ _ _ M ra0 ra1 ra2 (lv_sub hl [0, 1, 2] rfl) q
def b_X8_isMarked_0 (N : Nat) (S : Hs) (g : Hg) (a0 : Nat) (a1 : Nat) : Option (Int32 × Hg) :=
nn (rdR g a0 0) (fun a_1 =>
nn (rdR g a0 3) (fun a_2 =>
c2 (f_X6_markOf N S g a_1 a1 a_2) (fun u_4 g_3 =>
nn (rdR g_3 a0 3) (fun a_5 =>
nn (rdR g_3 a1 2) (fun a_6 =>
c2 (f_X11_isSameSum N S g_3 a_5 a_6) (fun x_8 g_7 =>
ck (zb x_8) (
some (x_8, g_7))))))))
def f_X8_isMarked (N : Nat) (S : Hs) (g : Hg) (a0 : Nat) (a1 : Nat) : Option (Int32 × Hg) := b_X8_isMarked_0 N S g a0 a1
set_option maxHeartbeats 4000000 in
set_option maxRecDepth 100000 in
theorem w_X8_isMarked_0 (hx : p.tables.exec = Jvm.exec) (hb : c.code = cX8_isMarked) (hml : c.maxLocals = 2) (hr : meth.sig.returnType = (some .boolean)) (hlk : meth.locks = false) (hown : s.vm.findClass RX8 = some m.cls) (hX : Kx D cA lo tS s) (hRf : 4 ≤ R.frames) (hRl : 240 ≤ R.locals) {N : Nat} {rv : Int32} {g1 : Hg} {S : Hs} : ∀ (H : Heap) (locs : List Loc) (ls : Array Slot) (g : Hg) (a0 : Nat) (a1 : Nat), Mm D cA lo S g s H locs → Rf lo S a0 8 → Rf lo S a1 0 → lv_has ls 2 [(0, .ref a0), (1, .ref a1)] → b_X8_isMarked_0 N S g a0 a1 = some (rv, g1) → W p l e R s m args below meth c H locs 0 0 (MQ below (Qcx D cA lo S (some (.int rv)) S g1 True) args s 0 0 (fun q : Nat => lo ≤ q)) (F0 m 0 ls []) := by
  intro H locs ls g a0 a1 M ra0 ra1 hl q
  unfold b_X8_isMarked_0 at q
  refine lv_aload_n hx hb dX8_isMarked_0 rfl (lv_at hl 0 rfl) ?_
  replace q := nn_s q
  obtain ⟨a_1, e_a_1, q⟩ := q
  refine x_getR hx hb hown hX M e_a_1 okX8 ra0 (by decide) rfl kw_145 dX8_isMarked_1 (fun ra_1 => ?_)
  refine lv_aload_n hx hb dX8_isMarked_4 rfl (lv_at hl 1 rfl) ?_
  refine lv_aload_n hx hb dX8_isMarked_5 rfl (lv_at hl 0 rfl) ?_
  replace q := nn_s q
  obtain ⟨a_2, e_a_2, q⟩ := q
  refine x_getR hx hb hown hX M e_a_2 okX8 ra0 (by decide) rfl kw_148 dX8_isMarked_6 (fun ra_2 => ?_)
  replace q := c2_s q
  obtain ⟨u_4, g_3, qc, q⟩ := q
  refine x_callV hx hb hml hl.1 hown hX M (S1 := S) (As := [.ref a1, .ref a_2]) (rest := []) okX6 ra_1 rfl kw_723 kw_724 mok_X6_markOf (c_X6_markOf ra_1 ra1 ra_2 qc (Nat.le_refl 3)) kw_722 rfl rfl dX8_isMarked_9 (Nat.le_of_ble_eq_true rfl) ⟨Nat.le_trans (by decide) hRf, Nat.le_trans (by decide) hRl⟩ (Nat.zero_le _) (Nat.zero_le _) (fun H locs M hEF => ?_)
  refine lv_aload_n hx hb dX8_isMarked_12 rfl (lv_at hl 0 rfl) ?_
  replace q := nn_s q
  obtain ⟨a_5, e_a_5, q⟩ := q
  refine x_getR hx hb hown hX M e_a_5 okX8 ra0 (by decide) rfl kw_148 dX8_isMarked_13 (fun ra_5 => ?_)
  refine lv_aload_n hx hb dX8_isMarked_16 rfl (lv_at hl 1 rfl) ?_
  replace q := nn_s q
  obtain ⟨a_6, e_a_6, q⟩ := q
  refine x_getR hx hb hown hX M e_a_6 okX0 ra1 (by decide) rfl kw_257 dX8_isMarked_17 (fun ra_6 => ?_)
  replace q := c2_s q
  obtain ⟨x_8, g_7, qc, q⟩ := q
  refine x_callSN hx hb hml hl.1 hown hX M (S1 := S) (As := [.ref a_5, .ref a_6]) (rest := []) kw_860 mok_X11_isSameSum (c_X11_isSameSum ra_5 ra_6 qc (Nat.le_refl 1)) kw_859 rfl rfl dX8_isMarked_20 (Nat.le_of_ble_eq_true rfl) ⟨Nat.le_trans (by decide) hRf, Nat.le_trans (by decide) hRl⟩ (Nat.zero_le _) (Nat.zero_le _) (fun H locs M hEF => ?_)
  replace q := ck_s q
  obtain ⟨hz, q⟩ := q
  cases q
  exact x_zret hx hb hr hlk (zb_nar hz) M Ext.rf dX8_isMarked_23
set_option maxRecDepth 100000 in
theorem c_X8_isMarked {l : Launch} {D : va_G} {cA : Nat → ClassId} {lo tS N : Nat} {S : Hs} {g g1 : Hg} {rv : Int32} {a0 : Nat} {a1 : Nat} (ra0 : Rf lo S a0 8) (ra1 : Rf lo S a1 0) (q : f_X8_isMarked N S g a0 a1 = some (rv, g1)) {d : Nat} (hd : 4 ≤ d) : Ctr l yX8_isMarked cX8_isMarked 2 (some .boolean) D cA lo tS [.ref a0, .ref a1] S g d (some (.int rv)) S g1 True 0 0 := by
  refine x_met (by decide) (Nat.le_of_ble_eq_true rfl) ?_
  intro p e s m below meth c ls hx hb hml hr hlk hown hnm hX M hl
  exact w_X8_isMarked_0 hx hb hml hr hlk hown hX hd (Nat.mul_le_mul_left 60 hd) (N := N) _ _ _ _ _ _ M ra0 ra1 (lv_sub hl [0, 1] rfl) q
def b_X11_blame_0 (N : Nat) (S : Hs) (g : Hg) (a0 : Nat) (x1 : Int32) (x2 : Int32) : Option (Int32 × Hg) :=
nn (rdR g a0 3) (fun a_1 =>
c2 (f_X1_firstBlamed N S g a_1 x1) (fun o_3 g_2 =>
nn (rdR g_2 a0 3) (fun a_4 =>
c2 (f_X1_secondBlamed N S g_2 a_4 x1) (fun o_6 g_5 =>
on o_3 (
some ((-1 : Int32), g_5)) (fun a_7 =>
on o_6 (
some ((-1 : Int32), g_5)) (fun a_8 =>
nm x2 (fun x_9 =>
if x_9 = 0 then (
some ((rdI g_5 a_7 4), g_5)) else (
if x_9 = 1 then (
some ((rdI g_5 a_8 4), g_5)) else (
if x_9 = 2 then (
some ((rdI g_5 a_7 6), g_5)) else (
if x_9 = 3 then (
nn (rdR g_5 a0 2) (fun a_10 =>
c2 (f_X8_isMarked N S g_5 a_10 a_7) (fun x_12 g_11 =>
if x_12 = 0 then (
some ((0 : Int32), g_11)) else (
nn (rdR g_11 a0 2) (fun a_14 =>
c2 (f_X8_isMarked N S g_11 a_14 a_8) (fun x_16 g_15 =>
if x_16 = 0 then (
some ((0 : Int32), g_15)) else (
some ((1 : Int32), g_15)))))))) else (
if x_9 = 4 then (
nn (rdR g_5 a_7 0) (fun a_18 =>
ck (inb (0 : Int32) (hpL S a_18)) (
some ((rdI g_5 a_18 (0 : Int32).toNatClampNeg), g_5)))) else (
if x_9 = 5 then (
nn (rdR g_5 a_8 0) (fun a_19 =>
ck (inb (0 : Int32) (hpL S a_19)) (
some ((rdI g_5 a_19 (0 : Int32).toNatClampNeg), g_5)))) else (
if x_9 = 6 then (
nn (rdR g_5 a_7 1) (fun a_20 =>
ck (inb (0 : Int32) (hpL S a_20)) (
some ((rdI g_5 a_20 (0 : Int32).toNatClampNeg), g_5)))) else (
if x_9 = 7 then (
nn (rdR g_5 a_8 1) (fun a_21 =>
ck (inb (0 : Int32) (hpL S a_21)) (
some ((rdI g_5 a_21 (0 : Int32).toNatClampNeg), g_5)))) else (
some ((-1 : Int32), g_5))))))))))))))))
def f_X11_blame (N : Nat) (S : Hs) (g : Hg) (a0 : Nat) (x1 : Int32) (x2 : Int32) : Option (Int32 × Hg) := b_X11_blame_0 N S g a0 x1 x2
set_option maxHeartbeats 4000000 in
set_option maxRecDepth 100000 in
theorem w_X11_blame_0 (hx : p.tables.exec = Jvm.exec) (hb : c.code = cX11_blame) (hml : c.maxLocals = 5) (hr : meth.sig.returnType = (some .int)) (hlk : meth.locks = false) (hown : s.vm.findClass RX11 = some m.cls) (hX : Kx D cA lo tS s) (hRf : 5 ≤ R.frames) (hRl : 300 ≤ R.locals) {N : Nat} {rv : Int32} {g1 : Hg} {S : Hs} : ∀ (H : Heap) (locs : List Loc) (ls : Array Slot) (g : Hg) (a0 : Nat) (x1 : Int32) (x2 : Int32), Mm D cA lo S g s H locs → Rf lo S a0 11 → lv_has ls 5 [(0, .ref a0), (1, .int x1), (2, .int x2)] → b_X11_blame_0 N S g a0 x1 x2 = some (rv, g1) → W p l e R s m args below meth c H locs 0 0 (MQ below (Qcx D cA lo S (some (.int rv)) S g1 True) args s 0 0 (fun q : Nat => lo ≤ q)) (F0 m 0 ls []) := by
  intro H locs ls g a0 x1 x2 M ra0 hl q
  unfold b_X11_blame_0 at q
  refine lv_aload_n hx hb dX11_blame_0 rfl (lv_at hl 0 rfl) ?_
  replace q := nn_s q
  obtain ⟨a_1, e_a_1, q⟩ := q
  refine x_getR hx hb hown hX M e_a_1 okX11 ra0 (by decide) rfl kw_359 dX11_blame_1 (fun ra_1 => ?_)
  refine lv_iload_n hx hb dX11_blame_4 rfl (lv_at hl 1 rfl) ?_
  replace q := c2_s q
  obtain ⟨o_3, g_2, qc, q⟩ := q
  refine x_callV hx hb hml hl.1 hown hX M (S1 := S) (As := [.int x1]) (rest := []) okX1 ra_1 rfl kw_907 kw_908 mok_X1_firstBlamed (c_X1_firstBlamed ra_1 qc (Nat.le_refl 1)) kw_906 rfl rfl dX11_blame_5 (Nat.le_of_ble_eq_true rfl) ⟨Nat.le_trans (by decide) hRf, Nat.le_trans (by decide) hRl⟩ (Nat.zero_le _) (Nat.zero_le _) (fun H locs M hEF => ?_)
  have ro_3 := hEF.2
  refine x_astore_n (lv' := [(3, va_rf o_3), (0, .ref a0), (1, .int x1), (2, .int x2)]) hx hb dX11_blame_8 rfl hl (by decide) rfl (fun ls hl => ?_)
  refine lv_aload_n hx hb dX11_blame_9 rfl (lv_at hl 1 rfl) ?_
  replace q := nn_s q
  obtain ⟨a_4, e_a_4, q⟩ := q
  refine x_getR hx hb hown hX M e_a_4 okX11 ra0 (by decide) rfl kw_359 dX11_blame_10 (fun ra_4 => ?_)
  refine lv_iload_n hx hb dX11_blame_13 rfl (lv_at hl 2 rfl) ?_
  replace q := c2_s q
  obtain ⟨o_6, g_5, qc, q⟩ := q
  refine x_callV hx hb hml hl.1 hown hX M (S1 := S) (As := [.int x1]) (rest := []) okX1 ra_4 rfl kw_911 kw_912 mok_X1_secondBlamed (c_X1_secondBlamed ra_4 qc (Nat.le_refl 1)) kw_910 rfl rfl dX11_blame_14 (Nat.le_of_ble_eq_true rfl) ⟨Nat.le_trans (by decide) hRf, Nat.le_trans (by decide) hRl⟩ (Nat.zero_le _) (Nat.zero_le _) (fun H locs M hEF => ?_)
  have ro_6 := hEF.2
  refine x_astore (lv' := [(4, va_rf o_6), (3, va_rf o_3), (0, .ref a0), (1, .int x1), (2, .int x2)]) hx hb dX11_blame_17 hl (by decide) (by cases o_3 <;> rfl) (fun ls hl => ?_)
  refine x_aload_n hx hb dX11_blame_19 rfl (lv_at hl 1 rfl) ?_
  refine x_ifnull (tgt := 28) hx hb dX11_blame_20 (by decide) (fun c_23 => ?_) (fun a_7 c_23 => ?_)
  · replace q := on_n c_23 q
    refine lv_iconst (v := -1) hx hb dX11_blame_28 (by decide) ?_
    cases q
    exact x_iret hx hb hr hlk M Ext.rf dX11_blame_29
  · subst c_23
    replace q := on_s rfl q
    have ra_7 := ro_3 a_7 rfl
    have hl : lv_has ls 5 [(4, va_rf o_6), (3, .ref a_7), (0, .ref a0), (1, .int x1), (2, .int x2)] := hl
    refine x_aload hx hb dX11_blame_23 (lv_at hl 0 rfl) ?_
    refine x_ifnonnull (tgt := 30) hx hb dX11_blame_25 (by decide) (fun a_8 c_22 => ?_) (fun c_22 => ?_)
    · subst c_22
      replace q := on_s rfl q
      have ra_8 := ro_6 a_8 rfl
      have hl : lv_has ls 5 [(4, .ref a_8), (3, .ref a_7), (0, .ref a0), (1, .int x1), (2, .int x2)] := hl
      refine lv_iload_n hx hb dX11_blame_30 rfl (lv_at hl 4 rfl) ?_
      refine lv_topi (fun x_9 e_x_9 => ?_)
      replace q := nm_s q e_x_9
      clear e_x_9
      by_cases cx_9_0 : x_9 = 0
      · replace q := if_t cx_9_0 q
        subst cx_9_0
        refine lv_tableIn (off := 45) (tgt := 76) hx hb dX11_blame_31 (by decide) (by decide) (by decide) (by decide) ?_
        refine lv_aload_n hx hb dX11_blame_76 rfl (lv_at hl 1 rfl) ?_
        refine x_getI hx hb hown hX M (k := 4) okX0 ra_7 (by decide) rfl kw_265 dX11_blame_77 ?_
        cases q
        exact x_iret hx hb hr hlk M Ext.rf dX11_blame_80
      replace q := if_f cx_9_0 q
      by_cases cx_9_1 : x_9 = 1
      · replace q := if_t cx_9_1 q
        subst cx_9_1
        refine lv_tableIn (off := 50) (tgt := 81) hx hb dX11_blame_31 (by decide) (by decide) (by decide) (by decide) ?_
        refine lv_aload hx hb dX11_blame_81 (lv_at hl 0 rfl) ?_
        refine x_getI hx hb hown hX M (k := 4) okX0 ra_8 (by decide) rfl kw_265 dX11_blame_83 ?_
        cases q
        exact x_iret hx hb hr hlk M Ext.rf dX11_blame_86
      replace q := if_f cx_9_1 q
      by_cases cx_9_2 : x_9 = 2
      · replace q := if_t cx_9_2 q
        subst cx_9_2
        refine lv_tableIn (off := 56) (tgt := 87) hx hb dX11_blame_31 (by decide) (by decide) (by decide) (by decide) ?_
        refine lv_aload_n hx hb dX11_blame_87 rfl (lv_at hl 1 rfl) ?_
        refine x_getI hx hb hown hX M (k := 6) okX0 ra_7 (by decide) rfl kw_272 dX11_blame_88 ?_
        cases q
        exact x_iret hx hb hr hlk M Ext.rf dX11_blame_91
      replace q := if_f cx_9_2 q
      by_cases cx_9_3 : x_9 = 3
      · replace q := if_t cx_9_3 q
        subst cx_9_3
        refine lv_tableIn (off := 61) (tgt := 92) hx hb dX11_blame_31 (by decide) (by decide) (by decide) (by decide) ?_
        refine lv_aload_n hx hb dX11_blame_92 rfl (lv_at hl 2 rfl) ?_
        replace q := nn_s q
        obtain ⟨a_10, e_a_10, q⟩ := q
        refine x_getR hx hb hown hX M e_a_10 okX11 ra0 (by decide) rfl kw_358 dX11_blame_93 (fun ra_10 => ?_)
        refine lv_aload_n hx hb dX11_blame_96 rfl (lv_at hl 1 rfl) ?_
        replace q := c2_s q
        obtain ⟨x_12, g_11, qc, q⟩ := q
        refine x_callV hx hb hml hl.1 hown hX M (S1 := S) (As := [.ref a_7]) (rest := []) okX8 ra_10 rfl kw_915 kw_916 mok_X8_isMarked (c_X8_isMarked ra_10 ra_7 qc (Nat.le_refl 4)) kw_914 rfl rfl dX11_blame_97 (Nat.le_of_ble_eq_true rfl) ⟨Nat.le_trans (by decide) hRf, Nat.le_trans (by decide) hRl⟩ (Nat.zero_le _) (Nat.zero_le _) (fun H locs M hEF => ?_)
        refine lv_if_eq (tgt := 119) hx hb dX11_blame_100 (by decide) (fun c_13 => ?_) (fun c_13 => ?_)
        · replace q := if_t c_13 q
          refine lv_iconst (v := 0) hx hb dX11_blame_119 (by decide) ?_
          cases q
          exact x_iret hx hb hr hlk M Ext.rf dX11_blame_120
        · replace q := if_f c_13 q
          refine lv_aload_n hx hb dX11_blame_103 rfl (lv_at hl 2 rfl) ?_
          replace q := nn_s q
          obtain ⟨a_14, e_a_14, q⟩ := q
          refine x_getR hx hb hown hX M e_a_14 okX11 ra0 (by decide) rfl kw_358 dX11_blame_104 (fun ra_14 => ?_)
          refine lv_aload hx hb dX11_blame_107 (lv_at hl 0 rfl) ?_
          replace q := c2_s q
          obtain ⟨x_16, g_15, qc, q⟩ := q
          refine x_callV hx hb hml hl.1 hown hX M (S1 := S) (As := [.ref a_8]) (rest := []) okX8 ra_14 rfl kw_915 kw_916 mok_X8_isMarked (c_X8_isMarked ra_14 ra_8 qc (Nat.le_refl 4)) kw_914 rfl rfl dX11_blame_109 (Nat.le_of_ble_eq_true rfl) ⟨Nat.le_trans (by decide) hRf, Nat.le_trans (by decide) hRl⟩ (Nat.zero_le _) (Nat.zero_le _) (fun H locs M hEF => ?_)
          refine lv_if_eq (tgt := 119) hx hb dX11_blame_112 (by decide) (fun c_17 => ?_) (fun c_17 => ?_)
          · replace q := if_t c_17 q
            refine lv_iconst (v := 0) hx hb dX11_blame_119 (by decide) ?_
            cases q
            exact x_iret hx hb hr hlk M Ext.rf dX11_blame_120
          · replace q := if_f c_17 q
            refine lv_iconst (v := 1) hx hb dX11_blame_115 (by decide) ?_
            refine lv_goto (tgt := 120) hx hb dX11_blame_116 (by decide) ?_
            cases q
            exact x_iret hx hb hr hlk M Ext.rf dX11_blame_120
      replace q := if_f cx_9_3 q
      by_cases cx_9_4 : x_9 = 4
      · replace q := if_t cx_9_4 q
        subst cx_9_4
        refine lv_tableIn (off := 90) (tgt := 121) hx hb dX11_blame_31 (by decide) (by decide) (by decide) (by decide) ?_
        refine lv_aload_n hx hb dX11_blame_121 rfl (lv_at hl 1 rfl) ?_
        replace q := nn_s q
        obtain ⟨a_18, e_a_18, q⟩ := q
        refine x_getR hx hb hown hX M e_a_18 okX0 ra_7 (by decide) rfl kw_251 dX11_blame_122 (fun ra_18 => ?_)
        refine lv_iconst (v := 0) hx hb dX11_blame_125 (by decide) ?_
        replace q := ck_s q
        obtain ⟨hin, q⟩ := q
        refine x_iald hx hb hX M ra_18 (inb_in hin) dX11_blame_126 ?_
        cases q
        exact x_iret hx hb hr hlk M Ext.rf dX11_blame_127
      replace q := if_f cx_9_4 q
      by_cases cx_9_5 : x_9 = 5
      · replace q := if_t cx_9_5 q
        subst cx_9_5
        refine lv_tableIn (off := 97) (tgt := 128) hx hb dX11_blame_31 (by decide) (by decide) (by decide) (by decide) ?_
        refine lv_aload hx hb dX11_blame_128 (lv_at hl 0 rfl) ?_
        replace q := nn_s q
        obtain ⟨a_19, e_a_19, q⟩ := q
        refine x_getR hx hb hown hX M e_a_19 okX0 ra_8 (by decide) rfl kw_251 dX11_blame_130 (fun ra_19 => ?_)
        refine lv_iconst (v := 0) hx hb dX11_blame_133 (by decide) ?_
        replace q := ck_s q
        obtain ⟨hin, q⟩ := q
        refine x_iald hx hb hX M ra_19 (inb_in hin) dX11_blame_134 ?_
        cases q
        exact x_iret hx hb hr hlk M Ext.rf dX11_blame_135
      replace q := if_f cx_9_5 q
      by_cases cx_9_6 : x_9 = 6
      · replace q := if_t cx_9_6 q
        subst cx_9_6
        refine lv_tableIn (off := 105) (tgt := 136) hx hb dX11_blame_31 (by decide) (by decide) (by decide) (by decide) ?_
        refine lv_aload_n hx hb dX11_blame_136 rfl (lv_at hl 1 rfl) ?_
        replace q := nn_s q
        obtain ⟨a_20, e_a_20, q⟩ := q
        refine x_getR hx hb hown hX M e_a_20 okX0 ra_7 (by decide) rfl kw_255 dX11_blame_137 (fun ra_20 => ?_)
        refine lv_iconst (v := 0) hx hb dX11_blame_140 (by decide) ?_
        replace q := ck_s q
        obtain ⟨hin, q⟩ := q
        refine x_iald hx hb hX M ra_20 (inb_in hin) dX11_blame_141 ?_
        cases q
        exact x_iret hx hb hr hlk M Ext.rf dX11_blame_142
      replace q := if_f cx_9_6 q
      by_cases cx_9_7 : x_9 = 7
      · replace q := if_t cx_9_7 q
        subst cx_9_7
        refine lv_tableIn (off := 112) (tgt := 143) hx hb dX11_blame_31 (by decide) (by decide) (by decide) (by decide) ?_
        refine lv_aload hx hb dX11_blame_143 (lv_at hl 0 rfl) ?_
        replace q := nn_s q
        obtain ⟨a_21, e_a_21, q⟩ := q
        refine x_getR hx hb hown hX M e_a_21 okX0 ra_8 (by decide) rfl kw_255 dX11_blame_145 (fun ra_21 => ?_)
        refine lv_iconst (v := 0) hx hb dX11_blame_148 (by decide) ?_
        replace q := ck_s q
        obtain ⟨hin, q⟩ := q
        refine x_iald hx hb hX M ra_21 (inb_in hin) dX11_blame_149 ?_
        cases q
        exact x_iret hx hb hr hlk M Ext.rf dX11_blame_150
      replace q := if_f cx_9_7 q
      refine lv_tableOut (tgt := 151) hx hb dX11_blame_31 (sw_def (fun z h1 h2 => ?_)) (by decide) ?_
      · have hz : z = 0 ∨ z = 1 ∨ z = 2 ∨ z = 3 ∨ z = 4 ∨ z = 5 ∨ z = 6 ∨ z = 7 := by omega
        rcases hz with rfl | rfl | rfl | rfl | rfl | rfl | rfl | rfl
        · exact cx_9_0
        · exact cx_9_1
        · exact cx_9_2
        · exact cx_9_3
        · exact cx_9_4
        · exact cx_9_5
        · exact cx_9_6
        · exact cx_9_7
      · refine lv_iconst (v := -1) hx hb dX11_blame_151 (by decide) ?_
        cases q
        exact x_iret hx hb hr hlk M Ext.rf dX11_blame_152
    · replace q := on_n c_22 q
      refine lv_iconst (v := -1) hx hb dX11_blame_28 (by decide) ?_
      cases q
      exact x_iret hx hb hr hlk M Ext.rf dX11_blame_29
set_option maxRecDepth 100000 in
theorem c_X11_blame {l : Launch} {D : va_G} {cA : Nat → ClassId} {lo tS N : Nat} {S : Hs} {g g1 : Hg} {rv : Int32} {a0 : Nat} {x1 : Int32} {x2 : Int32} (ra0 : Rf lo S a0 11) (q : f_X11_blame N S g a0 x1 x2 = some (rv, g1)) {d : Nat} (hd : 5 ≤ d) : Ctr l yX11_blame cX11_blame 5 (some .int) D cA lo tS [.ref a0, .int x1, .int x2] S g d (some (.int rv)) S g1 True 0 0 := by
  refine x_met (by decide) (Nat.le_of_ble_eq_true rfl) ?_
  intro p e s m below meth c ls hx hb hml hr hlk hown hnm hX M hl
  exact w_X11_blame_0 hx hb hml hr hlk hown hX hd (Nat.mul_le_mul_left 60 hd) (N := N) _ _ _ _ _ _ _ M ra0 (lv_sub hl [0, 1, 2] rfl) q
def b_X1_headOf_0 (N : Nat) (S : Hs) (g : Hg) (a0 : Nat) (x1 : Int32) : Option (Option Nat × Hg) :=
if x1 < 0 then (
some (none, g)) else (
if (12 : Int32) ≤ x1 then (
some (none, g)) else (
nn (rdR g a0 3) (fun a_3 =>
ck (inb x1 (hpL S a_3)) (
nn (rdR g a_3 x1.toNatClampNeg) (fun a_4 =>
if (rdI g a_4 3) = 0 then (
some (none, g)) else (
nn (rdR g a0 3) (fun a_6 =>
ck (inb x1 (hpL S a_6)) (
some ((rdR g a_6 x1.toNatClampNeg), g)))))))))
def f_X1_headOf (N : Nat) (S : Hs) (g : Hg) (a0 : Nat) (x1 : Int32) : Option (Option Nat × Hg) := b_X1_headOf_0 N S g a0 x1
set_option maxHeartbeats 4000000 in
set_option maxRecDepth 100000 in
theorem w_X1_headOf_0 (hx : p.tables.exec = Jvm.exec) (hb : c.code = cX1_headOf) (hml : c.maxLocals = 2) (hr : meth.sig.returnType = (some (.object "GlassLog$Head"))) (hlk : meth.locks = false) (hown : s.vm.findClass RX1 = some m.cls) (hX : Kx D cA lo tS s) (hRf : 1 ≤ R.frames) (hRl : 60 ≤ R.locals) {N : Nat} {rv : Option Nat} {g1 : Hg} {S : Hs} : ∀ (H : Heap) (locs : List Loc) (ls : Array Slot) (g : Hg) (a0 : Nat) (x1 : Int32), Mm D cA lo S g s H locs → Rf lo S a0 1 → lv_has ls 2 [(0, .ref a0), (1, .int x1)] → b_X1_headOf_0 N S g a0 x1 = some (rv, g1) → W p l e R s m args below meth c H locs 0 0 (MQ below (Qcx D cA lo S (some (va_rf rv)) S g1 (Ro lo S rv 0)) args s 0 0 (fun q : Nat => lo ≤ q)) (F0 m 0 ls []) := by
  intro H locs ls g a0 x1 M ra0 hl q
  unfold b_X1_headOf_0 at q
  refine lv_iload_n hx hb dX1_headOf_0 rfl (lv_at hl 1 rfl) ?_
  refine lv_if_lt (tgt := 31) hx hb dX1_headOf_1 (by decide) (fun c_1 => ?_) (fun c_1 => ?_)
  · replace q := if_t c_1 q
    refine lv_null hx hb dX1_headOf_31 ?_
    cases q
    exact x_aret (v := none) Ro.none hx hb hr (Or.inl ⟨_, rfl⟩) hlk M Ext.rf dX1_headOf_32
  · replace q := if_f c_1 q
    refine lv_iload_n hx hb dX1_headOf_4 rfl (lv_at hl 1 rfl) ?_
    refine lv_bipush (v := 12) hx hb dX1_headOf_5 (by decide) ?_
    refine lv_icmp_ge (tgt := 31) hx hb dX1_headOf_7 (by decide) (fun c_2 => ?_) (fun c_2 => ?_)
    · replace q := if_t c_2 q
      refine lv_null hx hb dX1_headOf_31 ?_
      cases q
      exact x_aret (v := none) Ro.none hx hb hr (Or.inl ⟨_, rfl⟩) hlk M Ext.rf dX1_headOf_32
    · replace q := if_f c_2 q
      refine lv_aload_n hx hb dX1_headOf_10 rfl (lv_at hl 0 rfl) ?_
      replace q := nn_s q
      obtain ⟨a_3, e_a_3, q⟩ := q
      refine x_getR hx hb hown hX M e_a_3 okX1 ra0 (by decide) rfl kw_323 dX1_headOf_11 (fun ra_3 => ?_)
      refine lv_iload_n hx hb dX1_headOf_14 rfl (lv_at hl 1 rfl) ?_
      replace q := ck_s q
      obtain ⟨hin, q⟩ := q
      replace q := nn_s q
      obtain ⟨a_4, e_a_4, q⟩ := q
      refine x_aaldn25 hx hb hX M ra_3 e_a_4 (inb_in hin) dX1_headOf_15 (fun ra_4 => ?_)
      refine x_getI hx hb hown hX M (k := 3) okX0 ra_4 (by decide) rfl kw_261 dX1_headOf_16 ?_
      refine lv_if_eq (tgt := 31) hx hb dX1_headOf_19 (by decide) (fun c_5 => ?_) (fun c_5 => ?_)
      · replace q := if_t c_5 q
        refine lv_null hx hb dX1_headOf_31 ?_
        cases q
        exact x_aret (v := none) Ro.none hx hb hr (Or.inl ⟨_, rfl⟩) hlk M Ext.rf dX1_headOf_32
      · replace q := if_f c_5 q
        refine lv_aload_n hx hb dX1_headOf_22 rfl (lv_at hl 0 rfl) ?_
        replace q := nn_s q
        obtain ⟨a_6, e_a_6, q⟩ := q
        refine x_getR hx hb hown hX M e_a_6 okX1 ra0 (by decide) rfl kw_323 dX1_headOf_23 (fun ra_6 => ?_)
        refine lv_iload_n hx hb dX1_headOf_26 rfl (lv_at hl 1 rfl) ?_
        replace q := ck_s q
        obtain ⟨hin, q⟩ := q
        refine x_aald25 hx hb hX M ra_6 (inb_in hin) dX1_headOf_27 (fun rf_7 => ?_)
        refine lv_goto (tgt := 32) hx hb dX1_headOf_28 (by decide) ?_
        cases q
        exact x_aret (v := _) rf_7 hx hb hr (Or.inl ⟨_, rfl⟩) hlk M Ext.rf dX1_headOf_32
set_option maxRecDepth 100000 in
theorem c_X1_headOf {l : Launch} {D : va_G} {cA : Nat → ClassId} {lo tS N : Nat} {S : Hs} {g g1 : Hg} {rv : Option Nat} {a0 : Nat} {x1 : Int32} (ra0 : Rf lo S a0 1) (q : f_X1_headOf N S g a0 x1 = some (rv, g1)) {d : Nat} (hd : 1 ≤ d) : Ctr l yX1_headOf cX1_headOf 2 (some (.object "GlassLog$Head")) D cA lo tS [.ref a0, .int x1] S g d (some (va_rf rv)) S g1 (Ro lo S rv 0) 0 0 := by
  refine x_met (by decide) (Nat.le_of_ble_eq_true rfl) ?_
  intro p e s m below meth c ls hx hb hml hr hlk hown hnm hX M hl
  exact w_X1_headOf_0 hx hb hml hr hlk hown hX hd (Nat.mul_le_mul_left 60 hd) (N := N) _ _ _ _ _ _ M ra0 (lv_sub hl [0, 1] rfl) q
def b_X11_blockLevel_4 (N : Nat) (S : Hs) (k4 : Hg → Int32 → Int32 → Int32 → Int32 → Option (Int32 × Hg)) (g : Hg) (x0 : Int32) (x1 : Int32) (x2 : Int32) (x3 : Int32) : Option (Int32 × Hg) :=
if (9 : Int32) ≤ x3 then (
some (x2, g)) else (
nm ((1 : Int32) <<< (x3 &&& 31)) (fun x_2 =>
if (x0 &&& (x_2 - (1 : Int32))) = 0 then (
if (x0 + x_2) ≤ x1 then (
nm (x3 + 1) (fun x_5 =>
k4 g x0 x1 x3 x_5)) else (
some (x2, g))) else (
some (x2, g))))
def n_X11_blockLevel_4 (N : Nat) (S : Hs) : Nat → Hg → Int32 → Int32 → Int32 → Int32 → Option (Int32 × Hg)
  | 0 => fun _ _ _ _ _ => none
  | n + 1 => fun g x0 x1 x2 x3 => b_X11_blockLevel_4 N S (n_X11_blockLevel_4 N S n) g x0 x1 x2 x3
def b_X11_blockLevel_0 (N : Nat) (S : Hs) (g : Hg) (x0 : Int32) (x1 : Int32) : Option (Int32 × Hg) :=
n_X11_blockLevel_4 N S N g x0 x1 (0 : Int32) (1 : Int32)
def f_X11_blockLevel (N : Nat) (S : Hs) (g : Hg) (x0 : Int32) (x1 : Int32) : Option (Int32 × Hg) := b_X11_blockLevel_0 N S g x0 x1
set_option maxHeartbeats 4000000 in
set_option maxRecDepth 100000 in
theorem w_X11_blockLevel_4 (hx : p.tables.exec = Jvm.exec) (hb : c.code = cX11_blockLevel) (hml : c.maxLocals = 5) (hr : meth.sig.returnType = (some .int)) (hlk : meth.locks = false) (hown : s.vm.findClass RX11 = some m.cls) (hX : Kx D cA lo tS s) (hRf : 1 ≤ R.frames) (hRl : 60 ≤ R.locals) {N : Nat} {rv : Int32} {g1 : Hg} {S : Hs} {k4 : Hg → Int32 → Int32 → Int32 → Int32 → Option (Int32 × Hg)} (hk4 : ∀ (H : Heap) (locs : List Loc) (ls : Array Slot) (g : Hg) (x0 : Int32) (x1 : Int32) (x2 : Int32) (x3 : Int32), Mm D cA lo S g s H locs → lv_has ls 5 [(0, .int x0), (1, .int x1), (2, .int x2), (3, .int x3)] → k4 g x0 x1 x2 x3 = some (rv, g1) → W p l e R s m args below meth c H locs 0 0 (MQ below (Qcx D cA lo S (some (.int rv)) S g1 True) args s 0 0 (fun q : Nat => lo ≤ q)) (F0 m 4 ls [])) : ∀ (H : Heap) (locs : List Loc) (ls : Array Slot) (g : Hg) (x0 : Int32) (x1 : Int32) (x2 : Int32) (x3 : Int32), Mm D cA lo S g s H locs → lv_has ls 5 [(0, .int x0), (1, .int x1), (2, .int x2), (3, .int x3)] → b_X11_blockLevel_4 N S k4 g x0 x1 x2 x3 = some (rv, g1) → W p l e R s m args below meth c H locs 0 0 (MQ below (Qcx D cA lo S (some (.int rv)) S g1 True) args s 0 0 (fun q : Nat => lo ≤ q)) (F0 m 4 ls []) := by
  intro H locs ls g x0 x1 x2 x3 M hl q
  unfold b_X11_blockLevel_4 at q
  refine lv_iload_n hx hb dX11_blockLevel_4 rfl (lv_at hl 3 rfl) ?_
  refine lv_bipush (v := 9) hx hb dX11_blockLevel_5 (by decide) ?_
  refine lv_icmp_ge (tgt := 43) hx hb dX11_blockLevel_7 (by decide) (fun c_1 => ?_) (fun c_1 => ?_)
  · replace q := if_t c_1 q
    refine lv_iload_n hx hb dX11_blockLevel_43 rfl (lv_at hl 2 rfl) ?_
    cases q
    exact x_iret hx hb hr hlk M Ext.rf dX11_blockLevel_44
  · replace q := if_f c_1 q
    refine lv_iconst (v := 1) hx hb dX11_blockLevel_10 (by decide) ?_
    refine lv_iload_n hx hb dX11_blockLevel_11 rfl (lv_at hl 3 rfl) ?_
    refine lv_ishl hx hb dX11_blockLevel_12 ?_
    refine lv_topi (fun x_2 e_x_2 => ?_)
    replace q := nm_s q e_x_2
    refine lv_istore (lv' := [(4, .int x_2), (0, .int x0), (1, .int x1), (2, .int x2), (3, .int x3)]) hx hb dX11_blockLevel_13 hl (by decide) rfl (fun ls hl => ?_)
    refine lv_iload_n hx hb dX11_blockLevel_15 rfl (lv_at hl 1 rfl) ?_
    refine lv_iload hx hb dX11_blockLevel_16 (lv_at hl 0 rfl) ?_
    refine lv_iconst (v := 1) hx hb dX11_blockLevel_18 (by decide) ?_
    refine lv_isub hx hb dX11_blockLevel_19 ?_
    refine lv_iand hx hb dX11_blockLevel_20 ?_
    refine lv_if_ne (tgt := 43) hx hb dX11_blockLevel_21 (by decide) (fun c_3 => ?_) (fun c_3 => ?_)
    · replace q := if_f c_3 q
      refine lv_iload_n hx hb dX11_blockLevel_43 rfl (lv_at hl 3 rfl) ?_
      cases q
      exact x_iret hx hb hr hlk M Ext.rf dX11_blockLevel_44
    · replace q := if_t c_3 q
      refine lv_iload_n hx hb dX11_blockLevel_24 rfl (lv_at hl 1 rfl) ?_
      refine lv_iload hx hb dX11_blockLevel_25 (lv_at hl 0 rfl) ?_
      refine lv_iadd hx hb dX11_blockLevel_27 ?_
      refine lv_iload_n hx hb dX11_blockLevel_28 rfl (lv_at hl 2 rfl) ?_
      refine lv_icmp_le (tgt := 35) hx hb dX11_blockLevel_29 (by decide) (fun c_4 => ?_) (fun c_4 => ?_)
      · replace q := if_t c_4 q
        refine lv_iload_n hx hb dX11_blockLevel_35 rfl (lv_at hl 4 rfl) ?_
        refine lv_istore_n (lv' := [(2, .int x3), (4, .int x_2), (0, .int x0), (1, .int x1), (3, .int x3)]) hx hb dX11_blockLevel_36 rfl hl (by decide) rfl (fun ls hl => ?_)
        obtain ⟨x_5, e_x_5⟩ : ∃ y : Int32, y = x3 + 1 := ⟨_, rfl⟩
        replace q := nm_s q e_x_5
        refine lv_iinc (v := x_5) (lv' := [(3, .int x_5), (2, .int x3), (4, .int x_2), (0, .int x0), (1, .int x1)]) hx hb dX11_blockLevel_37 hl (k := 4) rfl (by rw [e_x_5]; rfl) (by decide) rfl (fun ls hl => ?_)
        refine lv_goto (tgt := 4) hx hb dX11_blockLevel_40 (by decide) ?_
        exact hk4 _ _ _ _ _ _ _ _ M  (lv_sub hl [3, 4, 1, 0] rfl) q
      · replace q := if_f c_4 q
        refine lv_goto (tgt := 43) hx hb dX11_blockLevel_32 (by decide) ?_
        refine lv_iload_n hx hb dX11_blockLevel_43 rfl (lv_at hl 3 rfl) ?_
        cases q
        exact x_iret hx hb hr hlk M Ext.rf dX11_blockLevel_44
set_option maxRecDepth 100000 in
theorem l_X11_blockLevel_4 (hx : p.tables.exec = Jvm.exec) (hb : c.code = cX11_blockLevel) (hml : c.maxLocals = 5) (hr : meth.sig.returnType = (some .int)) (hlk : meth.locks = false) (hown : s.vm.findClass RX11 = some m.cls) (hX : Kx D cA lo tS s) (hRf : 1 ≤ R.frames) (hRl : 60 ≤ R.locals) {N : Nat} {rv : Int32} {g1 : Hg} {S : Hs} : ∀ (n : Nat), ∀ (H : Heap) (locs : List Loc) (ls : Array Slot) (g : Hg) (x0 : Int32) (x1 : Int32) (x2 : Int32) (x3 : Int32), Mm D cA lo S g s H locs → lv_has ls 5 [(0, .int x0), (1, .int x1), (2, .int x2), (3, .int x3)] → n_X11_blockLevel_4 N S n g x0 x1 x2 x3 = some (rv, g1) → W p l e R s m args below meth c H locs 0 0 (MQ below (Qcx D cA lo S (some (.int rv)) S g1 True) args s 0 0 (fun q : Nat => lo ≤ q)) (F0 m 4 ls []) := by
  intro n
  induction n with
  | zero =>
    intro H locs ls g x0 x1 x2 x3 M hl q
    exact absurd q (by simp [n_X11_blockLevel_4])
  | succ n ih => exact w_X11_blockLevel_4 hx hb hml hr hlk hown hX hRf hRl (N := N)  ih
set_option maxHeartbeats 4000000 in
set_option maxRecDepth 100000 in
theorem w_X11_blockLevel_0 (hx : p.tables.exec = Jvm.exec) (hb : c.code = cX11_blockLevel) (hml : c.maxLocals = 5) (hr : meth.sig.returnType = (some .int)) (hlk : meth.locks = false) (hown : s.vm.findClass RX11 = some m.cls) (hX : Kx D cA lo tS s) (hRf : 1 ≤ R.frames) (hRl : 60 ≤ R.locals) {N : Nat} {rv : Int32} {g1 : Hg} {S : Hs} : ∀ (H : Heap) (locs : List Loc) (ls : Array Slot) (g : Hg) (x0 : Int32) (x1 : Int32), Mm D cA lo S g s H locs → lv_has ls 5 [(0, .int x0), (1, .int x1)] → b_X11_blockLevel_0 N S g x0 x1 = some (rv, g1) → W p l e R s m args below meth c H locs 0 0 (MQ below (Qcx D cA lo S (some (.int rv)) S g1 True) args s 0 0 (fun q : Nat => lo ≤ q)) (F0 m 0 ls []) := by
  intro H locs ls g x0 x1 M hl q
  unfold b_X11_blockLevel_0 at q
  refine lv_iconst (v := 0) hx hb dX11_blockLevel_0 (by decide) ?_
  refine lv_istore_n (lv' := [(2, .int (0 : Int32)), (0, .int x0), (1, .int x1)]) hx hb dX11_blockLevel_1 rfl hl (by decide) rfl (fun ls hl => ?_)
  refine lv_iconst (v := 1) hx hb dX11_blockLevel_2 (by decide) ?_
  refine lv_istore_n (lv' := [(3, .int (1 : Int32)), (2, .int (0 : Int32)), (0, .int x0), (1, .int x1)]) hx hb dX11_blockLevel_3 rfl hl (by decide) rfl (fun ls hl => ?_)
  exact l_X11_blockLevel_4 hx hb hml hr hlk hown hX hRf hRl (N := N)  N _ _ _ _ _ _ _ _ M  (lv_sub hl [2, 3, 1, 0] rfl) q
set_option maxRecDepth 100000 in
theorem c_X11_blockLevel {l : Launch} {D : va_G} {cA : Nat → ClassId} {lo tS N : Nat} {S : Hs} {g g1 : Hg} {rv : Int32} {x0 : Int32} {x1 : Int32}  (q : f_X11_blockLevel N S g x0 x1 = some (rv, g1)) {d : Nat} (hd : 1 ≤ d) : Ctr l yX11_blockLevel cX11_blockLevel 5 (some .int) D cA lo tS [.int x0, .int x1] S g d (some (.int rv)) S g1 True 0 0 := by
  refine x_met (by decide) (Nat.le_of_ble_eq_true rfl) ?_
  intro p e s m below meth c ls hx hb hml hr hlk hown hnm hX M hl
  exact w_X11_blockLevel_0 hx hb hml hr hlk hown hX hd (Nat.mul_le_mul_left 60 hd) (N := N) _ _ _ _ _ _ M  (lv_sub hl [0, 1] rfl) q
def b_X9_areOne_0 (N : Nat) (S : Hs) (g : Hg) (a0 : Nat) (x1 : Int32) (x2 : Int32) : Option (Int32 × Hg) :=
nn (rdR g a0 2) (fun a_1 =>
ck (inb x1 (hpL S a_1)) (
nm (rdI g a_1 x1.toNatClampNeg) (fun x_2 =>
nn (rdR g a0 2) (fun a_3 =>
ck (inb x2 (hpL S a_3)) (
if x_2 = (rdI g a_3 x2.toNatClampNeg) then (
nn (rdR g a0 1) (fun a_5 =>
ck (inb x1 (hpL S a_5)) (
if ((rdI g a_5 x1.toNatClampNeg) &&& (((2 : Int32) * x_2) - (1 : Int32))) = 0 then (
some ((1 : Int32), g)) else (
some ((0 : Int32), g))))) else (
some ((0 : Int32), g)))))))
def f_X9_areOne (N : Nat) (S : Hs) (g : Hg) (a0 : Nat) (x1 : Int32) (x2 : Int32) : Option (Int32 × Hg) := b_X9_areOne_0 N S g a0 x1 x2
set_option maxHeartbeats 4000000 in
set_option maxRecDepth 100000 in
theorem w_X9_areOne_0 (hx : p.tables.exec = Jvm.exec) (hb : c.code = cX9_areOne) (hml : c.maxLocals = 4) (hr : meth.sig.returnType = (some .boolean)) (hlk : meth.locks = false) (hown : s.vm.findClass RX9 = some m.cls) (hX : Kx D cA lo tS s) (hRf : 1 ≤ R.frames) (hRl : 60 ≤ R.locals) {N : Nat} {rv : Int32} {g1 : Hg} {S : Hs} : ∀ (H : Heap) (locs : List Loc) (ls : Array Slot) (g : Hg) (a0 : Nat) (x1 : Int32) (x2 : Int32), Mm D cA lo S g s H locs → Rf lo S a0 9 → lv_has ls 4 [(0, .ref a0), (1, .int x1), (2, .int x2)] → b_X9_areOne_0 N S g a0 x1 x2 = some (rv, g1) → W p l e R s m args below meth c H locs 0 0 (MQ below (Qcx D cA lo S (some (.int rv)) S g1 True) args s 0 0 (fun q : Nat => lo ≤ q)) (F0 m 0 ls []) := by
  intro H locs ls g a0 x1 x2 M ra0 hl q
  unfold b_X9_areOne_0 at q
  refine lv_aload_n hx hb dX9_areOne_0 rfl (lv_at hl 0 rfl) ?_
  replace q := nn_s q
  obtain ⟨a_1, e_a_1, q⟩ := q
  refine x_getR hx hb hown hX M e_a_1 okX9 ra0 (by decide) rfl kw_131 dX9_areOne_1 (fun ra_1 => ?_)
  refine lv_iload_n hx hb dX9_areOne_4 rfl (lv_at hl 1 rfl) ?_
  replace q := ck_s q
  obtain ⟨hin, q⟩ := q
  refine x_iald hx hb hX M ra_1 (inb_in hin) dX9_areOne_5 ?_
  refine lv_topi (fun x_2 e_x_2 => ?_)
  replace q := nm_s q e_x_2
  refine lv_istore_n (lv' := [(3, .int x_2), (0, .ref a0), (1, .int x1), (2, .int x2)]) hx hb dX9_areOne_6 rfl hl (by decide) rfl (fun ls hl => ?_)
  refine lv_iload_n hx hb dX9_areOne_7 rfl (lv_at hl 0 rfl) ?_
  refine lv_aload_n hx hb dX9_areOne_8 rfl (lv_at hl 1 rfl) ?_
  replace q := nn_s q
  obtain ⟨a_3, e_a_3, q⟩ := q
  refine x_getR hx hb hown hX M e_a_3 okX9 ra0 (by decide) rfl kw_131 dX9_areOne_9 (fun ra_3 => ?_)
  refine lv_iload_n hx hb dX9_areOne_12 rfl (lv_at hl 3 rfl) ?_
  replace q := ck_s q
  obtain ⟨hin, q⟩ := q
  refine x_iald hx hb hX M ra_3 (inb_in hin) dX9_areOne_13 ?_
  refine lv_icmp_ne (tgt := 36) hx hb dX9_areOne_14 (by decide) (fun c_4 => ?_) (fun c_4 => ?_)
  · replace q := if_f c_4 q
    refine lv_iconst (v := 0) hx hb dX9_areOne_36 (by decide) ?_
    cases q
    exact x_zret hx hb hr hlk rfl M Ext.rf dX9_areOne_37
  · replace q := if_t c_4 q
    refine lv_aload_n hx hb dX9_areOne_17 rfl (lv_at hl 1 rfl) ?_
    replace q := nn_s q
    obtain ⟨a_5, e_a_5, q⟩ := q
    refine x_getR hx hb hown hX M e_a_5 okX9 ra0 (by decide) rfl kw_130 dX9_areOne_18 (fun ra_5 => ?_)
    refine lv_iload_n hx hb dX9_areOne_21 rfl (lv_at hl 2 rfl) ?_
    replace q := ck_s q
    obtain ⟨hin, q⟩ := q
    refine x_iald hx hb hX M ra_5 (inb_in hin) dX9_areOne_22 ?_
    refine lv_iconst (v := 2) hx hb dX9_areOne_23 (by decide) ?_
    refine lv_iload_n hx hb dX9_areOne_24 rfl (lv_at hl 0 rfl) ?_
    refine lv_imul hx hb dX9_areOne_25 ?_
    refine lv_iconst (v := 1) hx hb dX9_areOne_26 (by decide) ?_
    refine lv_isub hx hb dX9_areOne_27 ?_
    refine lv_iand hx hb dX9_areOne_28 ?_
    refine lv_if_ne (tgt := 36) hx hb dX9_areOne_29 (by decide) (fun c_6 => ?_) (fun c_6 => ?_)
    · replace q := if_f c_6 q
      refine lv_iconst (v := 0) hx hb dX9_areOne_36 (by decide) ?_
      cases q
      exact x_zret hx hb hr hlk rfl M Ext.rf dX9_areOne_37
    · replace q := if_t c_6 q
      refine lv_iconst (v := 1) hx hb dX9_areOne_32 (by decide) ?_
      refine lv_goto (tgt := 37) hx hb dX9_areOne_33 (by decide) ?_
      cases q
      exact x_zret hx hb hr hlk rfl M Ext.rf dX9_areOne_37
set_option maxRecDepth 100000 in
theorem c_X9_areOne {l : Launch} {D : va_G} {cA : Nat → ClassId} {lo tS N : Nat} {S : Hs} {g g1 : Hg} {rv : Int32} {a0 : Nat} {x1 : Int32} {x2 : Int32} (ra0 : Rf lo S a0 9) (q : f_X9_areOne N S g a0 x1 x2 = some (rv, g1)) {d : Nat} (hd : 1 ≤ d) : Ctr l yX9_areOne cX9_areOne 4 (some .boolean) D cA lo tS [.ref a0, .int x1, .int x2] S g d (some (.int rv)) S g1 True 0 0 := by
  refine x_met (by decide) (Nat.le_of_ble_eq_true rfl) ?_
  intro p e s m below meth c ls hx hb hml hr hlk hown hnm hX M hl
  exact w_X9_areOne_0 hx hb hml hr hlk hown hX hd (Nat.mul_le_mul_left 60 hd) (N := N) _ _ _ _ _ _ _ M ra0 (lv_sub hl [0, 1, 2] rfl) q
def b_X9_put_62 (N : Nat) (S : Hs) (k62 : Hg → Nat → Int32 → Option (Unit × Hg)) (g : Hg) (a0 : Nat) (x5 : Int32) : Option (Unit × Hg) :=
if x5 ≤ 0 then (
some ((), g)) else (
c2 (f_X9_areOne N S g a0 (x5 - (1 : Int32)) x5) (fun x_3 g_2 =>
if x_3 = 0 then (
some ((), g_2)) else (
nn (rdR g_2 a0 0) (fun a_5 =>
nn (rdR g_2 a0 3) (fun a_6 =>
nn (rdR g_2 a0 3) (fun a_7 =>
nn (rdR g_2 a0 3) (fun a_8 =>
c2 (f_X6_join N S g_2 a_5 a_6 (x5 - (1 : Int32)) a_7 x5 a_8 (x5 - (1 : Int32))) (fun u_10 g_9 =>
nn (rdR g_9 a0 2) (fun a_11 =>
ck (inb (x5 - (1 : Int32)) (hpL S a_11)) (
ck (inb (x5 - (1 : Int32)) (hpL S a_11)) (
nm (wrI g_9 a_11 (x5 - (1 : Int32)).toNatClampNeg ((rdI g_9 a_11 (x5 - (1 : Int32)).toNatClampNeg) * (2 : Int32))) (fun g_12 =>
nm (wrI g_12 a0 4 x5) (fun g_13 =>
nm (x5 + (-1)) (fun x_14 =>
k62 g_13 a0 x_14))))))))))))))
def n_X9_put_62 (N : Nat) (S : Hs) : Nat → Hg → Nat → Int32 → Option (Unit × Hg)
  | 0 => fun _ _ _ => none
  | n + 1 => fun g a0 x5 => b_X9_put_62 N S (n_X9_put_62 N S n) g a0 x5
def b_X9_put_0 (N : Nat) (S : Hs) (g : Hg) (a0 : Nat) (x1 : Int32) (x2 : Int32) (a3 : Nat) (x4 : Int32) : Option (Unit × Hg) :=
if (rdI g a0 4) < (12 : Int32) then (
nn (rdR g a0 1) (fun a_2 =>
ck (inb (rdI g a0 4) (hpL S a_2)) (
nm (wrI g a_2 (rdI g a0 4).toNatClampNeg x1) (fun g_3 =>
nn (rdR g_3 a0 2) (fun a_4 =>
ck (inb (rdI g_3 a0 4) (hpL S a_4)) (
nm (wrI g_3 a_4 (rdI g_3 a0 4).toNatClampNeg x2) (fun g_5 =>
nn (rdR g_5 a0 3) (fun a_6 =>
c2 (f_X11_copySum N S g_5 a3 x4 a_6 (rdI g_5 a0 4)) (fun u_8 g_7 =>
nm (wrI g_7 a0 4 ((rdI g_7 a0 4) + (1 : Int32))) (fun g_9 =>
nm ((rdI g_9 a0 4) - (1 : Int32)) (fun x_10 =>
n_X9_put_62 N S N g_9 a0 x_10))))))))))) else (
some ((), g))
def f_X9_put (N : Nat) (S : Hs) (g : Hg) (a0 : Nat) (x1 : Int32) (x2 : Int32) (a3 : Nat) (x4 : Int32) : Option (Unit × Hg) := b_X9_put_0 N S g a0 x1 x2 a3 x4
set_option maxHeartbeats 4000000 in
set_option maxRecDepth 100000 in
theorem w_X9_put_62 (hx : p.tables.exec = Jvm.exec) (hb : c.code = cX9_put) (hml : c.maxLocals = 6) (hr : meth.sig.returnType = none) (hlk : meth.locks = false) (hown : s.vm.findClass RX9 = some m.cls) (hX : Kx D cA lo tS s) (hRf : 4 ≤ R.frames) (hRl : 240 ≤ R.locals) {N : Nat} {rv : Unit} {g1 : Hg} {S : Hs} {k62 : Hg → Nat → Int32 → Option (Unit × Hg)} (hk62 : ∀ (H : Heap) (locs : List Loc) (ls : Array Slot) (g : Hg) (a0 : Nat) (x5 : Int32), Mm D cA lo S g s H locs → Rf lo S a0 9 → lv_has ls 6 [(0, .ref a0), (5, .int x5)] → k62 g a0 x5 = some (rv, g1) → W p l e R s m args below meth c H locs 0 0 (MQ below (Qcx D cA lo S none S g1 True) args s 0 0 (fun q : Nat => lo ≤ q)) (F0 m 62 ls [])) : ∀ (H : Heap) (locs : List Loc) (ls : Array Slot) (g : Hg) (a0 : Nat) (x5 : Int32), Mm D cA lo S g s H locs → Rf lo S a0 9 → lv_has ls 6 [(0, .ref a0), (5, .int x5)] → b_X9_put_62 N S k62 g a0 x5 = some (rv, g1) → W p l e R s m args below meth c H locs 0 0 (MQ below (Qcx D cA lo S none S g1 True) args s 0 0 (fun q : Nat => lo ≤ q)) (F0 m 62 ls []) := by
  intro H locs ls g a0 x5 M ra0 hl q
  unfold b_X9_put_62 at q
  refine lv_iload hx hb dX9_put_62 (lv_at hl 1 rfl) ?_
  refine lv_if_le (tgt := 134) hx hb dX9_put_64 (by decide) (fun c_1 => ?_) (fun c_1 => ?_)
  · replace q := if_t c_1 q
    cases q
    exact x_vret hx hb hr hlk M Ext.rf dX9_put_134
  · replace q := if_f c_1 q
    refine lv_aload_n hx hb dX9_put_67 rfl (lv_at hl 0 rfl) ?_
    refine lv_iload hx hb dX9_put_68 (lv_at hl 1 rfl) ?_
    refine lv_iconst (v := 1) hx hb dX9_put_70 (by decide) ?_
    refine lv_isub hx hb dX9_put_71 ?_
    refine lv_iload hx hb dX9_put_72 (lv_at hl 1 rfl) ?_
    replace q := c2_s q
    obtain ⟨x_3, g_2, qc, q⟩ := q
    refine x_callV hx hb hml hl.1 hown hX M (S1 := S) (As := [.int (x5 - (1 : Int32)), .int x5]) (rest := []) okX9 ra0 rfl kw_674 kw_6 mok_X9_areOne (c_X9_areOne ra0 qc (Nat.le_refl 1)) kw_672 rfl rfl dX9_put_74 (Nat.le_of_ble_eq_true rfl) ⟨Nat.le_trans (by decide) hRf, Nat.le_trans (by decide) hRl⟩ (Nat.zero_le _) (Nat.zero_le _) (fun H locs M hEF => ?_)
    refine lv_if_eq (tgt := 134) hx hb dX9_put_77 (by decide) (fun c_4 => ?_) (fun c_4 => ?_)
    · replace q := if_t c_4 q
      cases q
      exact x_vret hx hb hr hlk M Ext.rf dX9_put_134
    · replace q := if_f c_4 q
      refine lv_aload_n hx hb dX9_put_80 rfl (lv_at hl 0 rfl) ?_
      replace q := nn_s q
      obtain ⟨a_5, e_a_5, q⟩ := q
      refine x_getR hx hb hown hX M e_a_5 okX9 ra0 (by decide) rfl kw_129 dX9_put_81 (fun ra_5 => ?_)
      refine lv_aload_n hx hb dX9_put_84 rfl (lv_at hl 0 rfl) ?_
      replace q := nn_s q
      obtain ⟨a_6, e_a_6, q⟩ := q
      refine x_getR hx hb hown hX M e_a_6 okX9 ra0 (by decide) rfl kw_132 dX9_put_85 (fun ra_6 => ?_)
      refine lv_iload hx hb dX9_put_88 (lv_at hl 1 rfl) ?_
      refine lv_iconst (v := 1) hx hb dX9_put_90 (by decide) ?_
      refine lv_isub hx hb dX9_put_91 ?_
      refine lv_aload_n hx hb dX9_put_92 rfl (lv_at hl 0 rfl) ?_
      replace q := nn_s q
      obtain ⟨a_7, e_a_7, q⟩ := q
      refine x_getR hx hb hown hX M e_a_7 okX9 ra0 (by decide) rfl kw_132 dX9_put_93 (fun ra_7 => ?_)
      refine lv_iload hx hb dX9_put_96 (lv_at hl 1 rfl) ?_
      refine lv_aload_n hx hb dX9_put_98 rfl (lv_at hl 0 rfl) ?_
      replace q := nn_s q
      obtain ⟨a_8, e_a_8, q⟩ := q
      refine x_getR hx hb hown hX M e_a_8 okX9 ra0 (by decide) rfl kw_132 dX9_put_99 (fun ra_8 => ?_)
      refine lv_iload hx hb dX9_put_102 (lv_at hl 1 rfl) ?_
      refine lv_iconst (v := 1) hx hb dX9_put_104 (by decide) ?_
      refine lv_isub hx hb dX9_put_105 ?_
      replace q := c2_s q
      obtain ⟨u_10, g_9, qc, q⟩ := q
      refine x_callV hx hb hml hl.1 hown hX M (S1 := S) (As := [.ref a_6, .int (x5 - (1 : Int32)), .ref a_7, .int x5, .ref a_8, .int (x5 - (1 : Int32))]) (rest := []) okX6 ra_5 rfl kw_542 kw_543 mok_X6_join (c_X6_join ra_5 ra_6 ra_7 ra_8 qc (Nat.le_refl 3)) kw_676 rfl rfl dX9_put_106 (Nat.le_of_ble_eq_true rfl) ⟨Nat.le_trans (by decide) hRf, Nat.le_trans (by decide) hRl⟩ (Nat.zero_le _) (Nat.zero_le _) (fun H locs M hEF => ?_)
      refine lv_aload_n hx hb dX9_put_109 rfl (lv_at hl 0 rfl) ?_
      replace q := nn_s q
      obtain ⟨a_11, e_a_11, q⟩ := q
      refine x_getR hx hb hown hX M e_a_11 okX9 ra0 (by decide) rfl kw_131 dX9_put_110 (fun ra_11 => ?_)
      refine lv_iload hx hb dX9_put_113 (lv_at hl 1 rfl) ?_
      refine lv_iconst (v := 1) hx hb dX9_put_115 (by decide) ?_
      refine lv_isub hx hb dX9_put_116 ?_
      refine lv_dup2_11 hx hb dX9_put_117 rfl rfl ?_
      replace q := ck_s q
      obtain ⟨hin, q⟩ := q
      refine x_iald hx hb hX M ra_11 (inb_in hin) dX9_put_118 ?_
      refine lv_iconst (v := 2) hx hb dX9_put_119 (by decide) ?_
      refine lv_imul hx hb dX9_put_120 ?_
      replace q := ck_s q
      obtain ⟨hin, q⟩ := q
      refine x_iast hx hb hX M ra_11 (inb_in hin) dX9_put_121 (fun H locs M => ?_)
      replace q := gen_g M q
      obtain ⟨g_12, -, M, q⟩ := q
      refine lv_aload_n hx hb dX9_put_122 rfl (lv_at hl 0 rfl) ?_
      refine lv_iload hx hb dX9_put_123 (lv_at hl 1 rfl) ?_
      refine x_putI hx hb hown hX M (k := 4) okX9 ra0 (by decide) rfl (Or.inl rfl) rfl rfl kw_133 dX9_put_125 (fun H locs M => ?_)
      replace q := gen_g M q
      obtain ⟨g_13, -, M, q⟩ := q
      obtain ⟨x_14, e_x_14⟩ : ∃ y : Int32, y = x5 + (-1) := ⟨_, rfl⟩
      replace q := nm_s q e_x_14
      refine lv_iinc (v := x_14) (lv' := [(5, .int x_14), (0, .ref a0)]) hx hb dX9_put_128 hl (k := 1) rfl (by rw [e_x_14]; rfl) (by decide) rfl (fun ls hl => ?_)
      refine lv_goto (tgt := 62) hx hb dX9_put_131 (by decide) ?_
      exact hk62 _ _ _ _ _ _ M ra0 (lv_sub hl [1, 0] rfl) q
set_option maxRecDepth 100000 in
theorem l_X9_put_62 (hx : p.tables.exec = Jvm.exec) (hb : c.code = cX9_put) (hml : c.maxLocals = 6) (hr : meth.sig.returnType = none) (hlk : meth.locks = false) (hown : s.vm.findClass RX9 = some m.cls) (hX : Kx D cA lo tS s) (hRf : 4 ≤ R.frames) (hRl : 240 ≤ R.locals) {N : Nat} {rv : Unit} {g1 : Hg} {S : Hs} : ∀ (n : Nat), ∀ (H : Heap) (locs : List Loc) (ls : Array Slot) (g : Hg) (a0 : Nat) (x5 : Int32), Mm D cA lo S g s H locs → Rf lo S a0 9 → lv_has ls 6 [(0, .ref a0), (5, .int x5)] → n_X9_put_62 N S n g a0 x5 = some (rv, g1) → W p l e R s m args below meth c H locs 0 0 (MQ below (Qcx D cA lo S none S g1 True) args s 0 0 (fun q : Nat => lo ≤ q)) (F0 m 62 ls []) := by
  intro n
  induction n with
  | zero =>
    intro H locs ls g a0 x5 M ra0 hl q
    exact absurd q (by simp [n_X9_put_62])
  | succ n ih => exact w_X9_put_62 hx hb hml hr hlk hown hX hRf hRl (N := N)  ih
set_option maxHeartbeats 4000000 in
set_option maxRecDepth 100000 in
theorem w_X9_put_0 (hx : p.tables.exec = Jvm.exec) (hb : c.code = cX9_put) (hml : c.maxLocals = 6) (hr : meth.sig.returnType = none) (hlk : meth.locks = false) (hown : s.vm.findClass RX9 = some m.cls) (hX : Kx D cA lo tS s) (hRf : 4 ≤ R.frames) (hRl : 240 ≤ R.locals) {N : Nat} {rv : Unit} {g1 : Hg} {S : Hs} : ∀ (H : Heap) (locs : List Loc) (ls : Array Slot) (g : Hg) (a0 : Nat) (x1 : Int32) (x2 : Int32) (a3 : Nat) (x4 : Int32), Mm D cA lo S g s H locs → Rf lo S a0 9 → Rf lo S a3 20 → lv_has ls 6 [(0, .ref a0), (1, .int x1), (2, .int x2), (3, .ref a3), (4, .int x4)] → b_X9_put_0 N S g a0 x1 x2 a3 x4 = some (rv, g1) → W p l e R s m args below meth c H locs 0 0 (MQ below (Qcx D cA lo S none S g1 True) args s 0 0 (fun q : Nat => lo ≤ q)) (F0 m 0 ls []) := by
  intro H locs ls g a0 x1 x2 a3 x4 M ra0 ra3 hl q
  unfold b_X9_put_0 at q
  refine lv_aload_n hx hb dX9_put_0 rfl (lv_at hl 0 rfl) ?_
  refine x_getI hx hb hown hX M (k := 4) okX9 ra0 (by decide) rfl kw_133 dX9_put_1 ?_
  refine lv_bipush (v := 12) hx hb dX9_put_4 (by decide) ?_
  refine lv_icmp_lt (tgt := 10) hx hb dX9_put_6 (by decide) (fun c_1 => ?_) (fun c_1 => ?_)
  · replace q := if_t c_1 q
    refine lv_aload_n hx hb dX9_put_10 rfl (lv_at hl 0 rfl) ?_
    replace q := nn_s q
    obtain ⟨a_2, e_a_2, q⟩ := q
    refine x_getR hx hb hown hX M e_a_2 okX9 ra0 (by decide) rfl kw_130 dX9_put_11 (fun ra_2 => ?_)
    refine lv_aload_n hx hb dX9_put_14 rfl (lv_at hl 0 rfl) ?_
    refine x_getI hx hb hown hX M (k := 4) okX9 ra0 (by decide) rfl kw_133 dX9_put_15 ?_
    refine lv_iload_n hx hb dX9_put_18 rfl (lv_at hl 1 rfl) ?_
    replace q := ck_s q
    obtain ⟨hin, q⟩ := q
    refine x_iast hx hb hX M ra_2 (inb_in hin) dX9_put_19 (fun H locs M => ?_)
    replace q := gen_g M q
    obtain ⟨g_3, -, M, q⟩ := q
    refine lv_aload_n hx hb dX9_put_20 rfl (lv_at hl 0 rfl) ?_
    replace q := nn_s q
    obtain ⟨a_4, e_a_4, q⟩ := q
    refine x_getR hx hb hown hX M e_a_4 okX9 ra0 (by decide) rfl kw_131 dX9_put_21 (fun ra_4 => ?_)
    refine lv_aload_n hx hb dX9_put_24 rfl (lv_at hl 0 rfl) ?_
    refine x_getI hx hb hown hX M (k := 4) okX9 ra0 (by decide) rfl kw_133 dX9_put_25 ?_
    refine lv_iload_n hx hb dX9_put_28 rfl (lv_at hl 2 rfl) ?_
    replace q := ck_s q
    obtain ⟨hin, q⟩ := q
    refine x_iast hx hb hX M ra_4 (inb_in hin) dX9_put_29 (fun H locs M => ?_)
    replace q := gen_g M q
    obtain ⟨g_5, -, M, q⟩ := q
    refine lv_aload_n hx hb dX9_put_30 rfl (lv_at hl 3 rfl) ?_
    refine lv_iload hx hb dX9_put_31 (lv_at hl 4 rfl) ?_
    refine lv_aload_n hx hb dX9_put_33 rfl (lv_at hl 0 rfl) ?_
    replace q := nn_s q
    obtain ⟨a_6, e_a_6, q⟩ := q
    refine x_getR hx hb hown hX M e_a_6 okX9 ra0 (by decide) rfl kw_132 dX9_put_34 (fun ra_6 => ?_)
    refine lv_aload_n hx hb dX9_put_37 rfl (lv_at hl 0 rfl) ?_
    refine x_getI hx hb hown hX M (k := 4) okX9 ra0 (by decide) rfl kw_133 dX9_put_38 ?_
    replace q := c2_s q
    obtain ⟨u_8, g_7, qc, q⟩ := q
    refine x_callSN hx hb hml hl.1 hown hX M (S1 := S) (As := [.ref a3, .int x4, .ref a_6, .int (rdI g_5 a0 4)]) (rest := []) kw_669 mok_X11_copySum (c_X11_copySum ra3 ra_6 qc (Nat.le_refl 1)) kw_668 rfl rfl dX9_put_41 (Nat.le_of_ble_eq_true rfl) ⟨Nat.le_trans (by decide) hRf, Nat.le_trans (by decide) hRl⟩ (Nat.zero_le _) (Nat.zero_le _) (fun H locs M hEF => ?_)
    refine lv_aload_n hx hb dX9_put_44 rfl (lv_at hl 0 rfl) ?_
    refine lv_dup hx hb dX9_put_45 rfl ?_
    refine x_getI hx hb hown hX M (k := 4) okX9 ra0 (by decide) rfl kw_133 dX9_put_46 ?_
    refine lv_iconst (v := 1) hx hb dX9_put_49 (by decide) ?_
    refine lv_iadd hx hb dX9_put_50 ?_
    refine x_putI hx hb hown hX M (k := 4) okX9 ra0 (by decide) rfl (Or.inl rfl) rfl rfl kw_133 dX9_put_51 (fun H locs M => ?_)
    replace q := gen_g M q
    obtain ⟨g_9, -, M, q⟩ := q
    refine lv_aload_n hx hb dX9_put_54 rfl (lv_at hl 0 rfl) ?_
    refine x_getI hx hb hown hX M (k := 4) okX9 ra0 (by decide) rfl kw_133 dX9_put_55 ?_
    refine lv_iconst (v := 1) hx hb dX9_put_58 (by decide) ?_
    refine lv_isub hx hb dX9_put_59 ?_
    refine lv_topi (fun x_10 e_x_10 => ?_)
    replace q := nm_s q e_x_10
    refine lv_istore (lv' := [(5, .int x_10), (0, .ref a0), (1, .int x1), (2, .int x2), (3, .ref a3), (4, .int x4)]) hx hb dX9_put_60 hl (by decide) rfl (fun ls hl => ?_)
    exact l_X9_put_62 hx hb hml hr hlk hown hX hRf hRl (N := N)  N _ _ _ _ _ _ M ra0 (lv_sub hl [1, 0] rfl) q
  · replace q := if_f c_1 q
    cases q
    exact x_vret hx hb hr hlk M Ext.rf dX9_put_9
set_option maxRecDepth 100000 in
theorem c_X9_put {l : Launch} {D : va_G} {cA : Nat → ClassId} {lo tS N : Nat} {S : Hs} {g g1 : Hg} {rv : Unit} {a0 : Nat} {x1 : Int32} {x2 : Int32} {a3 : Nat} {x4 : Int32} (ra0 : Rf lo S a0 9) (ra3 : Rf lo S a3 20) (q : f_X9_put N S g a0 x1 x2 a3 x4 = some (rv, g1)) {d : Nat} (hd : 4 ≤ d) : Ctr l yX9_put cX9_put 6 none D cA lo tS [.ref a0, .int x1, .int x2, .ref a3, .int x4] S g d none S g1 True 0 0 := by
  refine x_met (by decide) (Nat.le_of_ble_eq_true rfl) ?_
  intro p e s m below meth c ls hx hb hml hr hlk hown hnm hX M hl
  exact w_X9_put_0 hx hb hml hr hlk hown hX hd (Nat.mul_le_mul_left 60 hd) (N := N) _ _ _ _ _ _ _ _ _ M ra0 ra3 (lv_sub hl [0, 1, 2, 3, 4] rfl) q
def b_X8_climb_9 (N : Nat) (S : Hs) (k9 : Hg → Nat → Nat → Int32 → Int32 → Int32 → Option (Int32 × Hg)) (g : Hg) (a0 : Nat) (a1 : Nat) (x4 : Int32) (x5 : Int32) (x7 : Int32) : Option (Int32 × Hg) :=
if x4 ≤ x7 then (
some (x5, g)) else (
if (rdI g a1 4) ≤ x5 then (
some (x5, g)) else (
c2 (f_X11_blockLevel N S g x7 x4) (fun x_4 g_3 =>
nn (rdR g_3 a0 2) (fun a_5 =>
nn (rdR g_3 a1 2) (fun a_6 =>
c2 (f_X9_put N S g_3 a_5 x7 ((1 : Int32) <<< (x_4 &&& 31)) a_6 x5) (fun u_8 g_7 =>
nm (x5 + 1) (fun x_9 =>
nm (x7 + ((1 : Int32) <<< (x_4 &&& 31))) (fun x_10 =>
k9 g_7 a0 a1 x4 x_9 x_10))))))))
def n_X8_climb_9 (N : Nat) (S : Hs) : Nat → Hg → Nat → Nat → Int32 → Int32 → Int32 → Option (Int32 × Hg)
  | 0 => fun _ _ _ _ _ _ => none
  | n + 1 => fun g a0 a1 x4 x5 x7 => b_X8_climb_9 N S (n_X8_climb_9 N S n) g a0 a1 x4 x5 x7
def b_X8_climb_0 (N : Nat) (S : Hs) (g : Hg) (a0 : Nat) (a1 : Nat) (x2 : Int32) (x3 : Int32) (x4 : Int32) : Option (Int32 × Hg) :=
n_X8_climb_9 N S N g a0 a1 x4 x2 x3
def f_X8_climb (N : Nat) (S : Hs) (g : Hg) (a0 : Nat) (a1 : Nat) (x2 : Int32) (x3 : Int32) (x4 : Int32) : Option (Int32 × Hg) := b_X8_climb_0 N S g a0 a1 x2 x3 x4
set_option maxHeartbeats 4000000 in
set_option maxRecDepth 100000 in
theorem w_X8_climb_9 (hx : p.tables.exec = Jvm.exec) (hb : c.code = cX8_climb) (hml : c.maxLocals = 8) (hr : meth.sig.returnType = (some .int)) (hlk : meth.locks = false) (hown : s.vm.findClass RX8 = some m.cls) (hX : Kx D cA lo tS s) (hRf : 5 ≤ R.frames) (hRl : 300 ≤ R.locals) {N : Nat} {rv : Int32} {g1 : Hg} {S : Hs} {k9 : Hg → Nat → Nat → Int32 → Int32 → Int32 → Option (Int32 × Hg)} (hk9 : ∀ (H : Heap) (locs : List Loc) (ls : Array Slot) (g : Hg) (a0 : Nat) (a1 : Nat) (x4 : Int32) (x5 : Int32) (x7 : Int32), Mm D cA lo S g s H locs → Rf lo S a0 8 → Rf lo S a1 7 → lv_has ls 8 [(0, .ref a0), (1, .ref a1), (4, .int x4), (5, .int x5), (7, .int x7)] → k9 g a0 a1 x4 x5 x7 = some (rv, g1) → W p l e R s m args below meth c H locs 0 0 (MQ below (Qcx D cA lo S (some (.int rv)) S g1 True) args s 0 0 (fun q : Nat => lo ≤ q)) (F0 m 9 ls [])) : ∀ (H : Heap) (locs : List Loc) (ls : Array Slot) (g : Hg) (a0 : Nat) (a1 : Nat) (x4 : Int32) (x5 : Int32) (x7 : Int32), Mm D cA lo S g s H locs → Rf lo S a0 8 → Rf lo S a1 7 → lv_has ls 8 [(0, .ref a0), (1, .ref a1), (4, .int x4), (5, .int x5), (7, .int x7)] → b_X8_climb_9 N S k9 g a0 a1 x4 x5 x7 = some (rv, g1) → W p l e R s m args below meth c H locs 0 0 (MQ below (Qcx D cA lo S (some (.int rv)) S g1 True) args s 0 0 (fun q : Nat => lo ≤ q)) (F0 m 9 ls []) := by
  intro H locs ls g a0 a1 x4 x5 x7 M ra0 ra1 hl q
  unfold b_X8_climb_9 at q
  refine lv_iload hx hb dX8_climb_9 (lv_at hl 4 rfl) ?_
  refine lv_iload hx hb dX8_climb_11 (lv_at hl 2 rfl) ?_
  refine lv_icmp_ge (tgt := 68) hx hb dX8_climb_13 (by decide) (fun c_1 => ?_) (fun c_1 => ?_)
  · replace q := if_t c_1 q
    refine lv_iload hx hb dX8_climb_68 (lv_at hl 3 rfl) ?_
    cases q
    exact x_iret hx hb hr hlk M Ext.rf dX8_climb_70
  · replace q := if_f c_1 q
    refine lv_iload hx hb dX8_climb_16 (lv_at hl 3 rfl) ?_
    refine lv_aload_n hx hb dX8_climb_18 rfl (lv_at hl 1 rfl) ?_
    refine x_getI hx hb hown hX M (k := 4) okX7 ra1 (by decide) rfl kw_193 dX8_climb_19 ?_
    refine lv_icmp_ge (tgt := 68) hx hb dX8_climb_22 (by decide) (fun c_2 => ?_) (fun c_2 => ?_)
    · replace q := if_t c_2 q
      refine lv_iload hx hb dX8_climb_68 (lv_at hl 3 rfl) ?_
      cases q
      exact x_iret hx hb hr hlk M Ext.rf dX8_climb_70
    · replace q := if_f c_2 q
      refine lv_iload hx hb dX8_climb_25 (lv_at hl 4 rfl) ?_
      refine lv_iload hx hb dX8_climb_27 (lv_at hl 2 rfl) ?_
      replace q := c2_s q
      obtain ⟨x_4, g_3, qc, q⟩ := q
      refine x_callSN hx hb hml hl.1 hown hX M (S1 := S) (As := [.int x7, .int x4]) (rest := []) kw_662 mok_X11_blockLevel (c_X11_blockLevel  qc (Nat.le_refl 1)) kw_856 rfl rfl dX8_climb_29 (Nat.le_of_ble_eq_true rfl) ⟨Nat.le_trans (by decide) hRf, Nat.le_trans (by decide) hRl⟩ (Nat.zero_le _) (Nat.zero_le _) (fun H locs M hEF => ?_)
      refine lv_istore (lv' := [(6, .int x_4), (0, .ref a0), (1, .ref a1), (4, .int x4), (5, .int x5), (7, .int x7)]) hx hb dX8_climb_32 hl (by decide) rfl (fun ls hl => ?_)
      refine lv_aload_n hx hb dX8_climb_34 rfl (lv_at hl 1 rfl) ?_
      replace q := nn_s q
      obtain ⟨a_5, e_a_5, q⟩ := q
      refine x_getR hx hb hown hX M e_a_5 okX8 ra0 (by decide) rfl kw_147 dX8_climb_35 (fun ra_5 => ?_)
      refine lv_iload hx hb dX8_climb_38 (lv_at hl 5 rfl) ?_
      refine lv_iconst (v := 1) hx hb dX8_climb_40 (by decide) ?_
      refine lv_iload hx hb dX8_climb_41 (lv_at hl 0 rfl) ?_
      refine lv_ishl hx hb dX8_climb_43 ?_
      refine lv_aload_n hx hb dX8_climb_44 rfl (lv_at hl 2 rfl) ?_
      replace q := nn_s q
      obtain ⟨a_6, e_a_6, q⟩ := q
      refine x_getR hx hb hown hX M e_a_6 okX7 ra1 (by decide) rfl kw_187 dX8_climb_45 (fun ra_6 => ?_)
      refine lv_iload hx hb dX8_climb_48 (lv_at hl 4 rfl) ?_
      replace q := c2_s q
      obtain ⟨u_8, g_7, qc, q⟩ := q
      refine x_callV hx hb hml hl.1 hown hX M (S1 := S) (As := [.int x7, .int ((1 : Int32) <<< (x_4 &&& 31)), .ref a_6, .int x5]) (rest := []) okX9 ra_5 rfl kw_665 kw_666 mok_X9_put (c_X9_put ra_5 ra_6 qc (Nat.le_refl 4)) kw_857 rfl rfl dX8_climb_50 (Nat.le_of_ble_eq_true rfl) ⟨Nat.le_trans (by decide) hRf, Nat.le_trans (by decide) hRl⟩ (Nat.zero_le _) (Nat.zero_le _) (fun H locs M hEF => ?_)
      obtain ⟨x_9, e_x_9⟩ : ∃ y : Int32, y = x5 + 1 := ⟨_, rfl⟩
      replace q := nm_s q e_x_9
      refine lv_iinc (v := x_9) (lv' := [(5, .int x_9), (6, .int x_4), (0, .ref a0), (1, .ref a1), (4, .int x4), (7, .int x7)]) hx hb dX8_climb_53 hl (k := 4) rfl (by rw [e_x_9]; rfl) (by decide) rfl (fun ls hl => ?_)
      refine lv_iload hx hb dX8_climb_56 (lv_at hl 5 rfl) ?_
      refine lv_iconst (v := 1) hx hb dX8_climb_58 (by decide) ?_
      refine lv_iload hx hb dX8_climb_59 (lv_at hl 1 rfl) ?_
      refine lv_ishl hx hb dX8_climb_61 ?_
      refine lv_iadd hx hb dX8_climb_62 ?_
      refine lv_topi (fun x_10 e_x_10 => ?_)
      replace q := nm_s q e_x_10
      refine lv_istore (lv' := [(7, .int x_10), (5, .int x_9), (6, .int x_4), (0, .ref a0), (1, .ref a1), (4, .int x4)]) hx hb dX8_climb_63 hl (by decide) rfl (fun ls hl => ?_)
      refine lv_goto (tgt := 9) hx hb dX8_climb_65 (by decide) ?_
      exact hk9 _ _ _ _ _ _ _ _ _ M ra0 ra1 (lv_sub hl [3, 4, 5, 1, 0] rfl) q
set_option maxRecDepth 100000 in
theorem l_X8_climb_9 (hx : p.tables.exec = Jvm.exec) (hb : c.code = cX8_climb) (hml : c.maxLocals = 8) (hr : meth.sig.returnType = (some .int)) (hlk : meth.locks = false) (hown : s.vm.findClass RX8 = some m.cls) (hX : Kx D cA lo tS s) (hRf : 5 ≤ R.frames) (hRl : 300 ≤ R.locals) {N : Nat} {rv : Int32} {g1 : Hg} {S : Hs} : ∀ (n : Nat), ∀ (H : Heap) (locs : List Loc) (ls : Array Slot) (g : Hg) (a0 : Nat) (a1 : Nat) (x4 : Int32) (x5 : Int32) (x7 : Int32), Mm D cA lo S g s H locs → Rf lo S a0 8 → Rf lo S a1 7 → lv_has ls 8 [(0, .ref a0), (1, .ref a1), (4, .int x4), (5, .int x5), (7, .int x7)] → n_X8_climb_9 N S n g a0 a1 x4 x5 x7 = some (rv, g1) → W p l e R s m args below meth c H locs 0 0 (MQ below (Qcx D cA lo S (some (.int rv)) S g1 True) args s 0 0 (fun q : Nat => lo ≤ q)) (F0 m 9 ls []) := by
  intro n
  induction n with
  | zero =>
    intro H locs ls g a0 a1 x4 x5 x7 M ra0 ra1 hl q
    exact absurd q (by simp [n_X8_climb_9])
  | succ n ih => exact w_X8_climb_9 hx hb hml hr hlk hown hX hRf hRl (N := N)  ih
set_option maxHeartbeats 4000000 in
set_option maxRecDepth 100000 in
theorem w_X8_climb_0 (hx : p.tables.exec = Jvm.exec) (hb : c.code = cX8_climb) (hml : c.maxLocals = 8) (hr : meth.sig.returnType = (some .int)) (hlk : meth.locks = false) (hown : s.vm.findClass RX8 = some m.cls) (hX : Kx D cA lo tS s) (hRf : 5 ≤ R.frames) (hRl : 300 ≤ R.locals) {N : Nat} {rv : Int32} {g1 : Hg} {S : Hs} : ∀ (H : Heap) (locs : List Loc) (ls : Array Slot) (g : Hg) (a0 : Nat) (a1 : Nat) (x2 : Int32) (x3 : Int32) (x4 : Int32), Mm D cA lo S g s H locs → Rf lo S a0 8 → Rf lo S a1 7 → lv_has ls 8 [(0, .ref a0), (1, .ref a1), (2, .int x2), (3, .int x3), (4, .int x4)] → b_X8_climb_0 N S g a0 a1 x2 x3 x4 = some (rv, g1) → W p l e R s m args below meth c H locs 0 0 (MQ below (Qcx D cA lo S (some (.int rv)) S g1 True) args s 0 0 (fun q : Nat => lo ≤ q)) (F0 m 0 ls []) := by
  intro H locs ls g a0 a1 x2 x3 x4 M ra0 ra1 hl q
  unfold b_X8_climb_0 at q
  refine lv_iload_n hx hb dX8_climb_0 rfl (lv_at hl 2 rfl) ?_
  refine lv_istore (lv' := [(5, .int x2), (0, .ref a0), (1, .ref a1), (2, .int x2), (3, .int x3), (4, .int x4)]) hx hb dX8_climb_1 hl (by decide) rfl (fun ls hl => ?_)
  refine lv_iconst (v := 0) hx hb dX8_climb_3 (by decide) ?_
  refine lv_istore (lv' := [(6, .int (0 : Int32)), (5, .int x2), (0, .ref a0), (1, .ref a1), (2, .int x2), (3, .int x3), (4, .int x4)]) hx hb dX8_climb_4 hl (by decide) rfl (fun ls hl => ?_)
  refine lv_iload_n hx hb dX8_climb_6 rfl (lv_at hl 5 rfl) ?_
  refine lv_istore (lv' := [(7, .int x3), (6, .int (0 : Int32)), (5, .int x2), (0, .ref a0), (1, .ref a1), (2, .int x2), (3, .int x3), (4, .int x4)]) hx hb dX8_climb_7 hl (by decide) rfl (fun ls hl => ?_)
  exact l_X8_climb_9 hx hb hml hr hlk hown hX hRf hRl (N := N)  N _ _ _ _ _ _ _ _ _ M ra0 ra1 (lv_sub hl [3, 4, 7, 2, 0] rfl) q
set_option maxRecDepth 100000 in
theorem c_X8_climb {l : Launch} {D : va_G} {cA : Nat → ClassId} {lo tS N : Nat} {S : Hs} {g g1 : Hg} {rv : Int32} {a0 : Nat} {a1 : Nat} {x2 : Int32} {x3 : Int32} {x4 : Int32} (ra0 : Rf lo S a0 8) (ra1 : Rf lo S a1 7) (q : f_X8_climb N S g a0 a1 x2 x3 x4 = some (rv, g1)) {d : Nat} (hd : 5 ≤ d) : Ctr l yX8_climb cX8_climb 8 (some .int) D cA lo tS [.ref a0, .ref a1, .int x2, .int x3, .int x4] S g d (some (.int rv)) S g1 True 0 0 := by
  refine x_met (by decide) (Nat.le_of_ble_eq_true rfl) ?_
  intro p e s m below meth c ls hx hb hml hr hlk hown hnm hX M hl
  exact w_X8_climb_0 hx hb hml hr hlk hown hX hd (Nat.mul_le_mul_left 60 hd) (N := N) _ _ _ _ _ _ _ _ _ M ra0 ra1 (lv_sub hl [0, 1, 2, 3, 4] rfl) q
def b_X9_clear_0 (N : Nat) (S : Hs) (g : Hg) (a0 : Nat) : Option (Unit × Hg) :=
nm (wrI g a0 4 (0 : Int32)) (fun g_1 =>
some ((), g_1))
def f_X9_clear (N : Nat) (S : Hs) (g : Hg) (a0 : Nat) : Option (Unit × Hg) := b_X9_clear_0 N S g a0
set_option maxHeartbeats 4000000 in
set_option maxRecDepth 100000 in
theorem w_X9_clear_0 (hx : p.tables.exec = Jvm.exec) (hb : c.code = cX9_clear) (hml : c.maxLocals = 1) (hr : meth.sig.returnType = none) (hlk : meth.locks = false) (hown : s.vm.findClass RX9 = some m.cls) (hX : Kx D cA lo tS s) (hRf : 1 ≤ R.frames) (hRl : 60 ≤ R.locals) {N : Nat} {rv : Unit} {g1 : Hg} {S : Hs} : ∀ (H : Heap) (locs : List Loc) (ls : Array Slot) (g : Hg) (a0 : Nat), Mm D cA lo S g s H locs → Rf lo S a0 9 → lv_has ls 1 [(0, .ref a0)] → b_X9_clear_0 N S g a0 = some (rv, g1) → W p l e R s m args below meth c H locs 0 0 (MQ below (Qcx D cA lo S none S g1 True) args s 0 0 (fun q : Nat => lo ≤ q)) (F0 m 0 ls []) := by
  intro H locs ls g a0 M ra0 hl q
  unfold b_X9_clear_0 at q
  refine lv_aload_n hx hb dX9_clear_0 rfl (lv_at hl 0 rfl) ?_
  refine lv_iconst (v := 0) hx hb dX9_clear_1 (by decide) ?_
  refine x_putI hx hb hown hX M (k := 4) okX9 ra0 (by decide) rfl (Or.inl rfl) rfl rfl kw_133 dX9_clear_2 (fun H locs M => ?_)
  replace q := gen_g M q
  obtain ⟨g_1, -, M, q⟩ := q
  cases q
  exact x_vret hx hb hr hlk M Ext.rf dX9_clear_5
set_option maxRecDepth 100000 in
theorem c_X9_clear {l : Launch} {D : va_G} {cA : Nat → ClassId} {lo tS N : Nat} {S : Hs} {g g1 : Hg} {rv : Unit} {a0 : Nat} (ra0 : Rf lo S a0 9) (q : f_X9_clear N S g a0 = some (rv, g1)) {d : Nat} (hd : 1 ≤ d) : Ctr l yX9_clear cX9_clear 1 none D cA lo tS [.ref a0] S g d none S g1 True 0 0 := by
  refine x_met (by decide) (Nat.le_of_ble_eq_true rfl) ?_
  intro p e s m below meth c ls hx hb hml hr hlk hown hnm hX M hl
  exact w_X9_clear_0 hx hb hml hr hlk hown hX hd (Nat.mul_le_mul_left 60 hd) (N := N) _ _ _ _ _ M ra0 (lv_sub hl [0] rfl) q
def b_X9_writeTop_35 (N : Nat) (S : Hs) (k35 : Hg → Nat → Nat → Int32 → Option (Unit × Hg)) (g : Hg) (a0 : Nat) (a1 : Nat) (x2 : Int32) : Option (Unit × Hg) :=
if x2 < 0 then (
some ((), g)) else (
nn (rdR g a0 0) (fun a_2 =>
nn (rdR g a0 3) (fun a_3 =>
c2 (f_X6_join N S g a_2 a_3 x2 a1 (0 : Int32) a1 (0 : Int32)) (fun u_5 g_4 =>
nm (x2 + (-1)) (fun x_6 =>
k35 g_4 a0 a1 x_6)))))
def n_X9_writeTop_35 (N : Nat) (S : Hs) : Nat → Hg → Nat → Nat → Int32 → Option (Unit × Hg)
  | 0 => fun _ _ _ _ => none
  | n + 1 => fun g a0 a1 x2 => b_X9_writeTop_35 N S (n_X9_writeTop_35 N S n) g a0 a1 x2
def b_X9_writeTop_0 (N : Nat) (S : Hs) (g : Hg) (a0 : Nat) (a1 : Nat) : Option (Unit × Hg) :=
if (rdI g a0 4) = 0 then (
c2 (f_X11_setNought N S g a1 (0 : Int32)) (fun u_7 g_6 =>
some ((), g_6))) else (
nn (rdR g a0 3) (fun a_2 =>
c2 (f_X11_copySum N S g a_2 ((rdI g a0 4) - (1 : Int32)) a1 (0 : Int32)) (fun u_4 g_3 =>
nm ((rdI g_3 a0 4) - (2 : Int32)) (fun x_5 =>
n_X9_writeTop_35 N S N g_3 a0 a1 x_5))))
def f_X9_writeTop (N : Nat) (S : Hs) (g : Hg) (a0 : Nat) (a1 : Nat) : Option (Unit × Hg) := b_X9_writeTop_0 N S g a0 a1
set_option maxHeartbeats 4000000 in
set_option maxRecDepth 100000 in
theorem w_X9_writeTop_35 (hx : p.tables.exec = Jvm.exec) (hb : c.code = cX9_writeTop) (hml : c.maxLocals = 3) (hr : meth.sig.returnType = none) (hlk : meth.locks = false) (hown : s.vm.findClass RX9 = some m.cls) (hX : Kx D cA lo tS s) (hRf : 4 ≤ R.frames) (hRl : 240 ≤ R.locals) {N : Nat} {rv : Unit} {g1 : Hg} {S : Hs} {k35 : Hg → Nat → Nat → Int32 → Option (Unit × Hg)} (hk35 : ∀ (H : Heap) (locs : List Loc) (ls : Array Slot) (g : Hg) (a0 : Nat) (a1 : Nat) (x2 : Int32), Mm D cA lo S g s H locs → Rf lo S a0 9 → Rf lo S a1 20 → lv_has ls 3 [(0, .ref a0), (1, .ref a1), (2, .int x2)] → k35 g a0 a1 x2 = some (rv, g1) → W p l e R s m args below meth c H locs 0 0 (MQ below (Qcx D cA lo S none S g1 True) args s 0 0 (fun q : Nat => lo ≤ q)) (F0 m 35 ls [])) : ∀ (H : Heap) (locs : List Loc) (ls : Array Slot) (g : Hg) (a0 : Nat) (a1 : Nat) (x2 : Int32), Mm D cA lo S g s H locs → Rf lo S a0 9 → Rf lo S a1 20 → lv_has ls 3 [(0, .ref a0), (1, .ref a1), (2, .int x2)] → b_X9_writeTop_35 N S k35 g a0 a1 x2 = some (rv, g1) → W p l e R s m args below meth c H locs 0 0 (MQ below (Qcx D cA lo S none S g1 True) args s 0 0 (fun q : Nat => lo ≤ q)) (F0 m 35 ls []) := by
  intro H locs ls g a0 a1 x2 M ra0 ra1 hl q
  unfold b_X9_writeTop_35 at q
  refine lv_iload_n hx hb dX9_writeTop_35 rfl (lv_at hl 2 rfl) ?_
  refine lv_if_lt (tgt := 61) hx hb dX9_writeTop_36 (by decide) (fun c_1 => ?_) (fun c_1 => ?_)
  · replace q := if_t c_1 q
    cases q
    exact x_vret hx hb hr hlk M Ext.rf dX9_writeTop_61
  · replace q := if_f c_1 q
    refine lv_aload_n hx hb dX9_writeTop_39 rfl (lv_at hl 0 rfl) ?_
    replace q := nn_s q
    obtain ⟨a_2, e_a_2, q⟩ := q
    refine x_getR hx hb hown hX M e_a_2 okX9 ra0 (by decide) rfl kw_129 dX9_writeTop_40 (fun ra_2 => ?_)
    refine lv_aload_n hx hb dX9_writeTop_43 rfl (lv_at hl 0 rfl) ?_
    replace q := nn_s q
    obtain ⟨a_3, e_a_3, q⟩ := q
    refine x_getR hx hb hown hX M e_a_3 okX9 ra0 (by decide) rfl kw_132 dX9_writeTop_44 (fun ra_3 => ?_)
    refine lv_iload_n hx hb dX9_writeTop_47 rfl (lv_at hl 2 rfl) ?_
    refine lv_aload_n hx hb dX9_writeTop_48 rfl (lv_at hl 1 rfl) ?_
    refine lv_iconst (v := 0) hx hb dX9_writeTop_49 (by decide) ?_
    refine lv_aload_n hx hb dX9_writeTop_50 rfl (lv_at hl 1 rfl) ?_
    refine lv_iconst (v := 0) hx hb dX9_writeTop_51 (by decide) ?_
    replace q := c2_s q
    obtain ⟨u_5, g_4, qc, q⟩ := q
    refine x_callV hx hb hml hl.1 hown hX M (S1 := S) (As := [.ref a_3, .int x2, .ref a1, .int (0 : Int32), .ref a1, .int (0 : Int32)]) (rest := []) okX6 ra_2 rfl kw_542 kw_543 mok_X6_join (c_X6_join ra_2 ra_3 ra1 ra1 qc (Nat.le_refl 3)) kw_676 rfl rfl dX9_writeTop_52 (Nat.le_of_ble_eq_true rfl) ⟨Nat.le_trans (by decide) hRf, Nat.le_trans (by decide) hRl⟩ (Nat.zero_le _) (Nat.zero_le _) (fun H locs M hEF => ?_)
    obtain ⟨x_6, e_x_6⟩ : ∃ y : Int32, y = x2 + (-1) := ⟨_, rfl⟩
    replace q := nm_s q e_x_6
    refine lv_iinc (v := x_6) (lv' := [(2, .int x_6), (0, .ref a0), (1, .ref a1)]) hx hb dX9_writeTop_55 hl (k := 2) rfl (by rw [e_x_6]; rfl) (by decide) rfl (fun ls hl => ?_)
    refine lv_goto (tgt := 35) hx hb dX9_writeTop_58 (by decide) ?_
    exact hk35 _ _ _ _ _ _ _ M ra0 ra1 (lv_sub hl [1, 2, 0] rfl) q
set_option maxRecDepth 100000 in
theorem l_X9_writeTop_35 (hx : p.tables.exec = Jvm.exec) (hb : c.code = cX9_writeTop) (hml : c.maxLocals = 3) (hr : meth.sig.returnType = none) (hlk : meth.locks = false) (hown : s.vm.findClass RX9 = some m.cls) (hX : Kx D cA lo tS s) (hRf : 4 ≤ R.frames) (hRl : 240 ≤ R.locals) {N : Nat} {rv : Unit} {g1 : Hg} {S : Hs} : ∀ (n : Nat), ∀ (H : Heap) (locs : List Loc) (ls : Array Slot) (g : Hg) (a0 : Nat) (a1 : Nat) (x2 : Int32), Mm D cA lo S g s H locs → Rf lo S a0 9 → Rf lo S a1 20 → lv_has ls 3 [(0, .ref a0), (1, .ref a1), (2, .int x2)] → n_X9_writeTop_35 N S n g a0 a1 x2 = some (rv, g1) → W p l e R s m args below meth c H locs 0 0 (MQ below (Qcx D cA lo S none S g1 True) args s 0 0 (fun q : Nat => lo ≤ q)) (F0 m 35 ls []) := by
  intro n
  induction n with
  | zero =>
    intro H locs ls g a0 a1 x2 M ra0 ra1 hl q
    exact absurd q (by simp [n_X9_writeTop_35])
  | succ n ih => exact w_X9_writeTop_35 hx hb hml hr hlk hown hX hRf hRl (N := N)  ih
set_option maxHeartbeats 4000000 in
set_option maxRecDepth 100000 in
theorem w_X9_writeTop_0 (hx : p.tables.exec = Jvm.exec) (hb : c.code = cX9_writeTop) (hml : c.maxLocals = 3) (hr : meth.sig.returnType = none) (hlk : meth.locks = false) (hown : s.vm.findClass RX9 = some m.cls) (hX : Kx D cA lo tS s) (hRf : 4 ≤ R.frames) (hRl : 240 ≤ R.locals) {N : Nat} {rv : Unit} {g1 : Hg} {S : Hs} : ∀ (H : Heap) (locs : List Loc) (ls : Array Slot) (g : Hg) (a0 : Nat) (a1 : Nat), Mm D cA lo S g s H locs → Rf lo S a0 9 → Rf lo S a1 20 → lv_has ls 3 [(0, .ref a0), (1, .ref a1)] → b_X9_writeTop_0 N S g a0 a1 = some (rv, g1) → W p l e R s m args below meth c H locs 0 0 (MQ below (Qcx D cA lo S none S g1 True) args s 0 0 (fun q : Nat => lo ≤ q)) (F0 m 0 ls []) := by
  intro H locs ls g a0 a1 M ra0 ra1 hl q
  unfold b_X9_writeTop_0 at q
  refine lv_aload_n hx hb dX9_writeTop_0 rfl (lv_at hl 0 rfl) ?_
  refine x_getI hx hb hown hX M (k := 4) okX9 ra0 (by decide) rfl kw_133 dX9_writeTop_1 ?_
  refine lv_if_ne (tgt := 13) hx hb dX9_writeTop_4 (by decide) (fun c_1 => ?_) (fun c_1 => ?_)
  · replace q := if_f c_1 q
    refine lv_aload_n hx hb dX9_writeTop_13 rfl (lv_at hl 0 rfl) ?_
    replace q := nn_s q
    obtain ⟨a_2, e_a_2, q⟩ := q
    refine x_getR hx hb hown hX M e_a_2 okX9 ra0 (by decide) rfl kw_132 dX9_writeTop_14 (fun ra_2 => ?_)
    refine lv_aload_n hx hb dX9_writeTop_17 rfl (lv_at hl 0 rfl) ?_
    refine x_getI hx hb hown hX M (k := 4) okX9 ra0 (by decide) rfl kw_133 dX9_writeTop_18 ?_
    refine lv_iconst (v := 1) hx hb dX9_writeTop_21 (by decide) ?_
    refine lv_isub hx hb dX9_writeTop_22 ?_
    refine lv_aload_n hx hb dX9_writeTop_23 rfl (lv_at hl 1 rfl) ?_
    refine lv_iconst (v := 0) hx hb dX9_writeTop_24 (by decide) ?_
    replace q := c2_s q
    obtain ⟨u_4, g_3, qc, q⟩ := q
    refine x_callSN hx hb hml hl.1 hown hX M (S1 := S) (As := [.ref a_2, .int ((rdI g a0 4) - (1 : Int32)), .ref a1, .int (0 : Int32)]) (rest := []) kw_669 mok_X11_copySum (c_X11_copySum ra_2 ra1 qc (Nat.le_refl 1)) kw_668 rfl rfl dX9_writeTop_25 (Nat.le_of_ble_eq_true rfl) ⟨Nat.le_trans (by decide) hRf, Nat.le_trans (by decide) hRl⟩ (Nat.zero_le _) (Nat.zero_le _) (fun H locs M hEF => ?_)
    refine lv_aload_n hx hb dX9_writeTop_28 rfl (lv_at hl 0 rfl) ?_
    refine x_getI hx hb hown hX M (k := 4) okX9 ra0 (by decide) rfl kw_133 dX9_writeTop_29 ?_
    refine lv_iconst (v := 2) hx hb dX9_writeTop_32 (by decide) ?_
    refine lv_isub hx hb dX9_writeTop_33 ?_
    refine lv_topi (fun x_5 e_x_5 => ?_)
    replace q := nm_s q e_x_5
    refine lv_istore_n (lv' := [(2, .int x_5), (0, .ref a0), (1, .ref a1)]) hx hb dX9_writeTop_34 rfl hl (by decide) rfl (fun ls hl => ?_)
    exact l_X9_writeTop_35 hx hb hml hr hlk hown hX hRf hRl (N := N)  N _ _ _ _ _ _ _ M ra0 ra1 (lv_sub hl [1, 2, 0] rfl) q
  · replace q := if_t c_1 q
    refine lv_aload_n hx hb dX9_writeTop_7 rfl (lv_at hl 1 rfl) ?_
    refine lv_iconst (v := 0) hx hb dX9_writeTop_8 (by decide) ?_
    replace q := c2_s q
    obtain ⟨u_7, g_6, qc, q⟩ := q
    refine x_callSN hx hb hml hl.1 hown hX M (S1 := S) (As := [.ref a1, .int (0 : Int32)]) (rest := []) kw_682 mok_X11_setNought (c_X11_setNought ra1 qc (Nat.le_refl 3)) kw_681 rfl rfl dX9_writeTop_9 (Nat.le_of_ble_eq_true rfl) ⟨Nat.le_trans (by decide) hRf, Nat.le_trans (by decide) hRl⟩ (Nat.zero_le _) (Nat.zero_le _) (fun H locs M hEF => ?_)
    cases q
    exact x_vret hx hb hr hlk M Ext.rf dX9_writeTop_12
set_option maxRecDepth 100000 in
theorem c_X9_writeTop {l : Launch} {D : va_G} {cA : Nat → ClassId} {lo tS N : Nat} {S : Hs} {g g1 : Hg} {rv : Unit} {a0 : Nat} {a1 : Nat} (ra0 : Rf lo S a0 9) (ra1 : Rf lo S a1 20) (q : f_X9_writeTop N S g a0 a1 = some (rv, g1)) {d : Nat} (hd : 4 ≤ d) : Ctr l yX9_writeTop cX9_writeTop 3 none D cA lo tS [.ref a0, .ref a1] S g d none S g1 True 0 0 := by
  refine x_met (by decide) (Nat.le_of_ble_eq_true rfl) ?_
  intro p e s m below meth c ls hx hb hml hr hlk hown hnm hX M hl
  exact w_X9_writeTop_0 hx hb hml hr hlk hown hX hd (Nat.mul_le_mul_left 60 hd) (N := N) _ _ _ _ _ _ M ra0 ra1 (lv_sub hl [0, 1] rfl) q
def b_X8_isGrowth_0 (N : Nat) (S : Hs) (g : Hg) (a0 : Nat) (a1 : Nat) (a2 : Nat) (a3 : Nat) : Option (Int32 × Hg) :=
if (rdI g a2 4) = (rdI g a1 7) then (
if (rdI g a3 4) = (rdI g a1 6) then (
nn (rdR g a0 2) (fun a_3 =>
c2 (f_X9_clear N S g a_3) (fun u_5 g_4 =>
c2 (f_X8_climb N S g_4 a0 a1 (0 : Int32) (0 : Int32) (rdI g_4 a1 7)) (fun x_7 g_6 =>
nn (rdR g_6 a0 2) (fun a_8 =>
nn (rdR g_6 a0 3) (fun a_9 =>
c2 (f_X9_writeTop N S g_6 a_8 a_9) (fun u_11 g_10 =>
nn (rdR g_10 a0 3) (fun a_12 =>
nn (rdR g_10 a2 0) (fun a_13 =>
c2 (f_X11_isSameSum N S g_10 a_12 a_13) (fun x_15 g_14 =>
if x_15 = 0 then (
some ((0 : Int32), g_14)) else (
c2 (f_X8_climb N S g_14 a0 a1 x_7 (rdI g_14 a1 7) (rdI g_14 a1 6)) (fun x_18 g_17 =>
nn (rdR g_17 a0 2) (fun a_19 =>
nn (rdR g_17 a0 3) (fun a_20 =>
c2 (f_X9_writeTop N S g_17 a_19 a_20) (fun u_22 g_21 =>
nn (rdR g_21 a0 3) (fun a_23 =>
nn (rdR g_21 a3 0) (fun a_24 =>
c2 (f_X11_isSameSum N S g_21 a_23 a_24) (fun x_26 g_25 =>
ck (zb x_26) (
some (x_26, g_25)))))))))))))))))))) else (
some ((0 : Int32), g))) else (
some ((0 : Int32), g))
def f_X8_isGrowth (N : Nat) (S : Hs) (g : Hg) (a0 : Nat) (a1 : Nat) (a2 : Nat) (a3 : Nat) : Option (Int32 × Hg) := b_X8_isGrowth_0 N S g a0 a1 a2 a3
set_option maxHeartbeats 4000000 in
set_option maxRecDepth 100000 in
theorem w_X8_isGrowth_0 (hx : p.tables.exec = Jvm.exec) (hb : c.code = cX8_isGrowth) (hml : c.maxLocals = 5) (hr : meth.sig.returnType = (some .boolean)) (hlk : meth.locks = false) (hown : s.vm.findClass RX8 = some m.cls) (hX : Kx D cA lo tS s) (hRf : 6 ≤ R.frames) (hRl : 360 ≤ R.locals) {N : Nat} {rv : Int32} {g1 : Hg} {S : Hs} : ∀ (H : Heap) (locs : List Loc) (ls : Array Slot) (g : Hg) (a0 : Nat) (a1 : Nat) (a2 : Nat) (a3 : Nat), Mm D cA lo S g s H locs → Rf lo S a0 8 → Rf lo S a1 7 → Rf lo S a2 0 → Rf lo S a3 0 → lv_has ls 5 [(0, .ref a0), (1, .ref a1), (2, .ref a2), (3, .ref a3)] → b_X8_isGrowth_0 N S g a0 a1 a2 a3 = some (rv, g1) → W p l e R s m args below meth c H locs 0 0 (MQ below (Qcx D cA lo S (some (.int rv)) S g1 True) args s 0 0 (fun q : Nat => lo ≤ q)) (F0 m 0 ls []) := by
  intro H locs ls g a0 a1 a2 a3 M ra0 ra1 ra2 ra3 hl q
  unfold b_X8_isGrowth_0 at q
  refine lv_aload_n hx hb dX8_isGrowth_0 rfl (lv_at hl 2 rfl) ?_
  refine x_getI hx hb hown hX M (k := 4) okX0 ra2 (by decide) rfl kw_263 dX8_isGrowth_1 ?_
  refine lv_aload_n hx hb dX8_isGrowth_4 rfl (lv_at hl 1 rfl) ?_
  refine x_getI hx hb hown hX M (k := 7) okX7 ra1 (by decide) rfl kw_203 dX8_isGrowth_5 ?_
  refine lv_icmp_ne (tgt := 22) hx hb dX8_isGrowth_8 (by decide) (fun c_1 => ?_) (fun c_1 => ?_)
  · replace q := if_f c_1 q
    refine lv_iconst (v := 0) hx hb dX8_isGrowth_22 (by decide) ?_
    cases q
    exact x_zret hx hb hr hlk rfl M Ext.rf dX8_isGrowth_23
  · replace q := if_t c_1 q
    refine lv_aload_n hx hb dX8_isGrowth_11 rfl (lv_at hl 3 rfl) ?_
    refine x_getI hx hb hown hX M (k := 4) okX0 ra3 (by decide) rfl kw_263 dX8_isGrowth_12 ?_
    refine lv_aload_n hx hb dX8_isGrowth_15 rfl (lv_at hl 1 rfl) ?_
    refine x_getI hx hb hown hX M (k := 6) okX7 ra1 (by decide) rfl kw_200 dX8_isGrowth_16 ?_
    refine lv_icmp_eq (tgt := 24) hx hb dX8_isGrowth_19 (by decide) (fun c_2 => ?_) (fun c_2 => ?_)
    · replace q := if_t c_2 q
      refine lv_aload_n hx hb dX8_isGrowth_24 rfl (lv_at hl 0 rfl) ?_
      replace q := nn_s q
      obtain ⟨a_3, e_a_3, q⟩ := q
      refine x_getR hx hb hown hX M e_a_3 okX8 ra0 (by decide) rfl kw_147 dX8_isGrowth_25 (fun ra_3 => ?_)
      replace q := c2_s q
      obtain ⟨u_5, g_4, qc, q⟩ := q
      refine x_callV hx hb hml hl.1 hown hX M (S1 := S) (As := []) (rest := []) okX9 ra_3 rfl kw_654 kw_655 mok_X9_clear (c_X9_clear ra_3 qc (Nat.le_refl 1)) kw_653 rfl rfl dX8_isGrowth_28 (Nat.le_of_ble_eq_true rfl) ⟨Nat.le_trans (by decide) hRf, Nat.le_trans (by decide) hRl⟩ (Nat.zero_le _) (Nat.zero_le _) (fun H locs M hEF => ?_)
      refine lv_aload_n hx hb dX8_isGrowth_31 rfl (lv_at hl 0 rfl) ?_
      refine lv_aload_n hx hb dX8_isGrowth_32 rfl (lv_at hl 1 rfl) ?_
      refine lv_iconst (v := 0) hx hb dX8_isGrowth_33 (by decide) ?_
      refine lv_iconst (v := 0) hx hb dX8_isGrowth_34 (by decide) ?_
      refine lv_aload_n hx hb dX8_isGrowth_35 rfl (lv_at hl 1 rfl) ?_
      refine x_getI hx hb hown hX M (k := 7) okX7 ra1 (by decide) rfl kw_203 dX8_isGrowth_36 ?_
      replace q := c2_s q
      obtain ⟨x_7, g_6, qc, q⟩ := q
      refine x_callV hx hb hml hl.1 hown hX M (S1 := S) (As := [.ref a1, .int (0 : Int32), .int (0 : Int32), .int (rdI g_4 a1 7)]) (rest := []) okX8 ra0 rfl kw_854 kw_10 mok_X8_climb (c_X8_climb ra0 ra1 qc (Nat.le_refl 5)) kw_852 rfl rfl dX8_isGrowth_39 (Nat.le_of_ble_eq_true rfl) ⟨Nat.le_trans (by decide) hRf, Nat.le_trans (by decide) hRl⟩ (Nat.zero_le _) (Nat.zero_le _) (fun H locs M hEF => ?_)
      refine lv_istore (lv' := [(4, .int x_7), (0, .ref a0), (1, .ref a1), (2, .ref a2), (3, .ref a3)]) hx hb dX8_isGrowth_42 hl (by decide) rfl (fun ls hl => ?_)
      refine lv_aload_n hx hb dX8_isGrowth_44 rfl (lv_at hl 1 rfl) ?_
      replace q := nn_s q
      obtain ⟨a_8, e_a_8, q⟩ := q
      refine x_getR hx hb hown hX M e_a_8 okX8 ra0 (by decide) rfl kw_147 dX8_isGrowth_45 (fun ra_8 => ?_)
      refine lv_aload_n hx hb dX8_isGrowth_48 rfl (lv_at hl 1 rfl) ?_
      replace q := nn_s q
      obtain ⟨a_9, e_a_9, q⟩ := q
      refine x_getR hx hb hown hX M e_a_9 okX8 ra0 (by decide) rfl kw_148 dX8_isGrowth_49 (fun ra_9 => ?_)
      replace q := c2_s q
      obtain ⟨u_11, g_10, qc, q⟩ := q
      refine x_callV hx hb hml hl.1 hown hX M (S1 := S) (As := [.ref a_9]) (rest := []) okX9 ra_8 rfl kw_678 kw_679 mok_X9_writeTop (c_X9_writeTop ra_8 ra_9 qc (Nat.le_refl 4)) kw_677 rfl rfl dX8_isGrowth_52 (Nat.le_of_ble_eq_true rfl) ⟨Nat.le_trans (by decide) hRf, Nat.le_trans (by decide) hRl⟩ (Nat.zero_le _) (Nat.zero_le _) (fun H locs M hEF => ?_)
      refine lv_aload_n hx hb dX8_isGrowth_55 rfl (lv_at hl 1 rfl) ?_
      replace q := nn_s q
      obtain ⟨a_12, e_a_12, q⟩ := q
      refine x_getR hx hb hown hX M e_a_12 okX8 ra0 (by decide) rfl kw_148 dX8_isGrowth_56 (fun ra_12 => ?_)
      refine lv_aload_n hx hb dX8_isGrowth_59 rfl (lv_at hl 3 rfl) ?_
      replace q := nn_s q
      obtain ⟨a_13, e_a_13, q⟩ := q
      refine x_getR hx hb hown hX M e_a_13 okX0 ra2 (by decide) rfl kw_249 dX8_isGrowth_60 (fun ra_13 => ?_)
      replace q := c2_s q
      obtain ⟨x_15, g_14, qc, q⟩ := q
      refine x_callSN hx hb hml hl.1 hown hX M (S1 := S) (As := [.ref a_12, .ref a_13]) (rest := []) kw_860 mok_X11_isSameSum (c_X11_isSameSum ra_12 ra_13 qc (Nat.le_refl 1)) kw_859 rfl rfl dX8_isGrowth_63 (Nat.le_of_ble_eq_true rfl) ⟨Nat.le_trans (by decide) hRf, Nat.le_trans (by decide) hRl⟩ (Nat.zero_le _) (Nat.zero_le _) (fun H locs M hEF => ?_)
      refine lv_if_ne (tgt := 71) hx hb dX8_isGrowth_66 (by decide) (fun c_16 => ?_) (fun c_16 => ?_)
      · replace q := if_f c_16 q
        refine lv_aload_n hx hb dX8_isGrowth_71 rfl (lv_at hl 1 rfl) ?_
        refine lv_aload_n hx hb dX8_isGrowth_72 rfl (lv_at hl 2 rfl) ?_
        refine lv_iload hx hb dX8_isGrowth_73 (lv_at hl 0 rfl) ?_
        refine lv_aload_n hx hb dX8_isGrowth_75 rfl (lv_at hl 2 rfl) ?_
        refine x_getI hx hb hown hX M (k := 7) okX7 ra1 (by decide) rfl kw_203 dX8_isGrowth_76 ?_
        refine lv_aload_n hx hb dX8_isGrowth_79 rfl (lv_at hl 2 rfl) ?_
        refine x_getI hx hb hown hX M (k := 6) okX7 ra1 (by decide) rfl kw_200 dX8_isGrowth_80 ?_
        replace q := c2_s q
        obtain ⟨x_18, g_17, qc, q⟩ := q
        refine x_callV hx hb hml hl.1 hown hX M (S1 := S) (As := [.ref a1, .int x_7, .int (rdI g_14 a1 7), .int (rdI g_14 a1 6)]) (rest := []) okX8 ra0 rfl kw_854 kw_10 mok_X8_climb (c_X8_climb ra0 ra1 qc (Nat.le_refl 5)) kw_852 rfl rfl dX8_isGrowth_83 (Nat.le_of_ble_eq_true rfl) ⟨Nat.le_trans (by decide) hRf, Nat.le_trans (by decide) hRl⟩ (Nat.zero_le _) (Nat.zero_le _) (fun H locs M hEF => ?_)
        refine lv_pop hx hb dX8_isGrowth_86 rfl ?_
        refine lv_aload_n hx hb dX8_isGrowth_87 rfl (lv_at hl 1 rfl) ?_
        replace q := nn_s q
        obtain ⟨a_19, e_a_19, q⟩ := q
        refine x_getR hx hb hown hX M e_a_19 okX8 ra0 (by decide) rfl kw_147 dX8_isGrowth_88 (fun ra_19 => ?_)
        refine lv_aload_n hx hb dX8_isGrowth_91 rfl (lv_at hl 1 rfl) ?_
        replace q := nn_s q
        obtain ⟨a_20, e_a_20, q⟩ := q
        refine x_getR hx hb hown hX M e_a_20 okX8 ra0 (by decide) rfl kw_148 dX8_isGrowth_92 (fun ra_20 => ?_)
        replace q := c2_s q
        obtain ⟨u_22, g_21, qc, q⟩ := q
        refine x_callV hx hb hml hl.1 hown hX M (S1 := S) (As := [.ref a_20]) (rest := []) okX9 ra_19 rfl kw_678 kw_679 mok_X9_writeTop (c_X9_writeTop ra_19 ra_20 qc (Nat.le_refl 4)) kw_677 rfl rfl dX8_isGrowth_95 (Nat.le_of_ble_eq_true rfl) ⟨Nat.le_trans (by decide) hRf, Nat.le_trans (by decide) hRl⟩ (Nat.zero_le _) (Nat.zero_le _) (fun H locs M hEF => ?_)
        refine lv_aload_n hx hb dX8_isGrowth_98 rfl (lv_at hl 1 rfl) ?_
        replace q := nn_s q
        obtain ⟨a_23, e_a_23, q⟩ := q
        refine x_getR hx hb hown hX M e_a_23 okX8 ra0 (by decide) rfl kw_148 dX8_isGrowth_99 (fun ra_23 => ?_)
        refine lv_aload_n hx hb dX8_isGrowth_102 rfl (lv_at hl 4 rfl) ?_
        replace q := nn_s q
        obtain ⟨a_24, e_a_24, q⟩ := q
        refine x_getR hx hb hown hX M e_a_24 okX0 ra3 (by decide) rfl kw_249 dX8_isGrowth_103 (fun ra_24 => ?_)
        replace q := c2_s q
        obtain ⟨x_26, g_25, qc, q⟩ := q
        refine x_callSN hx hb hml hl.1 hown hX M (S1 := S) (As := [.ref a_23, .ref a_24]) (rest := []) kw_860 mok_X11_isSameSum (c_X11_isSameSum ra_23 ra_24 qc (Nat.le_refl 1)) kw_859 rfl rfl dX8_isGrowth_106 (Nat.le_of_ble_eq_true rfl) ⟨Nat.le_trans (by decide) hRf, Nat.le_trans (by decide) hRl⟩ (Nat.zero_le _) (Nat.zero_le _) (fun H locs M hEF => ?_)
        replace q := ck_s q
        obtain ⟨hz, q⟩ := q
        cases q
        exact x_zret hx hb hr hlk (zb_nar hz) M Ext.rf dX8_isGrowth_109
      · replace q := if_t c_16 q
        refine lv_iconst (v := 0) hx hb dX8_isGrowth_69 (by decide) ?_
        cases q
        exact x_zret hx hb hr hlk rfl M Ext.rf dX8_isGrowth_70
    · replace q := if_f c_2 q
      refine lv_iconst (v := 0) hx hb dX8_isGrowth_22 (by decide) ?_
      cases q
      exact x_zret hx hb hr hlk rfl M Ext.rf dX8_isGrowth_23
set_option maxRecDepth 100000 in
theorem c_X8_isGrowth {l : Launch} {D : va_G} {cA : Nat → ClassId} {lo tS N : Nat} {S : Hs} {g g1 : Hg} {rv : Int32} {a0 : Nat} {a1 : Nat} {a2 : Nat} {a3 : Nat} (ra0 : Rf lo S a0 8) (ra1 : Rf lo S a1 7) (ra2 : Rf lo S a2 0) (ra3 : Rf lo S a3 0) (q : f_X8_isGrowth N S g a0 a1 a2 a3 = some (rv, g1)) {d : Nat} (hd : 6 ≤ d) : Ctr l yX8_isGrowth cX8_isGrowth 5 (some .boolean) D cA lo tS [.ref a0, .ref a1, .ref a2, .ref a3] S g d (some (.int rv)) S g1 True 0 0 := by
  refine x_met (by decide) (Nat.le_of_ble_eq_true rfl) ?_
  intro p e s m below meth c ls hx hb hml hr hlk hown hnm hX M hl
  exact w_X8_isGrowth_0 hx hb hml hr hlk hown hX hd (Nat.mul_le_mul_left 60 hd) (N := N) _ _ _ _ _ _ _ _ M ra0 ra1 ra2 ra3 (lv_sub hl [0, 1, 2, 3] rfl) q
end W5
