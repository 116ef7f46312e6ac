section W2
variable {p : Program} {l : Launch} {e : Env} {R : Room} {s : State} {m : MethodId} {args : Array Value} {below : List Frame} {meth : Method} {c : Code} {D : va_G} {cA : Nat → ClassId} {lo tS : Nat}
def b_X4_showWay_120 (N : Nat) (S : Hs) (g : Hg) (a0 : Nat) (x3 : Int32) (x4 : Int32) : Option (Int32 × Hs × Hg × Nat × Nat) :=
if x4 ≤ x3 then (
some ((-1 : Int32), S, g, 0, 0)) else (
nn (rdR g a0 2) (fun a_2 =>
ck (inb x3 (hpL S a_2)) (
some ((rdI g a_2 x3.toNatClampNeg), S, g, 0, 0))))
def b_X4_showWay_105 (N : Nat) (k27 : Hs → Hg → Nat → Nat → Nat → Int32 → Int32 → Int32 → Option (Int32 × Hs × Hg × Nat × Nat)) (S : Hs) (g : Hg) (a0 : Nat) (a1 : Nat) (a2 : Nat) (x3 : Int32) (x4 : Int32) (x5 : Int32) : Option (Int32 × Hs × Hg × Nat × Nat) :=
nn (rdR g a0 3) (fun a_1 =>
c5 (f_X7_tellStep N S g a2 a_1 (0 : Int32)) (fun u_3 S_4 g_2 =>
nm (x5 + 1) (fun x_9 =>
k27 S_4 g_2 a0 a1 a2 x3 x4 x_9)))
def b_X4_showWay_27 (N : Nat) (k27 : Hs → Hg → Nat → Nat → Nat → Int32 → Int32 → Int32 → Option (Int32 × Hs × Hg × Nat × Nat)) (S : Hs) (g : Hg) (a0 : Nat) (a1 : Nat) (a2 : Nat) (x3 : Int32) (x4 : Int32) (x5 : Int32) : Option (Int32 × Hs × Hg × Nat × Nat) :=
if (256 : Int32) ≤ x5 then (
b_X4_showWay_120 N S g a0 x3 x4) else (
if (x4 - x3) ≤ (1 : Int32) then (
b_X4_showWay_120 N S g a0 x3 x4) else (
c2 (f_X4_partingOf N S g a0 a1 x3 x4 x5) (fun x_4 g_3 =>
nn (rdR g_3 a0 4) (fun a_5 =>
c2 (f_X11_bitOfWay N S g_3 a_5 (0 : Int32) x5) (fun x_7 g_6 =>
if x_7 = 0 then (
c2 (f_X4_plant N S 300 g_6 a0 a1 x_4 x4 (x5 + (1 : Int32)) (0 : Int32)) (fun u_12 g_11 =>
b_X4_showWay_105 N k27 S g_11 a0 a1 a2 x3 x_4 x5)) else (
c2 (f_X4_plant N S 300 g_6 a0 a1 x3 x_4 (x5 + (1 : Int32)) (0 : Int32)) (fun u_10 g_9 =>
b_X4_showWay_105 N k27 S g_9 a0 a1 a2 x_4 x4 x5)))))))
def n_X4_showWay_27 (N : Nat) : Nat → Hs → Hg → Nat → Nat → Nat → Int32 → Int32 → Int32 → Option (Int32 × Hs × Hg × Nat × Nat)
  | 0 => fun _ _ _ _ _ _ _ _ => none
  | n + 1 => fun S g a0 a1 a2 x3 x4 x5 => b_X4_showWay_27 N (n_X4_showWay_27 N n) S g a0 a1 a2 x3 x4 x5
def b_X4_showWay_0 (N : Nat) (S : Hs) (g : Hg) (a0 : Nat) (a1 : Nat) (a2 : Nat) : Option (Int32 × Hs × Hg × Nat × Nat) :=
nn (rdR g a0 0) (fun a_1 =>
nn (rdR g a0 4) (fun a_2 =>
c2 (f_X6_wayOf N S g a_1 (rdI g a2 9) a_2 (0 : Int32)) (fun u_4 g_3 =>
nm (rdI g_3 a0 5) (fun x_5 =>
n_X4_showWay_27 N N S g_3 a0 a1 a2 (0 : Int32) x_5 (0 : Int32)))))
def f_X4_showWay (N : Nat) (S : Hs) (g : Hg) (a0 : Nat) (a1 : Nat) (a2 : Nat) : Option (Int32 × Hs × Hg × Nat × Nat) := b_X4_showWay_0 N S g a0 a1 a2
set_option maxHeartbeats 4000000 in
set_option maxRecDepth 100000 in
theorem w_X4_showWay_120 (hx : p.tables.exec = Jvm.exec) (hb : c.code = cX4_showWay) (hml : c.maxLocals = 7) (hr : meth.sig.returnType = (some .int)) (hlk : meth.locks = false) (hown : s.vm.findClass RX4 = some m.cls) (hX : Kx D cA lo tS s) (hRf : 305 ≤ R.frames) (hRl : 18300 ≤ R.locals) {N : Nat} {rv : Int32} {g1 : Hg} {S0 S1 : Hs} {cT wT : Nat} (hRc : cT ≤ R.cells) (hRs : wT ≤ R.slots) : ∀ (H : Heap) (locs : List Loc) (ls : Array Slot) (cells slots k w : Nat) (S : Hs) (g : Hg) (a0 : Nat) (x3 : Int32) (x4 : Int32), Mm D cA lo S g s H locs → Ext lo S0 S → Rf lo S a0 4 → lv_has ls 7 [(0, .ref a0), (3, .int x3), (4, .int x4)] → b_X4_showWay_120 N S g a0 x3 x4 = some (rv, S1, g1, k, w) → cells + k = cT → slots + w = wT → W p l e R s m args below meth c H locs cells slots (MQ below (Qcx D cA lo S0 (some (.int rv)) S1 g1 True) args s cT wT (fun q : Nat => lo ≤ q)) (F0 m 120 ls []) := by
  intro H locs ls cells slots k w S g a0 x3 x4 M hE ra0 hl q hc hs
  unfold b_X4_showWay_120 at q
  refine lv_iload hx hb dX4_showWay_120 (lv_at hl 2 rfl) ?_
  refine lv_iload_n hx hb dX4_showWay_122 rfl (lv_at hl 1 rfl) ?_
  refine lv_icmp_le (tgt := 135) hx hb dX4_showWay_123 (by decide) (fun c_1 => ?_) (fun c_1 => ?_)
  · replace q := if_t c_1 q
    refine lv_iconst (v := -1) hx hb dX4_showWay_135 (by decide) ?_
    cases q
    have hc : cells = cT := hc
    have hs : slots = wT := hs
    subst hc
    subst hs
    exact x_iret hx hb hr hlk M hE dX4_showWay_136
  · replace q := if_f c_1 q
    refine lv_aload_n hx hb dX4_showWay_126 rfl (lv_at hl 0 rfl) ?_
    replace q := nn_s q
    obtain ⟨a_2, e_a_2, q⟩ := q
    refine x_getR hx hb hown hX M e_a_2 okX4 ra0 (by decide) rfl kw_99 dX4_showWay_127 (fun ra_2 => ?_)
    refine lv_iload_n hx hb dX4_showWay_130 rfl (lv_at hl 1 rfl) ?_
    replace q := ck_s q
    obtain ⟨hin, q⟩ := q
    refine x_iald hx hb hX M ra_2 (inb_in hin) dX4_showWay_131 ?_
    refine lv_goto (tgt := 136) hx hb dX4_showWay_132 (by decide) ?_
    cases q
    have hc : cells = cT := hc
    have hs : slots = wT := hs
    subst hc
    subst hs
    exact x_iret hx hb hr hlk M hE dX4_showWay_136
set_option maxHeartbeats 4000000 in
set_option maxRecDepth 100000 in
theorem w_X4_showWay_105 (hx : p.tables.exec = Jvm.exec) (hb : c.code = cX4_showWay) (hml : c.maxLocals = 7) (hr : meth.sig.returnType = (some .int)) (hlk : meth.locks = false) (hown : s.vm.findClass RX4 = some m.cls) (hX : Kx D cA lo tS s) (hRf : 305 ≤ R.frames) (hRl : 18300 ≤ R.locals) {N : Nat} {rv : Int32} {g1 : Hg} {S0 S1 : Hs} {cT wT : Nat} (hRc : cT ≤ R.cells) (hRs : wT ≤ R.slots) {k27 : Hs → Hg → Nat → Nat → Nat → Int32 → Int32 → Int32 → Option (Int32 × Hs × Hg × Nat × Nat)} (hk27 : ∀ (H : Heap) (locs : List Loc) (ls : Array Slot) (cells slots k w : Nat) (S : Hs) (g : Hg) (a0 : Nat) (a1 : Nat) (a2 : Nat) (x3 : Int32) (x4 : Int32) (x5 : Int32), Mm D cA lo S g s H locs → Ext lo S0 S → Rf lo S a0 4 → Rf lo S a1 2 → Rf lo S a2 7 → lv_has ls 7 [(0, .ref a0), (1, .ref a1), (2, .ref a2), (3, .int x3), (4, .int x4), (5, .int x5)] → k27 S g a0 a1 a2 x3 x4 x5 = some (rv, S1, g1, k, w) → cells + k = cT → slots + w = wT → W p l e R s m args below meth c H locs cells slots (MQ below (Qcx D cA lo S0 (some (.int rv)) S1 g1 True) args s cT wT (fun q : Nat => lo ≤ q)) (F0 m 27 ls [])) : ∀ (H : Heap) (locs : List Loc) (ls : Array Slot) (cells slots k w : Nat) (S : Hs) (g : Hg) (a0 : Nat) (a1 : Nat) (a2 : Nat) (x3 : Int32) (x4 : Int32) (x5 : Int32), Mm D cA lo S g s H locs → Ext lo S0 S → Rf lo S a0 4 → Rf lo S a1 2 → Rf lo S a2 7 → lv_has ls 7 [(0, .ref a0), (1, .ref a1), (2, .ref a2), (3, .int x3), (4, .int x4), (5, .int x5)] → b_X4_showWay_105 N k27 S g a0 a1 a2 x3 x4 x5 = some (rv, S1, g1, k, w) → cells + k = cT → slots + w = wT → W p l e R s m args below meth c H locs cells slots (MQ below (Qcx D cA lo S0 (some (.int rv)) S1 g1 True) args s cT wT (fun q : Nat => lo ≤ q)) (F0 m 105 ls []) := by
  intro H locs ls cells slots k w S g a0 a1 a2 x3 x4 x5 M hE ra0 ra1 ra2 hl q hc hs
  unfold b_X4_showWay_105 at q
  refine lv_aload_n hx hb dX4_showWay_105 rfl (lv_at hl 2 rfl) ?_
  refine lv_aload_n hx hb dX4_showWay_106 rfl (lv_at hl 0 rfl) ?_
  replace q := nn_s q
  obtain ⟨a_1, e_a_1, q⟩ := q
  refine x_getR hx hb hown hX M e_a_1 okX4 ra0 (by decide) rfl kw_100 dX4_showWay_107 (fun ra_1 => ?_)
  refine lv_iconst (v := 0) hx hb dX4_showWay_110 (by decide) ?_
  replace q := c5_s q
  obtain ⟨u_3, S_4, g_2, k_5, w_6, k_7, w_8, qc, ek, ew, q⟩ := q
  refine x_callV hx hb hml hl.1 hown hX M (As := [.ref a_1, .int (0 : Int32)]) (rest := []) okX7 ra2 rfl kw_757 kw_758 mok_X7_tellStep (c_X7_tellStep ra2 ra_1 qc (Nat.le_refl 3)) kw_793 rfl rfl dX4_showWay_111 (Nat.le_of_ble_eq_true rfl) ⟨Nat.le_trans (by decide) hRf, Nat.le_trans (by decide) hRl⟩ (hb_step hc ek hRc) (hb_step hs ew hRs) (fun H locs M hEF => ?_)
  replace ra0 := ra0.ext hEF.1
  replace ra1 := ra1.ext hEF.1
  replace ra2 := ra2.ext hEF.1
  replace hE := hE.tr hEF.1
  replace hc := hc_step hc ek
  replace hs := hc_step hs ew
  clear ek ew
  obtain ⟨x_9, e_x_9⟩ : ∃ y : Int32, y = x5 + 1 := ⟨_, rfl⟩
  replace q := nm_s q e_x_9
  refine lv_iinc (v := x_9) (lv' := [(5, .int x_9), (0, .ref a0), (1, .ref a1), (2, .ref a2), (3, .int x3), (4, .int x4)]) hx hb dX4_showWay_114 hl (k := 5) rfl (by rw [e_x_9]; rfl) (by decide) rfl (fun ls hl => ?_)
  refine lv_goto (tgt := 27) hx hb dX4_showWay_117 (by decide) ?_
  exact hk27 _ _ _ _ _ _ _ _ _ _ _ _ _ _ _ M hE ra0 ra1 ra2 (lv_sub hl [1, 2, 3, 4, 5, 0] rfl) q hc hs
set_option maxHeartbeats 4000000 in
set_option maxRecDepth 100000 in
theorem w_X4_showWay_27 (hx : p.tables.exec = Jvm.exec) (hb : c.code = cX4_showWay) (hml : c.maxLocals = 7) (hr : meth.sig.returnType = (some .int)) (hlk : meth.locks = false) (hown : s.vm.findClass RX4 = some m.cls) (hX : Kx D cA lo tS s) (hRf : 305 ≤ R.frames) (hRl : 18300 ≤ R.locals) {N : Nat} {rv : Int32} {g1 : Hg} {S0 S1 : Hs} {cT wT : Nat} (hRc : cT ≤ R.cells) (hRs : wT ≤ R.slots) {k27 : Hs → Hg → Nat → Nat → Nat → Int32 → Int32 → Int32 → Option (Int32 × Hs × Hg × Nat × Nat)} (hk27 : ∀ (H : Heap) (locs : List Loc) (ls : Array Slot) (cells slots k w : Nat) (S : Hs) (g : Hg) (a0 : Nat) (a1 : Nat) (a2 : Nat) (x3 : Int32) (x4 : Int32) (x5 : Int32), Mm D cA lo S g s H locs → Ext lo S0 S → Rf lo S a0 4 → Rf lo S a1 2 → Rf lo S a2 7 → lv_has ls 7 [(0, .ref a0), (1, .ref a1), (2, .ref a2), (3, .int x3), (4, .int x4), (5, .int x5)] → k27 S g a0 a1 a2 x3 x4 x5 = some (rv, S1, g1, k, w) → cells + k = cT → slots + w = wT → W p l e R s m args below meth c H locs cells slots (MQ below (Qcx D cA lo S0 (some (.int rv)) S1 g1 True) args s cT wT (fun q : Nat => lo ≤ q)) (F0 m 27 ls [])) : ∀ (H : Heap) (locs : List Loc) (ls : Array Slot) (cells slots k w : Nat) (S : Hs) (g : Hg) (a0 : Nat) (a1 : Nat) (a2 : Nat) (x3 : Int32) (x4 : Int32) (x5 : Int32), Mm D cA lo S g s H locs → Ext lo S0 S → Rf lo S a0 4 → Rf lo S a1 2 → Rf lo S a2 7 → lv_has ls 7 [(0, .ref a0), (1, .ref a1), (2, .ref a2), (3, .int x3), (4, .int x4), (5, .int x5)] → b_X4_showWay_27 N k27 S g a0 a1 a2 x3 x4 x5 = some (rv, S1, g1, k, w) → cells + k = cT → slots + w = wT → W p l e R s m args below meth c H locs cells slots (MQ below (Qcx D cA lo S0 (some (.int rv)) S1 g1 True) args s cT wT (fun q : Nat => lo ≤ q)) (F0 m 27 ls []) := by
  intro H locs ls cells slots k w S g a0 a1 a2 x3 x4 x5 M hE ra0 ra1 ra2 hl q hc hs
  unfold b_X4_showWay_27 at q
  refine lv_iload hx hb dX4_showWay_27 (lv_at hl 5 rfl) ?_
  refine lv_sipush (v := 256) hx hb dX4_showWay_29 (by decide) ?_
  refine lv_icmp_ge (tgt := 120) hx hb dX4_showWay_32 (by decide) (fun c_1 => ?_) (fun c_1 => ?_)
  · replace q := if_t c_1 q
    exact w_X4_showWay_120 hx hb hml hr hlk hown hX hRf hRl (N := N) hRc hRs  _ _ _ _ _ _ _ _ _ _ _ _ M hE ra0 (lv_sub hl [0, 3, 4] rfl) q hc hs
  · replace q := if_f c_1 q
    refine lv_iload hx hb dX4_showWay_35 (lv_at hl 4 rfl) ?_
    refine lv_iload_n hx hb dX4_showWay_37 rfl (lv_at hl 3 rfl) ?_
    refine lv_isub hx hb dX4_showWay_38 ?_
    refine lv_iconst (v := 1) hx hb dX4_showWay_39 (by decide) ?_
    refine lv_icmp_le (tgt := 120) hx hb dX4_showWay_40 (by decide) (fun c_2 => ?_) (fun c_2 => ?_)
    · replace q := if_t c_2 q
      exact w_X4_showWay_120 hx hb hml hr hlk hown hX hRf hRl (N := N) hRc hRs  _ _ _ _ _ _ _ _ _ _ _ _ M hE ra0 (lv_sub hl [0, 3, 4] rfl) q hc hs
    · replace q := if_f c_2 q
      refine lv_aload_n hx hb dX4_showWay_43 rfl (lv_at hl 0 rfl) ?_
      refine lv_aload_n hx hb dX4_showWay_44 rfl (lv_at hl 1 rfl) ?_
      refine lv_iload_n hx hb dX4_showWay_45 rfl (lv_at hl 3 rfl) ?_
      refine lv_iload hx hb dX4_showWay_46 (lv_at hl 4 rfl) ?_
      refine lv_iload hx hb dX4_showWay_48 (lv_at hl 5 rfl) ?_
      replace q := c2_s q
      obtain ⟨x_4, g_3, qc, q⟩ := q
      refine x_callV hx hb hml hl.1 hown hX M (S1 := S) (As := [.ref a1, .int x3, .int x4, .int x5]) (rest := []) okX4 ra0 rfl kw_708 kw_7 mok_X4_partingOf (c_X4_partingOf ra0 ra1 qc (Nat.le_refl 2)) kw_706 rfl rfl dX4_showWay_50 (Nat.le_of_ble_eq_true rfl) ⟨Nat.le_trans (by decide) hRf, Nat.le_trans (by decide) hRl⟩ (hz_step hc hRc) (hz_step hs hRs) (fun H locs M hEF => ?_)
      refine lv_istore (lv' := [(6, .int x_4), (0, .ref a0), (1, .ref a1), (2, .ref a2), (3, .int x3), (4, .int x4), (5, .int x5)]) hx hb dX4_showWay_53 hl (by decide) rfl (fun ls hl => ?_)
      refine lv_aload_n hx hb dX4_showWay_55 rfl (lv_at hl 1 rfl) ?_
      replace q := nn_s q
      obtain ⟨a_5, e_a_5, q⟩ := q
      refine x_getR hx hb hown hX M e_a_5 okX4 ra0 (by decide) rfl kw_101 dX4_showWay_56 (fun ra_5 => ?_)
      refine lv_iconst (v := 0) hx hb dX4_showWay_59 (by decide) ?_
      refine lv_iload hx hb dX4_showWay_60 (lv_at hl 6 rfl) ?_
      replace q := c2_s q
      obtain ⟨x_7, g_6, qc, q⟩ := q
      refine x_callSN hx hb hml hl.1 hown hX M (S1 := S) (As := [.ref a_5, .int (0 : Int32), .int x5]) (rest := []) kw_711 mok_X11_bitOfWay (c_X11_bitOfWay ra_5 qc (Nat.le_refl 1)) kw_710 rfl rfl dX4_showWay_62 (Nat.le_of_ble_eq_true rfl) ⟨Nat.le_trans (by decide) hRf, Nat.le_trans (by decide) hRl⟩ (hz_step hc hRc) (hz_step hs hRs) (fun H locs M hEF => ?_)
      refine lv_if_ne (tgt := 89) hx hb dX4_showWay_65 (by decide) (fun c_8 => ?_) (fun c_8 => ?_)
      · replace q := if_f c_8 q
        refine lv_aload_n hx hb dX4_showWay_89 rfl (lv_at hl 1 rfl) ?_
        refine lv_aload_n hx hb dX4_showWay_90 rfl (lv_at hl 2 rfl) ?_
        refine lv_iload_n hx hb dX4_showWay_91 rfl (lv_at hl 4 rfl) ?_
        refine lv_iload hx hb dX4_showWay_92 (lv_at hl 0 rfl) ?_
        refine lv_iload hx hb dX4_showWay_94 (lv_at hl 6 rfl) ?_
        refine lv_iconst (v := 1) hx hb dX4_showWay_96 (by decide) ?_
        refine lv_iadd hx hb dX4_showWay_97 ?_
        refine lv_iconst (v := 0) hx hb dX4_showWay_98 (by decide) ?_
        replace q := c2_s q
        obtain ⟨u_10, g_9, qc, q⟩ := q
        refine x_callS hx hb hml hl.1 hown hX M (S1 := S) (As := [.ref a0, .ref a1, .int x3, .int x_4, .int (x5 + (1 : Int32)), .int (0 : Int32)]) (rest := []) kw_695 mok_X4_plant (c_X4_plant ra0 ra1 qc (Nat.le_refl 304)) kw_694 rfl rfl dX4_showWay_99 (Nat.le_of_ble_eq_true rfl) ⟨Nat.le_trans (by decide) hRf, Nat.le_trans (by decide) hRl⟩ (hz_step hc hRc) (hz_step hs hRs) (fun H locs M hEF => ?_)
        refine lv_iload hx hb dX4_showWay_102 (lv_at hl 0 rfl) ?_
        refine lv_istore_n (lv' := [(3, .int x_4), (6, .int x_4), (0, .ref a0), (1, .ref a1), (2, .ref a2), (4, .int x4), (5, .int x5)]) hx hb dX4_showWay_104 rfl hl (by decide) rfl (fun ls hl => ?_)
        exact w_X4_showWay_105 hx hb hml hr hlk hown hX hRf hRl (N := N) hRc hRs hk27 _ _ _ _ _ _ _ _ _ _ _ _ _ _ _ M hE ra0 ra1 ra2 (lv_sub hl [2, 3, 4, 0, 5, 6] rfl) q hc hs
      · replace q := if_t c_8 q
        refine lv_aload_n hx hb dX4_showWay_68 rfl (lv_at hl 1 rfl) ?_
        refine lv_aload_n hx hb dX4_showWay_69 rfl (lv_at hl 2 rfl) ?_
        refine lv_iload hx hb dX4_showWay_70 (lv_at hl 0 rfl) ?_
        refine lv_iload hx hb dX4_showWay_72 (lv_at hl 5 rfl) ?_
        refine lv_iload hx hb dX4_showWay_74 (lv_at hl 6 rfl) ?_
        refine lv_iconst (v := 1) hx hb dX4_showWay_76 (by decide) ?_
        refine lv_iadd hx hb dX4_showWay_77 ?_
        refine lv_iconst (v := 0) hx hb dX4_showWay_78 (by decide) ?_
        replace q := c2_s q
        obtain ⟨u_12, g_11, qc, q⟩ := q
        refine x_callS hx hb hml hl.1 hown hX M (S1 := S) (As := [.ref a0, .ref a1, .int x_4, .int x4, .int (x5 + (1 : Int32)), .int (0 : Int32)]) (rest := []) kw_695 mok_X4_plant (c_X4_plant ra0 ra1 qc (Nat.le_refl 304)) kw_694 rfl rfl dX4_showWay_79 (Nat.le_of_ble_eq_true rfl) ⟨Nat.le_trans (by decide) hRf, Nat.le_trans (by decide) hRl⟩ (hz_step hc hRc) (hz_step hs hRs) (fun H locs M hEF => ?_)
        refine lv_iload hx hb dX4_showWay_82 (lv_at hl 0 rfl) ?_
        refine lv_istore (lv' := [(4, .int x_4), (6, .int x_4), (0, .ref a0), (1, .ref a1), (2, .ref a2), (3, .int x3), (5, .int x5)]) hx hb dX4_showWay_84 hl (by decide) rfl (fun ls hl => ?_)
        refine lv_goto (tgt := 105) hx hb dX4_showWay_86 (by decide) ?_
        exact w_X4_showWay_105 hx hb hml hr hlk hown hX hRf hRl (N := N) hRc hRs hk27 _ _ _ _ _ _ _ _ _ _ _ _ _ _ _ M hE ra0 ra1 ra2 (lv_sub hl [2, 3, 4, 5, 0, 6] rfl) q hc hs
set_option maxRecDepth 100000 in
theorem l_X4_showWay_27 (hx : p.tables.exec = Jvm.exec) (hb : c.code = cX4_showWay) (hml : c.maxLocals = 7) (hr : meth.sig.returnType = (some .int)) (hlk : meth.locks = false) (hown : s.vm.findClass RX4 = some m.cls) (hX : Kx D cA lo tS s) (hRf : 305 ≤ R.frames) (hRl : 18300 ≤ R.locals) {N : Nat} {rv : Int32} {g1 : Hg} {S0 S1 : Hs} {cT wT : Nat} (hRc : cT ≤ R.cells) (hRs : wT ≤ R.slots) : ∀ (n : Nat), ∀ (H : Heap) (locs : List Loc) (ls : Array Slot) (cells slots k w : Nat) (S : Hs) (g : Hg) (a0 : Nat) (a1 : Nat) (a2 : Nat) (x3 : Int32) (x4 : Int32) (x5 : Int32), Mm D cA lo S g s H locs → Ext lo S0 S → Rf lo S a0 4 → Rf lo S a1 2 → Rf lo S a2 7 → lv_has ls 7 [(0, .ref a0), (1, .ref a1), (2, .ref a2), (3, .int x3), (4, .int x4), (5, .int x5)] → n_X4_showWay_27 N n S g a0 a1 a2 x3 x4 x5 = some (rv, S1, g1, k, w) → cells + k = cT → slots + w = wT → W p l e R s m args below meth c H locs cells slots (MQ below (Qcx D cA lo S0 (some (.int rv)) S1 g1 True) args s cT wT (fun q : Nat => lo ≤ q)) (F0 m 27 ls []) := by
  intro n
  induction n with
  | zero =>
    intro H locs ls cells slots k w S g a0 a1 a2 x3 x4 x5 M hE ra0 ra1 ra2 hl q hc hs
    exact absurd q (by simp [n_X4_showWay_27])
  | succ n ih => exact w_X4_showWay_27 hx hb hml hr hlk hown hX hRf hRl (N := N) hRc hRs  ih
set_option maxHeartbeats 4000000 in
set_option maxRecDepth 100000 in
theorem w_X4_showWay_0 (hx : p.tables.exec = Jvm.exec) (hb : c.code = cX4_showWay) (hml : c.maxLocals = 7) (hr : meth.sig.returnType = (some .int)) (hlk : meth.locks = false) (hown : s.vm.findClass RX4 = some m.cls) (hX : Kx D cA lo tS s) (hRf : 305 ≤ R.frames) (hRl : 18300 ≤ R.locals) {N : Nat} {rv : Int32} {g1 : Hg} {S0 S1 : Hs} {cT wT : Nat} (hRc : cT ≤ R.cells) (hRs : wT ≤ R.slots) : ∀ (H : Heap) (locs : List Loc) (ls : Array Slot) (cells slots k w : Nat) (S : Hs) (g : Hg) (a0 : Nat) (a1 : Nat) (a2 : Nat), Mm D cA lo S g s H locs → Ext lo S0 S → Rf lo S a0 4 → Rf lo S a1 2 → Rf lo S a2 7 → lv_has ls 7 [(0, .ref a0), (1, .ref a1), (2, .ref a2)] → b_X4_showWay_0 N S g a0 a1 a2 = some (rv, S1, g1, k, w) → cells + k = cT → slots + w = wT → W p l e R s m args below meth c H locs cells slots (MQ below (Qcx D cA lo S0 (some (.int rv)) S1 g1 True) args s cT wT (fun q : Nat => lo ≤ q)) (F0 m 0 ls []) := by
  intro H locs ls cells slots k w S g a0 a1 a2 M hE ra0 ra1 ra2 hl q hc hs
  unfold b_X4_showWay_0 at q
  refine lv_aload_n hx hb dX4_showWay_0 rfl (lv_at hl 0 rfl) ?_
  replace q := nn_s q
  obtain ⟨a_1, e_a_1, q⟩ := q
  refine x_getR hx hb hown hX M e_a_1 okX4 ra0 (by decide) rfl kw_97 dX4_showWay_1 (fun ra_1 => ?_)
  refine lv_aload_n hx hb dX4_showWay_4 rfl (lv_at hl 2 rfl) ?_
  refine x_getI hx hb hown hX M (k := 9) okX7 ra2 (by decide) rfl kw_208 dX4_showWay_5 ?_
  refine lv_aload_n hx hb dX4_showWay_8 rfl (lv_at hl 0 rfl) ?_
  replace q := nn_s q
  obtain ⟨a_2, e_a_2, q⟩ := q
  refine x_getR hx hb hown hX M e_a_2 okX4 ra0 (by decide) rfl kw_101 dX4_showWay_9 (fun ra_2 => ?_)
  refine lv_iconst (v := 0) hx hb dX4_showWay_12 (by decide) ?_
  replace q := c2_s q
  obtain ⟨u_4, g_3, qc, q⟩ := q
  refine x_callV hx hb hml hl.1 hown hX M (S1 := S) (As := [.int (rdI g a2 9), .ref a_2, .int (0 : Int32)]) (rest := []) okX6 ra_1 rfl kw_511 kw_512 mok_X6_wayOf (c_X6_wayOf ra_1 ra_2 qc (Nat.le_refl 3)) kw_792 rfl rfl dX4_showWay_13 (Nat.le_of_ble_eq_true rfl) ⟨Nat.le_trans (by decide) hRf, Nat.le_trans (by decide) hRl⟩ (hz_step hc hRc) (hz_step hs hRs) (fun H locs M hEF => ?_)
  refine lv_iconst (v := 0) hx hb dX4_showWay_16 (by decide) ?_
  refine lv_istore_n (lv' := [(3, .int (0 : Int32)), (0, .ref a0), (1, .ref a1), (2, .ref a2)]) hx hb dX4_showWay_17 rfl hl (by decide) rfl (fun ls hl => ?_)
  refine lv_aload_n hx hb dX4_showWay_18 rfl (lv_at hl 1 rfl) ?_
  refine x_getI hx hb hown hX M (k := 5) okX4 ra0 (by decide) rfl kw_102 dX4_showWay_19 ?_
  refine lv_topi (fun x_5 e_x_5 => ?_)
  replace q := nm_s q e_x_5
  refine lv_istore (lv' := [(4, .int x_5), (3, .int (0 : Int32)), (0, .ref a0), (1, .ref a1), (2, .ref a2)]) hx hb dX4_showWay_22 hl (by decide) rfl (fun ls hl => ?_)
  refine lv_iconst (v := 0) hx hb dX4_showWay_24 (by decide) ?_
  refine lv_istore (lv' := [(5, .int (0 : Int32)), (4, .int x_5), (3, .int (0 : Int32)), (0, .ref a0), (1, .ref a1), (2, .ref a2)]) hx hb dX4_showWay_25 hl (by decide) rfl (fun ls hl => ?_)
  exact l_X4_showWay_27 hx hb hml hr hlk hown hX hRf hRl (N := N) hRc hRs  N _ _ _ _ _ _ _ _ _ _ _ _ _ _ _ M hE ra0 ra1 ra2 (lv_sub hl [3, 4, 5, 2, 1, 0] rfl) q hc hs
set_option maxRecDepth 100000 in
theorem c_X4_showWay {l : Launch} {D : va_G} {cA : Nat → ClassId} {lo tS N : Nat} {S S1 : Hs} {g g1 : Hg} {k w : Nat} {rv : Int32} {a0 : Nat} {a1 : Nat} {a2 : Nat} (ra0 : Rf lo S a0 4) (ra1 : Rf lo S a1 2) (ra2 : Rf lo S a2 7) (q : f_X4_showWay N S g a0 a1 a2 = some (rv, S1, g1, k, w)) {d : Nat} (hd : 305 ≤ d) : Ctr l yX4_showWay cX4_showWay 7 (some .int) D cA lo tS [.ref a0, .ref a1, .ref a2] S g d (some (.int rv)) S1 g1 True k w := by
  refine x_met (by decide) (Nat.le_of_ble_eq_true rfl) ?_
  intro p e s m below meth c ls hx hb hml hr hlk hown hnm hX M hl
  exact w_X4_showWay_0 hx hb hml hr hlk hown hX hd (Nat.mul_le_mul_left 60 hd) (N := N) (Nat.le_refl k) (Nat.le_refl w) _ _ _ _ _ _ _ _ _ _ _ _ M Ext.rf ra0 ra1 ra2 (lv_sub hl [0, 1, 2] rfl) q (Nat.zero_add k) (Nat.zero_add w)
def b_X7_begin_0 (N : Nat) (S : Hs) (g : Hg) (a0 : Nat) (x1 : Int32) (x2 : Int32) (x3 : Int32) : Option (Unit × Hg) :=
nm (wrI g a0 5 x1) (fun g_1 =>
nm (wrI g_1 a0 6 x2) (fun g_2 =>
nm (wrI g_2 a0 7 x3) (fun g_3 =>
nm (wrI g_3 a0 8 (0 : Int32)) (fun g_4 =>
nm (wrI g_4 a0 9 (0 : Int32)) (fun g_5 =>
nm (wrI g_5 a0 10 (0 : Int32)) (fun g_6 =>
nm (wrI g_6 a0 11 (0 : Int32)) (fun g_7 =>
nm (wrI g_7 a0 3 (0 : Int32)) (fun g_8 =>
nm (wrI g_8 a0 4 (0 : Int32)) (fun g_9 =>
some ((), g_9))))))))))
def f_X7_begin (N : Nat) (S : Hs) (g : Hg) (a0 : Nat) (x1 : Int32) (x2 : Int32) (x3 : Int32) : Option (Unit × Hg) := b_X7_begin_0 N S g a0 x1 x2 x3
set_option maxHeartbeats 4000000 in
set_option maxRecDepth 100000 in
theorem w_X7_begin_0 (hx : p.tables.exec = Jvm.exec) (hb : c.code = cX7_begin) (hml : c.maxLocals = 4) (hr : meth.sig.returnType = none) (hlk : meth.locks = false) (hown : s.vm.findClass RX7 = some m.cls) (hX : Kx D cA lo tS s) (hRf : 1 ≤ R.frames) (hRl : 60 ≤ R.locals) {N : Nat} {rv : Unit} {g1 : Hg} {S : Hs} : ∀ (H : Heap) (locs : List Loc) (ls : Array Slot) (g : Hg) (a0 : Nat) (x1 : Int32) (x2 : Int32) (x3 : Int32), Mm D cA lo S g s H locs → Rf lo S a0 7 → lv_has ls 4 [(0, .ref a0), (1, .int x1), (2, .int x2), (3, .int x3)] → b_X7_begin_0 N S g a0 x1 x2 x3 = some (rv, g1) → W p l e R s m args below meth c H locs 0 0 (MQ below (Qcx D cA lo S none S g1 True) args s 0 0 (fun q : Nat => lo ≤ q)) (F0 m 0 ls []) := by
  intro H locs ls g a0 x1 x2 x3 M ra0 hl q
  unfold b_X7_begin_0 at q
  refine lv_aload_n hx hb dX7_begin_0 rfl (lv_at hl 0 rfl) ?_
  refine lv_iload_n hx hb dX7_begin_1 rfl (lv_at hl 1 rfl) ?_
  refine x_putI hx hb hown hX M (k := 5) okX7 ra0 (by decide) rfl (Or.inl rfl) rfl rfl kw_195 dX7_begin_2 (fun H locs M => ?_)
  replace q := gen_g M q
  obtain ⟨g_1, -, M, q⟩ := q
  refine lv_aload_n hx hb dX7_begin_5 rfl (lv_at hl 0 rfl) ?_
  refine lv_iload_n hx hb dX7_begin_6 rfl (lv_at hl 2 rfl) ?_
  refine x_putI hx hb hown hX M (k := 6) okX7 ra0 (by decide) rfl (Or.inl rfl) rfl rfl kw_199 dX7_begin_7 (fun H locs M => ?_)
  replace q := gen_g M q
  obtain ⟨g_2, -, M, q⟩ := q
  refine lv_aload_n hx hb dX7_begin_10 rfl (lv_at hl 0 rfl) ?_
  refine lv_iload_n hx hb dX7_begin_11 rfl (lv_at hl 3 rfl) ?_
  refine x_putI hx hb hown hX M (k := 7) okX7 ra0 (by decide) rfl (Or.inl rfl) rfl rfl kw_202 dX7_begin_12 (fun H locs M => ?_)
  replace q := gen_g M q
  obtain ⟨g_3, -, M, q⟩ := q
  refine lv_aload_n hx hb dX7_begin_15 rfl (lv_at hl 0 rfl) ?_
  refine lv_iconst (v := 0) hx hb dX7_begin_16 (by decide) ?_
  refine x_putI hx hb hown hX M (k := 8) okX7 ra0 (by decide) rfl (Or.inl rfl) rfl rfl kw_205 dX7_begin_17 (fun H locs M => ?_)
  replace q := gen_g M q
  obtain ⟨g_4, -, M, q⟩ := q
  refine lv_aload_n hx hb dX7_begin_20 rfl (lv_at hl 0 rfl) ?_
  refine lv_iconst (v := 0) hx hb dX7_begin_21 (by decide) ?_
  refine x_putI hx hb hown hX M (k := 9) okX7 ra0 (by decide) rfl (Or.inl rfl) rfl rfl kw_207 dX7_begin_22 (fun H locs M => ?_)
  replace q := gen_g M q
  obtain ⟨g_5, -, M, q⟩ := q
  refine lv_aload_n hx hb dX7_begin_25 rfl (lv_at hl 0 rfl) ?_
  refine lv_iconst (v := 0) hx hb dX7_begin_26 (by decide) ?_
  refine x_putI hx hb hown hX M (k := 10) okX7 ra0 (by decide) rfl (Or.inl rfl) rfl rfl kw_211 dX7_begin_27 (fun H locs M => ?_)
  replace q := gen_g M q
  obtain ⟨g_6, -, M, q⟩ := q
  refine lv_aload_n hx hb dX7_begin_30 rfl (lv_at hl 0 rfl) ?_
  refine lv_iconst (v := 0) hx hb dX7_begin_31 (by decide) ?_
  refine x_putI hx hb hown hX M (k := 11) okX7 ra0 (by decide) rfl (Or.inl rfl) rfl rfl kw_214 dX7_begin_32 (fun H locs M => ?_)
  replace q := gen_g M q
  obtain ⟨g_7, -, M, q⟩ := q
  refine lv_aload_n hx hb dX7_begin_35 rfl (lv_at hl 0 rfl) ?_
  refine lv_iconst (v := 0) hx hb dX7_begin_36 (by decide) ?_
  refine x_putI hx hb hown hX M (k := 3) okX7 ra0 (by decide) rfl (Or.inl rfl) rfl rfl kw_189 dX7_begin_37 (fun H locs M => ?_)
  replace q := gen_g M q
  obtain ⟨g_8, -, M, q⟩ := q
  refine lv_aload_n hx hb dX7_begin_40 rfl (lv_at hl 0 rfl) ?_
  refine lv_iconst (v := 0) hx hb dX7_begin_41 (by decide) ?_
  refine x_putI hx hb hown hX M (k := 4) okX7 ra0 (by decide) rfl (Or.inl rfl) rfl rfl kw_192 dX7_begin_42 (fun H locs M => ?_)
  replace q := gen_g M q
  obtain ⟨g_9, -, M, q⟩ := q
  cases q
  exact x_vret hx hb hr hlk M Ext.rf dX7_begin_45
set_option maxRecDepth 100000 in
theorem c_X7_begin {l : Launch} {D : va_G} {cA : Nat → ClassId} {lo tS N : Nat} {S : Hs} {g g1 : Hg} {rv : Unit} {a0 : Nat} {x1 : Int32} {x2 : Int32} {x3 : Int32} (ra0 : Rf lo S a0 7) (q : f_X7_begin N S g a0 x1 x2 x3 = some (rv, g1)) {d : Nat} (hd : 1 ≤ d) : Ctr l yX7_begin cX7_begin 4 none D cA lo tS [.ref a0, .int x1, .int x2, .int x3] S g d none S g1 True 0 0 := by
  refine x_met (by decide) (Nat.le_of_ble_eq_true rfl) ?_
  intro p e s m below meth c ls hx hb hml hr hlk hown hnm hX M hl
  exact w_X7_begin_0 hx hb hml hr hlk hown hX hd (Nat.mul_le_mul_left 60 hd) (N := N) _ _ _ _ _ _ _ _ M ra0 (lv_sub hl [0, 1, 2, 3] rfl) q
def b_X11_absent_0 (N : Nat) (S : Hs) (g : Hg) (a0 : Nat) (x1 : Int32) (x2 : Int32) (x3 : Int32) (x4 : Int32) : Option (Int32 × Hs × Hg × Nat × Nat) :=
nn (rdR g a0 3) (fun a_1 =>
c2 (f_X1_slotAt N S g a_1 x1) (fun o_3 g_2 =>
nn (rdR g_2 a0 3) (fun a_4 =>
c2 (f_X1_logAt N S g_2 a_4 x2) (fun o_6 g_5 =>
on o_3 (
some ((-1 : Int32), S, g_5, 0, 0)) (fun a_7 =>
on o_6 (
some ((-1 : Int32), S, g_5, 0, 0)) (fun a_8 =>
c2 (f_X3_reaches N S g_5 a_8 x3) (fun x_10 g_9 =>
if x_10 = 0 then (
some ((-1 : Int32), S, g_9, 0, 0)) else (
nn (rdR g_9 a0 1) (fun a_12 =>
c2 (f_X4_read N S g_9 a_12 a_8 x3) (fun u_14 g_13 =>
nn (rdR g_13 a0 1) (fun a_15 =>
nn (rdR g_13 a_8 0) (fun a_16 =>
c2 (f_X2_find N S g_13 a_16 x4) (fun x_18 g_17 =>
c2 (f_X4_latestOf N S g_17 a_15 x_18) (fun x_20 g_19 =>
if x_20 = (-1 : Int32) then (
c2 (f_X7_begin N S g_19 a_7 (4 : Int32) x3 (0 : Int32)) (fun u_23 g_22 =>
nm (wrI g_22 a_7 9 x4) (fun g_24 =>
nn (rdR g_24 a0 1) (fun a_25 =>
nn (rdR g_24 a_8 0) (fun a_26 =>
c5 (f_X4_showWay N S g_24 a_25 a_26 a_7) (fun x_28 S_29 g_27 =>
nn (rdR g_27 a0 1) (fun a_34 =>
c2 (f_X4_latestOf N S_29 g_27 a_34 x_28) (fun x_36 g_35 =>
nm (wrI g_35 a_7 10 x_36) (fun g_37 =>
nn (rdR g_37 a_8 0) (fun a_38 =>
c2 (f_X2_keyOf N S_29 g_37 a_38 x_28) (fun x_40 g_39 =>
nm (wrI g_39 a_7 11 x_40) (fun g_41 =>
some ((rdI g_41 a_7 4), S_29, g_41, 0, 0))))))))))))) else (
some ((-1 : Int32), S, g_19, 0, 0))))))))))))))))
def f_X11_absent (N : Nat) (S : Hs) (g : Hg) (a0 : Nat) (x1 : Int32) (x2 : Int32) (x3 : Int32) (x4 : Int32) : Option (Int32 × Hs × Hg × Nat × Nat) := b_X11_absent_0 N S g a0 x1 x2 x3 x4
set_option maxHeartbeats 4000000 in
set_option maxRecDepth 100000 in
theorem w_X11_absent_0 (hx : p.tables.exec = Jvm.exec) (hb : c.code = cX11_absent) (hml : c.maxLocals = 8) (hr : meth.sig.returnType = (some .int)) (hlk : meth.locks = false) (hown : s.vm.findClass RX11 = some m.cls) (hX : Kx D cA lo tS s) (hRf : 306 ≤ R.frames) (hRl : 18360 ≤ R.locals) {N : Nat} {rv : Int32} {g1 : Hg} {S0 S1 : Hs} {cT wT : Nat} (hRc : cT ≤ R.cells) (hRs : wT ≤ R.slots) : ∀ (H : Heap) (locs : List Loc) (ls : Array Slot) (cells slots k w : Nat) (S : Hs) (g : Hg) (a0 : Nat) (x1 : Int32) (x2 : Int32) (x3 : Int32) (x4 : Int32), Mm D cA lo S g s H locs → Ext lo S0 S → Rf lo S a0 11 → lv_has ls 8 [(0, .ref a0), (1, .int x1), (2, .int x2), (3, .int x3), (4, .int x4)] → b_X11_absent_0 N S g a0 x1 x2 x3 x4 = some (rv, S1, g1, k, w) → cells + k = cT → slots + w = wT → W p l e R s m args below meth c H locs cells slots (MQ below (Qcx D cA lo S0 (some (.int rv)) S1 g1 True) args s cT wT (fun q : Nat => lo ≤ q)) (F0 m 0 ls []) := by
  intro H locs ls cells slots k w S g a0 x1 x2 x3 x4 M hE ra0 hl q hc hs
  unfold b_X11_absent_0 at q
  refine lv_aload_n hx hb dX11_absent_0 rfl (lv_at hl 0 rfl) ?_
  replace q := nn_s q
  obtain ⟨a_1, e_a_1, q⟩ := q
  refine x_getR hx hb hown hX M e_a_1 okX11 ra0 (by decide) rfl kw_359 dX11_absent_1 (fun ra_1 => ?_)
  refine lv_iload_n hx hb dX11_absent_4 rfl (lv_at hl 1 rfl) ?_
  replace q := c2_s q
  obtain ⟨o_3, g_2, qc, q⟩ := q
  refine x_callV hx hb hml hl.1 hown hX M (S1 := S) (As := [.int x1]) (rest := []) okX1 ra_1 rfl kw_732 kw_733 mok_X1_slotAt (c_X1_slotAt ra_1 qc (Nat.le_refl 1)) kw_731 rfl rfl dX11_absent_5 (Nat.le_of_ble_eq_true rfl) ⟨Nat.le_trans (by decide) hRf, Nat.le_trans (by decide) hRl⟩ (hz_step hc hRc) (hz_step hs hRs) (fun H locs M hEF => ?_)
  have ro_3 := hEF.2
  refine x_astore (lv' := [(5, va_rf o_3), (0, .ref a0), (1, .int x1), (2, .int x2), (3, .int x3), (4, .int x4)]) hx hb dX11_absent_8 hl (by decide) rfl (fun ls hl => ?_)
  refine lv_aload_n hx hb dX11_absent_10 rfl (lv_at hl 1 rfl) ?_
  replace q := nn_s q
  obtain ⟨a_4, e_a_4, q⟩ := q
  refine x_getR hx hb hown hX M e_a_4 okX11 ra0 (by decide) rfl kw_359 dX11_absent_11 (fun ra_4 => ?_)
  refine lv_iload_n hx hb dX11_absent_14 rfl (lv_at hl 3 rfl) ?_
  replace q := c2_s q
  obtain ⟨o_6, g_5, qc, q⟩ := q
  refine x_callV hx hb hml hl.1 hown hX M (S1 := S) (As := [.int x2]) (rest := []) okX1 ra_4 rfl kw_495 kw_496 mok_X1_logAt (c_X1_logAt ra_4 qc (Nat.le_refl 1)) kw_494 rfl rfl dX11_absent_15 (Nat.le_of_ble_eq_true rfl) ⟨Nat.le_trans (by decide) hRf, Nat.le_trans (by decide) hRl⟩ (hz_step hc hRc) (hz_step hs hRs) (fun H locs M hEF => ?_)
  have ro_6 := hEF.2
  refine x_astore (lv' := [(6, va_rf o_6), (5, va_rf o_3), (0, .ref a0), (1, .int x1), (2, .int x2), (3, .int x3), (4, .int x4)]) hx hb dX11_absent_18 hl (by decide) (by cases o_3 <;> rfl) (fun ls hl => ?_)
  refine x_aload hx hb dX11_absent_20 (lv_at hl 1 rfl) ?_
  refine x_ifnull (tgt := 39) hx hb dX11_absent_22 (by decide) (fun c_43 => ?_) (fun a_7 c_43 => ?_)
  · replace q := on_n c_43 q
    refine lv_iconst (v := -1) hx hb dX11_absent_39 (by decide) ?_
    cases q
    have hc : cells = cT := hc
    have hs : slots = wT := hs
    subst hc
    subst hs
    exact x_iret hx hb hr hlk M hE dX11_absent_40
  · subst c_43
    replace q := on_s rfl q
    have ra_7 := ro_3 a_7 rfl
    have hl : lv_has ls 8 [(6, va_rf o_6), (5, .ref a_7), (0, .ref a0), (1, .int x1), (2, .int x2), (3, .int x3), (4, .int x4)] := hl
    refine x_aload hx hb dX11_absent_25 (lv_at hl 0 rfl) ?_
    refine x_ifnull (tgt := 39) hx hb dX11_absent_27 (by decide) (fun c_42 => ?_) (fun a_8 c_42 => ?_)
    · replace q := on_n c_42 q
      refine lv_iconst (v := -1) hx hb dX11_absent_39 (by decide) ?_
      cases q
      have hc : cells = cT := hc
      have hs : slots = wT := hs
      subst hc
      subst hs
      exact x_iret hx hb hr hlk M hE dX11_absent_40
    · subst c_42
      replace q := on_s rfl q
      have ra_8 := ro_6 a_8 rfl
      have hl : lv_has ls 8 [(6, .ref a_8), (5, .ref a_7), (0, .ref a0), (1, .int x1), (2, .int x2), (3, .int x3), (4, .int x4)] := hl
      refine lv_aload hx hb dX11_absent_30 (lv_at hl 0 rfl) ?_
      refine lv_iload_n hx hb dX11_absent_32 rfl (lv_at hl 5 rfl) ?_
      replace q := c2_s q
      obtain ⟨x_10, g_9, qc, q⟩ := q
      refine x_callV hx hb hml hl.1 hown hX M (S1 := S) (As := [.int x3]) (rest := []) okX3 ra_8 rfl kw_550 kw_551 mok_X3_reaches (c_X3_reaches ra_8 qc (Nat.le_refl 1)) kw_549 rfl rfl dX11_absent_33 (Nat.le_of_ble_eq_true rfl) ⟨Nat.le_trans (by decide) hRf, Nat.le_trans (by decide) hRl⟩ (hz_step hc hRc) (hz_step hs hRs) (fun H locs M hEF => ?_)
      refine lv_if_ne (tgt := 41) hx hb dX11_absent_36 (by decide) (fun c_11 => ?_) (fun c_11 => ?_)
      · replace q := if_f c_11 q
        refine lv_aload_n hx hb dX11_absent_41 rfl (lv_at hl 2 rfl) ?_
        replace q := nn_s q
        obtain ⟨a_12, e_a_12, q⟩ := q
        refine x_getR hx hb hown hX M e_a_12 okX11 ra0 (by decide) rfl kw_357 dX11_absent_42 (fun ra_12 => ?_)
        refine lv_aload hx hb dX11_absent_45 (lv_at hl 0 rfl) ?_
        refine lv_iload_n hx hb dX11_absent_47 rfl (lv_at hl 5 rfl) ?_
        replace q := c2_s q
        obtain ⟨u_14, g_13, qc, q⟩ := q
        refine x_callV hx hb hml hl.1 hown hX M (S1 := S) (As := [.ref a_8, .int x3]) (rest := []) okX4 ra_12 rfl kw_615 kw_616 mok_X4_read (c_X4_read ra_12 ra_8 qc (Nat.le_refl 3)) kw_614 rfl rfl dX11_absent_48 (Nat.le_of_ble_eq_true rfl) ⟨Nat.le_trans (by decide) hRf, Nat.le_trans (by decide) hRl⟩ (hz_step hc hRc) (hz_step hs hRs) (fun H locs M hEF => ?_)
        refine lv_aload_n hx hb dX11_absent_51 rfl (lv_at hl 2 rfl) ?_
        replace q := nn_s q
        obtain ⟨a_15, e_a_15, q⟩ := q
        refine x_getR hx hb hown hX M e_a_15 okX11 ra0 (by decide) rfl kw_357 dX11_absent_52 (fun ra_15 => ?_)
        refine lv_aload hx hb dX11_absent_55 (lv_at hl 0 rfl) ?_
        replace q := nn_s q
        obtain ⟨a_16, e_a_16, q⟩ := q
        refine x_getR hx hb hown hX M e_a_16 okX3 ra_8 (by decide) rfl kw_443 dX11_absent_57 (fun ra_16 => ?_)
        refine lv_iload hx hb dX11_absent_60 (lv_at hl 6 rfl) ?_
        replace q := c2_s q
        obtain ⟨x_18, g_17, qc, q⟩ := q
        refine x_callV hx hb hml hl.1 hown hX M (S1 := S) (As := [.int x4]) (rest := [.ref a_15]) okX2 ra_16 rfl kw_507 kw_508 mok_X2_find (c_X2_find ra_16 qc (Nat.le_refl 1)) kw_637 rfl rfl dX11_absent_62 (Nat.le_of_ble_eq_true rfl) ⟨Nat.le_trans (by decide) hRf, Nat.le_trans (by decide) hRl⟩ (hz_step hc hRc) (hz_step hs hRs) (fun H locs M hEF => ?_)
        replace q := c2_s q
        obtain ⟨x_20, g_19, qc, q⟩ := q
        refine x_callV hx hb hml hl.1 hown hX M (S1 := S) (As := [.int x_18]) (rest := []) okX4 ra_15 rfl kw_639 kw_640 mok_X4_latestOf (c_X4_latestOf ra_15 qc (Nat.le_refl 1)) kw_638 rfl rfl dX11_absent_65 (Nat.le_of_ble_eq_true rfl) ⟨Nat.le_trans (by decide) hRf, Nat.le_trans (by decide) hRl⟩ (hz_step hc hRc) (hz_step hs hRs) (fun H locs M hEF => ?_)
        refine lv_iconst (v := -1) hx hb dX11_absent_68 (by decide) ?_
        refine lv_icmp_eq (tgt := 74) hx hb dX11_absent_69 (by decide) (fun c_21 => ?_) (fun c_21 => ?_)
        · replace q := if_t c_21 q
          refine lv_aload hx hb dX11_absent_74 (lv_at hl 1 rfl) ?_
          refine lv_iconst (v := 4) hx hb dX11_absent_76 (by decide) ?_
          refine lv_iload_n hx hb dX11_absent_77 rfl (lv_at hl 5 rfl) ?_
          refine lv_iconst (v := 0) hx hb dX11_absent_78 (by decide) ?_
          replace q := c2_s q
          obtain ⟨u_23, g_22, qc, q⟩ := q
          refine x_callV hx hb hml hl.1 hown hX M (S1 := S) (As := [.int (4 : Int32), .int x3, .int (0 : Int32)]) (rest := []) okX7 ra_7 rfl kw_736 kw_737 mok_X7_begin (c_X7_begin ra_7 qc (Nat.le_refl 1)) kw_735 rfl rfl dX11_absent_79 (Nat.le_of_ble_eq_true rfl) ⟨Nat.le_trans (by decide) hRf, Nat.le_trans (by decide) hRl⟩ (hz_step hc hRc) (hz_step hs hRs) (fun H locs M hEF => ?_)
          refine lv_aload hx hb dX11_absent_82 (lv_at hl 1 rfl) ?_
          refine lv_iload hx hb dX11_absent_84 (lv_at hl 6 rfl) ?_
          refine x_putI hx hb hown hX M (k := 9) okX7 ra_7 (by decide) rfl (Or.inl rfl) rfl rfl kw_210 dX11_absent_86 (fun H locs M => ?_)
          replace q := gen_g M q
          obtain ⟨g_24, -, M, q⟩ := q
          refine lv_aload_n hx hb dX11_absent_89 rfl (lv_at hl 2 rfl) ?_
          replace q := nn_s q
          obtain ⟨a_25, e_a_25, q⟩ := q
          refine x_getR hx hb hown hX M e_a_25 okX11 ra0 (by decide) rfl kw_357 dX11_absent_90 (fun ra_25 => ?_)
          refine lv_aload hx hb dX11_absent_93 (lv_at hl 0 rfl) ?_
          replace q := nn_s q
          obtain ⟨a_26, e_a_26, q⟩ := q
          refine x_getR hx hb hown hX M e_a_26 okX3 ra_8 (by decide) rfl kw_443 dX11_absent_95 (fun ra_26 => ?_)
          refine lv_aload hx hb dX11_absent_98 (lv_at hl 1 rfl) ?_
          replace q := c5_s q
          obtain ⟨x_28, S_29, g_27, k_30, w_31, k_32, w_33, qc, ek, ew, q⟩ := q
          refine x_callV hx hb hml hl.1 hown hX M (As := [.ref a_26, .ref a_7]) (rest := []) okX4 ra_25 rfl kw_789 kw_790 mok_X4_showWay (c_X4_showWay ra_25 ra_26 ra_7 qc (Nat.le_refl 305)) kw_788 rfl rfl dX11_absent_100 (Nat.le_of_ble_eq_true rfl) ⟨Nat.le_trans (by decide) hRf, Nat.le_trans (by decide) hRl⟩ (hb_step hc ek hRc) (hb_step hs ew hRs) (fun H locs M hEF => ?_)
          replace ra0 := ra0.ext hEF.1
          replace ra_7 := ra_7.ext hEF.1
          replace ra_8 := ra_8.ext hEF.1
          replace hE := hE.tr hEF.1
          replace hc := hc_step hc ek
          replace hs := hc_step hs ew
          clear ek ew
          refine lv_istore (lv' := [(7, .int x_28), (6, .ref a_8), (5, .ref a_7), (0, .ref a0), (1, .int x1), (2, .int x2), (3, .int x3), (4, .int x4)]) hx hb dX11_absent_103 hl (by decide) rfl (fun ls hl => ?_)
          refine lv_aload hx hb dX11_absent_105 (lv_at hl 2 rfl) ?_
          refine lv_aload_n hx hb dX11_absent_107 rfl (lv_at hl 3 rfl) ?_
          replace q := nn_s q
          obtain ⟨a_34, e_a_34, q⟩ := q
          refine x_getR hx hb hown hX M e_a_34 okX11 ra0 (by decide) rfl kw_357 dX11_absent_108 (fun ra_34 => ?_)
          refine lv_iload hx hb dX11_absent_111 (lv_at hl 0 rfl) ?_
          replace q := c2_s q
          obtain ⟨x_36, g_35, qc, q⟩ := q
          refine x_callV hx hb hml hl.1 hown hX M (S1 := S_29) (As := [.int x_28]) (rest := [.ref a_7]) okX4 ra_34 rfl kw_639 kw_640 mok_X4_latestOf (c_X4_latestOf ra_34 qc (Nat.le_refl 1)) kw_638 rfl rfl dX11_absent_113 (Nat.le_of_ble_eq_true rfl) ⟨Nat.le_trans (by decide) hRf, Nat.le_trans (by decide) hRl⟩ (hz_step hc hRc) (hz_step hs hRs) (fun H locs M hEF => ?_)
          refine x_putI hx hb hown hX M (k := 10) okX7 ra_7 (by decide) rfl (Or.inl rfl) rfl rfl kw_213 dX11_absent_116 (fun H locs M => ?_)
          replace q := gen_g M q
          obtain ⟨g_37, -, M, q⟩ := q
          refine lv_aload hx hb dX11_absent_119 (lv_at hl 2 rfl) ?_
          refine lv_aload hx hb dX11_absent_121 (lv_at hl 1 rfl) ?_
          replace q := nn_s q
          obtain ⟨a_38, e_a_38, q⟩ := q
          refine x_getR hx hb hown hX M e_a_38 okX3 ra_8 (by decide) rfl kw_443 dX11_absent_123 (fun ra_38 => ?_)
          refine lv_iload hx hb dX11_absent_126 (lv_at hl 0 rfl) ?_
          replace q := c2_s q
          obtain ⟨x_40, g_39, qc, q⟩ := q
          refine x_callV hx hb hml hl.1 hown hX M (S1 := S_29) (As := [.int x_28]) (rest := [.ref a_7]) okX2 ra_38 rfl kw_698 kw_699 mok_X2_keyOf (c_X2_keyOf ra_38 qc (Nat.le_refl 1)) kw_798 rfl rfl dX11_absent_128 (Nat.le_of_ble_eq_true rfl) ⟨Nat.le_trans (by decide) hRf, Nat.le_trans (by decide) hRl⟩ (hz_step hc hRc) (hz_step hs hRs) (fun H locs M hEF => ?_)
          refine x_putI hx hb hown hX M (k := 11) okX7 ra_7 (by decide) rfl (Or.inl rfl) rfl rfl kw_216 dX11_absent_131 (fun H locs M => ?_)
          replace q := gen_g M q
          obtain ⟨g_41, -, M, q⟩ := q
          refine lv_aload hx hb dX11_absent_134 (lv_at hl 2 rfl) ?_
          refine x_getI hx hb hown hX M (k := 4) okX7 ra_7 (by decide) rfl kw_194 dX11_absent_136 ?_
          cases q
          have hc : cells + k_30 = cT := hc
          have hs : slots + w_31 = wT := hs
          subst hc
          subst hs
          exact x_iret hx hb hr hlk M hE dX11_absent_139
        · replace q := if_f c_21 q
          refine lv_iconst (v := -1) hx hb dX11_absent_72 (by decide) ?_
          cases q
          have hc : cells = cT := hc
          have hs : slots = wT := hs
          subst hc
          subst hs
          exact x_iret hx hb hr hlk M hE dX11_absent_73
      · replace q := if_t c_11 q
        refine lv_iconst (v := -1) hx hb dX11_absent_39 (by decide) ?_
        cases q
        have hc : cells = cT := hc
        have hs : slots = wT := hs
        subst hc
        subst hs
        exact x_iret hx hb hr hlk M hE dX11_absent_40
set_option maxRecDepth 100000 in
theorem c_X11_absent {l : Launch} {D : va_G} {cA : Nat → ClassId} {lo tS N : Nat} {S S1 : Hs} {g g1 : Hg} {k w : Nat} {rv : Int32} {a0 : Nat} {x1 : Int32} {x2 : Int32} {x3 : Int32} {x4 : Int32} (ra0 : Rf lo S a0 11) (q : f_X11_absent N S g a0 x1 x2 x3 x4 = some (rv, S1, g1, k, w)) {d : Nat} (hd : 306 ≤ d) : Ctr l yX11_absent cX11_absent 8 (some .int) D cA lo tS [.ref a0, .int x1, .int x2, .int x3, .int x4] S g d (some (.int rv)) S1 g1 True k w := by
  refine x_met (by decide) (Nat.le_of_ble_eq_true rfl) ?_
  intro p e s m below meth c ls hx hb hml hr hlk hown hnm hX M hl
  exact w_X11_absent_0 hx hb hml hr hlk hown hX hd (Nat.mul_le_mul_left 60 hd) (N := N) (Nat.le_refl k) (Nat.le_refl w) _ _ _ _ _ _ _ _ _ _ _ _ _ _ M Ext.rf ra0 (lv_sub hl [0, 1, 2, 3, 4] rfl) q (Nat.zero_add k) (Nat.zero_add w)
def b_X2_isAhead_2 (N : Nat) (S : Hs) (k2 : Hg → Nat → Int32 → Int32 → Int32 → Option (Int32 × Hg)) (g : Hg) (a0 : Nat) (x1 : Int32) (x2 : Int32) (x3 : Int32) : Option (Int32 × Hg) :=
if (8 : Int32) ≤ x3 then (
some ((0 : Int32), g)) else (
nn (rdR g a0 1) (fun a_2 =>
ck (inb ((x1 * (8 : Int32)) + x3) (hpL S a_2)) (
nm (rdI g a_2 ((x1 * (8 : Int32)) + x3).toNatClampNeg) (fun x_3 =>
nn (rdR g a0 1) (fun a_4 =>
ck (inb ((x2 * (8 : Int32)) + x3) (hpL S a_4)) (
nm (rdI g a_4 ((x2 * (8 : Int32)) + x3).toNatClampNeg) (fun x_5 =>
if x_3 = x_5 then (
nm (x3 + 1) (fun x_7 =>
k2 g a0 x1 x2 x_7)) else (
if (x_5 ^^^ (-2147483648 : Int32)) ≤ (x_3 ^^^ (-2147483648 : Int32)) then (
some ((0 : Int32), g)) else (
some ((1 : Int32), g))))))))))
def n_X2_isAhead_2 (N : Nat) (S : Hs) : Nat → Hg → Nat → Int32 → Int32 → Int32 → Option (Int32 × Hg)
  | 0 => fun _ _ _ _ _ => none
  | n + 1 => fun g a0 x1 x2 x3 => b_X2_isAhead_2 N S (n_X2_isAhead_2 N S n) g a0 x1 x2 x3
def b_X2_isAhead_0 (N : Nat) (S : Hs) (g : Hg) (a0 : Nat) (x1 : Int32) (x2 : Int32) : Option (Int32 × Hg) :=
n_X2_isAhead_2 N S N g a0 x1 x2 (0 : Int32)
def f_X2_isAhead (N : Nat) (S : Hs) (g : Hg) (a0 : Nat) (x1 : Int32) (x2 : Int32) : Option (Int32 × Hg) := b_X2_isAhead_0 N S g a0 x1 x2
set_option maxHeartbeats 4000000 in
set_option maxRecDepth 100000 in
theorem w_X2_isAhead_2 (hx : p.tables.exec = Jvm.exec) (hb : c.code = cX2_isAhead) (hml : c.maxLocals = 6) (hr : meth.sig.returnType = (some .boolean)) (hlk : meth.locks = false) (hown : s.vm.findClass RX2 = some m.cls) (hX : Kx D cA lo tS s) (hRf : 1 ≤ R.frames) (hRl : 60 ≤ R.locals) {N : Nat} {rv : Int32} {g1 : Hg} {S : Hs} {k2 : Hg → Nat → Int32 → Int32 → Int32 → Option (Int32 × Hg)} (hk2 : ∀ (H : Heap) (locs : List Loc) (ls : Array Slot) (g : Hg) (a0 : Nat) (x1 : Int32) (x2 : Int32) (x3 : Int32), Mm D cA lo S g s H locs → Rf lo S a0 2 → lv_has ls 6 [(0, .ref a0), (1, .int x1), (2, .int x2), (3, .int x3)] → k2 g a0 x1 x2 x3 = some (rv, g1) → W p l e R s m args below meth c H locs 0 0 (MQ below (Qcx D cA lo S (some (.int rv)) S g1 True) args s 0 0 (fun q : Nat => lo ≤ q)) (F0 m 2 ls [])) : ∀ (H : Heap) (locs : List Loc) (ls : Array Slot) (g : Hg) (a0 : Nat) (x1 : Int32) (x2 : Int32) (x3 : Int32), Mm D cA lo S g s H locs → Rf lo S a0 2 → lv_has ls 6 [(0, .ref a0), (1, .int x1), (2, .int x2), (3, .int x3)] → b_X2_isAhead_2 N S k2 g a0 x1 x2 x3 = some (rv, g1) → W p l e R s m args below meth c H locs 0 0 (MQ below (Qcx D cA lo S (some (.int rv)) S g1 True) args s 0 0 (fun q : Nat => lo ≤ q)) (F0 m 2 ls []) := by
  intro H locs ls g a0 x1 x2 x3 M ra0 hl q
  unfold b_X2_isAhead_2 at q
  refine lv_iload_n hx hb dX2_isAhead_2 rfl (lv_at hl 3 rfl) ?_
  refine lv_bipush (v := 8) hx hb dX2_isAhead_3 (by decide) ?_
  refine lv_icmp_ge (tgt := 66) hx hb dX2_isAhead_5 (by decide) (fun c_1 => ?_) (fun c_1 => ?_)
  · replace q := if_t c_1 q
    refine lv_iconst (v := 0) hx hb dX2_isAhead_66 (by decide) ?_
    cases q
    exact x_zret hx hb hr hlk rfl M Ext.rf dX2_isAhead_67
  · replace q := if_f c_1 q
    refine lv_aload_n hx hb dX2_isAhead_8 rfl (lv_at hl 0 rfl) ?_
    replace q := nn_s q
    obtain ⟨a_2, e_a_2, q⟩ := q
    refine x_getR hx hb hown hX M e_a_2 okX2 ra0 (by decide) rfl kw_398 dX2_isAhead_9 (fun ra_2 => ?_)
    refine lv_iload_n hx hb dX2_isAhead_12 rfl (lv_at hl 1 rfl) ?_
    refine lv_bipush (v := 8) hx hb dX2_isAhead_13 (by decide) ?_
    refine lv_imul hx hb dX2_isAhead_15 ?_
    refine lv_iload_n hx hb dX2_isAhead_16 rfl (lv_at hl 3 rfl) ?_
    refine lv_iadd hx hb dX2_isAhead_17 ?_
    replace q := ck_s q
    obtain ⟨hin, q⟩ := q
    refine x_iald hx hb hX M ra_2 (inb_in hin) dX2_isAhead_18 ?_
    refine lv_topi (fun x_3 e_x_3 => ?_)
    replace q := nm_s q e_x_3
    refine lv_istore (lv' := [(4, .int x_3), (0, .ref a0), (1, .int x1), (2, .int x2), (3, .int x3)]) hx hb dX2_isAhead_19 hl (by decide) rfl (fun ls hl => ?_)
    refine lv_aload_n hx hb dX2_isAhead_21 rfl (lv_at hl 1 rfl) ?_
    replace q := nn_s q
    obtain ⟨a_4, e_a_4, q⟩ := q
    refine x_getR hx hb hown hX M e_a_4 okX2 ra0 (by decide) rfl kw_398 dX2_isAhead_22 (fun ra_4 => ?_)
    refine lv_iload_n hx hb dX2_isAhead_25 rfl (lv_at hl 3 rfl) ?_
    refine lv_bipush (v := 8) hx hb dX2_isAhead_26 (by decide) ?_
    refine lv_imul hx hb dX2_isAhead_28 ?_
    refine lv_iload_n hx hb dX2_isAhead_29 rfl (lv_at hl 4 rfl) ?_
    refine lv_iadd hx hb dX2_isAhead_30 ?_
    replace q := ck_s q
    obtain ⟨hin, q⟩ := q
    refine x_iald hx hb hX M ra_4 (inb_in hin) dX2_isAhead_31 ?_
    refine lv_topi (fun x_5 e_x_5 => ?_)
    replace q := nm_s q e_x_5
    refine lv_istore (lv' := [(5, .int x_5), (4, .int x_3), (0, .ref a0), (1, .int x1), (2, .int x2), (3, .int x3)]) hx hb dX2_isAhead_32 hl (by decide) rfl (fun ls hl => ?_)
    refine lv_iload hx hb dX2_isAhead_34 (lv_at hl 1 rfl) ?_
    refine lv_iload hx hb dX2_isAhead_36 (lv_at hl 0 rfl) ?_
    refine lv_icmp_eq (tgt := 60) hx hb dX2_isAhead_38 (by decide) (fun c_6 => ?_) (fun c_6 => ?_)
    · replace q := if_t c_6 q
      obtain ⟨x_7, e_x_7⟩ : ∃ y : Int32, y = x3 + 1 := ⟨_, rfl⟩
      replace q := nm_s q e_x_7
      refine lv_iinc (v := x_7) (lv' := [(3, .int x_7), (5, .int x_5), (4, .int x_3), (0, .ref a0), (1, .int x1), (2, .int x2)]) hx hb dX2_isAhead_60 hl (k := 5) rfl (by rw [e_x_7]; rfl) (by decide) rfl (fun ls hl => ?_)
      refine lv_goto (tgt := 2) hx hb dX2_isAhead_63 (by decide) ?_
      exact hk2 _ _ _ _ _ _ _ _ M ra0 (lv_sub hl [3, 4, 5, 0] rfl) q
    · replace q := if_f c_6 q
      refine lv_iload hx hb dX2_isAhead_41 (lv_at hl 1 rfl) ?_
      refine lv_ldc (v := -2147483648) hx hb hown (hX.hts _ _ (mw kw_530 rfl)) dX2_isAhead_43 ?_
      refine lv_ixor hx hb dX2_isAhead_45 ?_
      refine lv_iload hx hb dX2_isAhead_46 (lv_at hl 0 rfl) ?_
      refine lv_ldc (v := -2147483648) hx hb hown (hX.hts _ _ (mw kw_530 rfl)) dX2_isAhead_48 ?_
      refine lv_ixor hx hb dX2_isAhead_50 ?_
      refine lv_icmp_ge (tgt := 58) hx hb dX2_isAhead_51 (by decide) (fun c_8 => ?_) (fun c_8 => ?_)
      · replace q := if_t c_8 q
        refine lv_iconst (v := 0) hx hb dX2_isAhead_58 (by decide) ?_
        cases q
        exact x_zret hx hb hr hlk rfl M Ext.rf dX2_isAhead_59
      · replace q := if_f c_8 q
        refine lv_iconst (v := 1) hx hb dX2_isAhead_54 (by decide) ?_
        refine lv_goto (tgt := 59) hx hb dX2_isAhead_55 (by decide) ?_
        cases q
        exact x_zret hx hb hr hlk rfl M Ext.rf dX2_isAhead_59
set_option maxRecDepth 100000 in
theorem l_X2_isAhead_2 (hx : p.tables.exec = Jvm.exec) (hb : c.code = cX2_isAhead) (hml : c.maxLocals = 6) (hr : meth.sig.returnType = (some .boolean)) (hlk : meth.locks = false) (hown : s.vm.findClass RX2 = some m.cls) (hX : Kx D cA lo tS s) (hRf : 1 ≤ R.frames) (hRl : 60 ≤ R.locals) {N : Nat} {rv : Int32} {g1 : Hg} {S : Hs} : ∀ (n : Nat), ∀ (H : Heap) (locs : List Loc) (ls : Array Slot) (g : Hg) (a0 : Nat) (x1 : Int32) (x2 : Int32) (x3 : Int32), Mm D cA lo S g s H locs → Rf lo S a0 2 → lv_has ls 6 [(0, .ref a0), (1, .int x1), (2, .int x2), (3, .int x3)] → n_X2_isAhead_2 N S n g a0 x1 x2 x3 = some (rv, g1) → W p l e R s m args below meth c H locs 0 0 (MQ below (Qcx D cA lo S (some (.int rv)) S g1 True) args s 0 0 (fun q : Nat => lo ≤ q)) (F0 m 2 ls []) := by
  intro n
  induction n with
  | zero =>
    intro H locs ls g a0 x1 x2 x3 M ra0 hl q
    exact absurd q (by simp [n_X2_isAhead_2])
  | succ n ih => exact w_X2_isAhead_2 hx hb hml hr hlk hown hX hRf hRl (N := N)  ih
set_option maxHeartbeats 4000000 in
set_option maxRecDepth 100000 in
theorem w_X2_isAhead_0 (hx : p.tables.exec = Jvm.exec) (hb : c.code = cX2_isAhead) (hml : c.maxLocals = 6) (hr : meth.sig.returnType = (some .boolean)) (hlk : meth.locks = false) (hown : s.vm.findClass RX2 = some m.cls) (hX : Kx D cA lo tS s) (hRf : 1 ≤ R.frames) (hRl : 60 ≤ R.locals) {N : Nat} {rv : Int32} {g1 : Hg} {S : Hs} : ∀ (H : Heap) (locs : List Loc) (ls : Array Slot) (g : Hg) (a0 : Nat) (x1 : Int32) (x2 : Int32), Mm D cA lo S g s H locs → Rf lo S a0 2 → lv_has ls 6 [(0, .ref a0), (1, .int x1), (2, .int x2)] → b_X2_isAhead_0 N S g a0 x1 x2 = some (rv, g1) → W p l e R s m args below meth c H locs 0 0 (MQ below (Qcx D cA lo S (some (.int rv)) S g1 True) args s 0 0 (fun q : Nat => lo ≤ q)) (F0 m 0 ls []) := by
  intro H locs ls g a0 x1 x2 M ra0 hl q
  unfold b_X2_isAhead_0 at q
  refine lv_iconst (v := 0) hx hb dX2_isAhead_0 (by decide) ?_
  refine lv_istore_n (lv' := [(3, .int (0 : Int32)), (0, .ref a0), (1, .int x1), (2, .int x2)]) hx hb dX2_isAhead_1 rfl hl (by decide) rfl (fun ls hl => ?_)
  exact l_X2_isAhead_2 hx hb hml hr hlk hown hX hRf hRl (N := N)  N _ _ _ _ _ _ _ _ M ra0 (lv_sub hl [1, 2, 3, 0] rfl) q
set_option maxRecDepth 100000 in
theorem c_X2_isAhead {l : Launch} {D : va_G} {cA : Nat → ClassId} {lo tS N : Nat} {S : Hs} {g g1 : Hg} {rv : Int32} {a0 : Nat} {x1 : Int32} {x2 : Int32} (ra0 : Rf lo S a0 2) (q : f_X2_isAhead N S g a0 x1 x2 = some (rv, g1)) {d : Nat} (hd : 1 ≤ d) : Ctr l yX2_isAhead cX2_isAhead 6 (some .boolean) D cA lo tS [.ref a0, .int x1, .int x2] S g d (some (.int rv)) S g1 True 0 0 := by
  refine x_met (by decide) (Nat.le_of_ble_eq_true rfl) ?_
  intro p e s m below meth c ls hx hb hml hr hlk hown hnm hX M hl
  exact w_X2_isAhead_0 hx hb hml hr hlk hown hX hd (Nat.mul_le_mul_left 60 hd) (N := N) _ _ _ _ _ _ _ M ra0 (lv_sub hl [0, 1, 2] rfl) q
def b_X2_learn_99 (N : Nat) (S : Hs) (g : Hg) (a0 : Nat) (x4 : Int32) : Option (Int32 × Hg) :=
nn (rdR g a0 2) (fun a_1 =>
ck (inb x4 (hpL S a_1)) (
nm (wrI g a_1 x4.toNatClampNeg (rdI g a0 3)) (fun g_2 =>
nm (wrI g_2 a0 3 ((rdI g_2 a0 3) + (1 : Int32))) (fun g_3 =>
some (((rdI g_3 a0 3) - (1 : Int32)), g_3)))))
def b_X2_learn_52 (N : Nat) (S : Hs) (k52 : Hg → Nat → Int32 → Option (Int32 × Hg)) (g : Hg) (a0 : Nat) (x4 : Int32) : Option (Int32 × Hg) :=
if x4 ≤ 0 then (
b_X2_learn_99 N S g a0 x4) else (
nn (rdR g a0 2) (fun a_2 =>
ck (inb (x4 - (1 : Int32)) (hpL S a_2)) (
c2 (f_X2_isAhead N S g a0 (rdI g a0 3) (rdI g a_2 (x4 - (1 : Int32)).toNatClampNeg)) (fun x_4 g_3 =>
if x_4 = 0 then (
b_X2_learn_99 N S g_3 a0 x4) else (
nn (rdR g_3 a0 2) (fun a_6 =>
nn (rdR g_3 a0 2) (fun a_7 =>
ck (inb (x4 - (1 : Int32)) (hpL S a_7)) (
ck (inb x4 (hpL S a_6)) (
nm (wrI g_3 a_6 x4.toNatClampNeg (rdI g_3 a_7 (x4 - (1 : Int32)).toNatClampNeg)) (fun g_8 =>
nm (x4 + (-1)) (fun x_9 =>
k52 g_8 a0 x_9)))))))))))
def n_X2_learn_52 (N : Nat) (S : Hs) : Nat → Hg → Nat → Int32 → Option (Int32 × Hg)
  | 0 => fun _ _ _ => none
  | n + 1 => fun g a0 x4 => b_X2_learn_52 N S (n_X2_learn_52 N S n) g a0 x4
def b_X2_learn_0 (N : Nat) (S : Hs) (g : Hg) (a0 : Nat) (a1 : Nat) (x2 : Int32) : Option (Int32 × Hg) :=
c2 (f_X2_find N S g a0 x2) (fun x_2 g_1 =>
if x_2 = (-1 : Int32) then (
if (rdI g_1 a0 3) < (400 : Int32) then (
nn (rdR g_1 a0 0) (fun a_5 =>
ck (inb (rdI g_1 a0 3) (hpL S a_5)) (
nm (wrI g_1 a_5 (rdI g_1 a0 3).toNatClampNeg x2) (fun g_6 =>
nn (rdR g_6 a0 1) (fun a_7 =>
c2 (f_X6_wayOf N S g_6 a1 x2 a_7 (rdI g_6 a0 3)) (fun u_9 g_8 =>
nm (rdI g_8 a0 3) (fun x_10 =>
n_X2_learn_52 N S N g_8 a0 x_10))))))) else (
some (x_2, g_1))) else (
some (x_2, g_1)))
def f_X2_learn (N : Nat) (S : Hs) (g : Hg) (a0 : Nat) (a1 : Nat) (x2 : Int32) : Option (Int32 × Hg) := b_X2_learn_0 N S g a0 a1 x2
set_option maxHeartbeats 4000000 in
set_option maxRecDepth 100000 in
theorem w_X2_learn_99 (hx : p.tables.exec = Jvm.exec) (hb : c.code = cX2_learn) (hml : c.maxLocals = 5) (hr : meth.sig.returnType = (some .int)) (hlk : meth.locks = false) (hown : s.vm.findClass RX2 = some m.cls) (hX : Kx D cA lo tS s) (hRf : 4 ≤ R.frames) (hRl : 240 ≤ R.locals) {N : Nat} {rv : Int32} {g1 : Hg} {S : Hs} : ∀ (H : Heap) (locs : List Loc) (ls : Array Slot) (g : Hg) (a0 : Nat) (x4 : Int32), Mm D cA lo S g s H locs → Rf lo S a0 2 → lv_has ls 5 [(0, .ref a0), (4, .int x4)] → b_X2_learn_99 N S g a0 x4 = some (rv, g1) → W p l e R s m args below meth c H locs 0 0 (MQ below (Qcx D cA lo S (some (.int rv)) S g1 True) args s 0 0 (fun q : Nat => lo ≤ q)) (F0 m 99 ls []) := by
  intro H locs ls g a0 x4 M ra0 hl q
  unfold b_X2_learn_99 at q
  refine lv_aload_n hx hb dX2_learn_99 rfl (lv_at hl 0 rfl) ?_
  replace q := nn_s q
  obtain ⟨a_1, e_a_1, q⟩ := q
  refine x_getR hx hb hown hX M e_a_1 okX2 ra0 (by decide) rfl kw_400 dX2_learn_100 (fun ra_1 => ?_)
  refine lv_iload hx hb dX2_learn_103 (lv_at hl 1 rfl) ?_
  refine lv_aload_n hx hb dX2_learn_105 rfl (lv_at hl 0 rfl) ?_
  refine x_getI hx hb hown hX M (k := 3) okX2 ra0 (by decide) rfl kw_402 dX2_learn_106 ?_
  replace q := ck_s q
  obtain ⟨hin, q⟩ := q
  refine x_iast hx hb hX M ra_1 (inb_in hin) dX2_learn_109 (fun H locs M => ?_)
  replace q := gen_g M q
  obtain ⟨g_2, -, M, q⟩ := q
  refine lv_aload_n hx hb dX2_learn_110 rfl (lv_at hl 0 rfl) ?_
  refine lv_dup hx hb dX2_learn_111 rfl ?_
  refine x_getI hx hb hown hX M (k := 3) okX2 ra0 (by decide) rfl kw_402 dX2_learn_112 ?_
  refine lv_iconst (v := 1) hx hb dX2_learn_115 (by decide) ?_
  refine lv_iadd hx hb dX2_learn_116 ?_
  refine x_putI hx hb hown hX M (k := 3) okX2 ra0 (by decide) rfl (Or.inl rfl) rfl rfl kw_402 dX2_learn_117 (fun H locs M => ?_)
  replace q := gen_g M q
  obtain ⟨g_3, -, M, q⟩ := q
  refine lv_aload_n hx hb dX2_learn_120 rfl (lv_at hl 0 rfl) ?_
  refine x_getI hx hb hown hX M (k := 3) okX2 ra0 (by decide) rfl kw_402 dX2_learn_121 ?_
  refine lv_iconst (v := 1) hx hb dX2_learn_124 (by decide) ?_
  refine lv_isub hx hb dX2_learn_125 ?_
  cases q
  exact x_iret hx hb hr hlk M Ext.rf dX2_learn_126
set_option maxHeartbeats 4000000 in
set_option maxRecDepth 100000 in
theorem w_X2_learn_52 (hx : p.tables.exec = Jvm.exec) (hb : c.code = cX2_learn) (hml : c.maxLocals = 5) (hr : meth.sig.returnType = (some .int)) (hlk : meth.locks = false) (hown : s.vm.findClass RX2 = some m.cls) (hX : Kx D cA lo tS s) (hRf : 4 ≤ R.frames) (hRl : 240 ≤ R.locals) {N : Nat} {rv : Int32} {g1 : Hg} {S : Hs} {k52 : Hg → Nat → Int32 → Option (Int32 × Hg)} (hk52 : ∀ (H : Heap) (locs : List Loc) (ls : Array Slot) (g : Hg) (a0 : Nat) (x4 : Int32), Mm D cA lo S g s H locs → Rf lo S a0 2 → lv_has ls 5 [(0, .ref a0), (4, .int x4)] → k52 g a0 x4 = some (rv, g1) → W p l e R s m args below meth c H locs 0 0 (MQ below (Qcx D cA lo S (some (.int rv)) S g1 True) args s 0 0 (fun q : Nat => lo ≤ q)) (F0 m 52 ls [])) : ∀ (H : Heap) (locs : List Loc) (ls : Array Slot) (g : Hg) (a0 : Nat) (x4 : Int32), Mm D cA lo S g s H locs → Rf lo S a0 2 → lv_has ls 5 [(0, .ref a0), (4, .int x4)] → b_X2_learn_52 N S k52 g a0 x4 = some (rv, g1) → W p l e R s m args below meth c H locs 0 0 (MQ below (Qcx D cA lo S (some (.int rv)) S g1 True) args s 0 0 (fun q : Nat => lo ≤ q)) (F0 m 52 ls []) := by
  intro H locs ls g a0 x4 M ra0 hl q
  unfold b_X2_learn_52 at q
  refine lv_iload hx hb dX2_learn_52 (lv_at hl 1 rfl) ?_
  refine lv_if_le (tgt := 99) hx hb dX2_learn_54 (by decide) (fun c_1 => ?_) (fun c_1 => ?_)
  · replace q := if_t c_1 q
    exact w_X2_learn_99 hx hb hml hr hlk hown hX hRf hRl (N := N)  _ _ _ _ _ _ M ra0 (lv_sub hl [0, 1] rfl) q
  · replace q := if_f c_1 q
    refine lv_aload_n hx hb dX2_learn_57 rfl (lv_at hl 0 rfl) ?_
    refine lv_aload_n hx hb dX2_learn_58 rfl (lv_at hl 0 rfl) ?_
    refine x_getI hx hb hown hX M (k := 3) okX2 ra0 (by decide) rfl kw_402 dX2_learn_59 ?_
    refine lv_aload_n hx hb dX2_learn_62 rfl (lv_at hl 0 rfl) ?_
    replace q := nn_s q
    obtain ⟨a_2, e_a_2, q⟩ := q
    refine x_getR hx hb hown hX M e_a_2 okX2 ra0 (by decide) rfl kw_400 dX2_learn_63 (fun ra_2 => ?_)
    refine lv_iload hx hb dX2_learn_66 (lv_at hl 1 rfl) ?_
    refine lv_iconst (v := 1) hx hb dX2_learn_68 (by decide) ?_
    refine lv_isub hx hb dX2_learn_69 ?_
    replace q := ck_s q
    obtain ⟨hin, q⟩ := q
    refine x_iald hx hb hX M ra_2 (inb_in hin) dX2_learn_70 ?_
    replace q := c2_s q
    obtain ⟨x_4, g_3, qc, q⟩ := q
    refine x_callV hx hb hml hl.1 hown hX M (S1 := S) (As := [.int (rdI g a0 3), .int (rdI g a_2 (x4 - (1 : Int32)).toNatClampNeg)]) (rest := []) okX2 ra0 rfl kw_528 kw_2 mok_X2_isAhead (c_X2_isAhead ra0 qc (Nat.le_refl 1)) kw_526 rfl rfl dX2_learn_71 (Nat.le_of_ble_eq_true rfl) ⟨Nat.le_trans (by decide) hRf, Nat.le_trans (by decide) hRl⟩ (Nat.zero_le _) (Nat.zero_le _) (fun H locs M hEF => ?_)
    refine lv_if_eq (tgt := 99) hx hb dX2_learn_74 (by decide) (fun c_5 => ?_) (fun c_5 => ?_)
    · replace q := if_t c_5 q
      exact w_X2_learn_99 hx hb hml hr hlk hown hX hRf hRl (N := N)  _ _ _ _ _ _ M ra0 (lv_sub hl [0, 1] rfl) q
    · replace q := if_f c_5 q
      refine lv_aload_n hx hb dX2_learn_77 rfl (lv_at hl 0 rfl) ?_
      replace q := nn_s q
      obtain ⟨a_6, e_a_6, q⟩ := q
      refine x_getR hx hb hown hX M e_a_6 okX2 ra0 (by decide) rfl kw_400 dX2_learn_78 (fun ra_6 => ?_)
      refine lv_iload hx hb dX2_learn_81 (lv_at hl 1 rfl) ?_
      refine lv_aload_n hx hb dX2_learn_83 rfl (lv_at hl 0 rfl) ?_
      replace q := nn_s q
      obtain ⟨a_7, e_a_7, q⟩ := q
      refine x_getR hx hb hown hX M e_a_7 okX2 ra0 (by decide) rfl kw_400 dX2_learn_84 (fun ra_7 => ?_)
      refine lv_iload hx hb dX2_learn_87 (lv_at hl 1 rfl) ?_
      refine lv_iconst (v := 1) hx hb dX2_learn_89 (by decide) ?_
      refine lv_isub hx hb dX2_learn_90 ?_
      replace q := ck_s q
      obtain ⟨hin, q⟩ := q
      refine x_iald hx hb hX M ra_7 (inb_in hin) dX2_learn_91 ?_
      replace q := ck_s q
      obtain ⟨hin, q⟩ := q
      refine x_iast hx hb hX M ra_6 (inb_in hin) dX2_learn_92 (fun H locs M => ?_)
      replace q := gen_g M q
      obtain ⟨g_8, -, M, q⟩ := q
      obtain ⟨x_9, e_x_9⟩ : ∃ y : Int32, y = x4 + (-1) := ⟨_, rfl⟩
      replace q := nm_s q e_x_9
      refine lv_iinc (v := x_9) (lv' := [(4, .int x_9), (0, .ref a0)]) hx hb dX2_learn_93 hl (k := 1) rfl (by rw [e_x_9]; rfl) (by decide) rfl (fun ls hl => ?_)
      refine lv_goto (tgt := 52) hx hb dX2_learn_96 (by decide) ?_
      exact hk52 _ _ _ _ _ _ M ra0 (lv_sub hl [1, 0] rfl) q
set_option maxRecDepth 100000 in
theorem l_X2_learn_52 (hx : p.tables.exec = Jvm.exec) (hb : c.code = cX2_learn) (hml : c.maxLocals = 5) (hr : meth.sig.returnType = (some .int)) (hlk : meth.locks = false) (hown : s.vm.findClass RX2 = some m.cls) (hX : Kx D cA lo tS s) (hRf : 4 ≤ R.frames) (hRl : 240 ≤ R.locals) {N : Nat} {rv : Int32} {g1 : Hg} {S : Hs} : ∀ (n : Nat), ∀ (H : Heap) (locs : List Loc) (ls : Array Slot) (g : Hg) (a0 : Nat) (x4 : Int32), Mm D cA lo S g s H locs → Rf lo S a0 2 → lv_has ls 5 [(0, .ref a0), (4, .int x4)] → n_X2_learn_52 N S n g a0 x4 = some (rv, g1) → W p l e R s m args below meth c H locs 0 0 (MQ below (Qcx D cA lo S (some (.int rv)) S g1 True) args s 0 0 (fun q : Nat => lo ≤ q)) (F0 m 52 ls []) := by
  intro n
  induction n with
  | zero =>
    intro H locs ls g a0 x4 M ra0 hl q
    exact absurd q (by simp [n_X2_learn_52])
  | succ n ih => exact w_X2_learn_52 hx hb hml hr hlk hown hX hRf hRl (N := N)  ih
set_option maxHeartbeats 4000000 in
set_option maxRecDepth 100000 in
theorem w_X2_learn_0 (hx : p.tables.exec = Jvm.exec) (hb : c.code = cX2_learn) (hml : c.maxLocals = 5) (hr : meth.sig.returnType = (some .int)) (hlk : meth.locks = false) (hown : s.vm.findClass RX2 = some m.cls) (hX : Kx D cA lo tS s) (hRf : 4 ≤ R.frames) (hRl : 240 ≤ R.locals) {N : Nat} {rv : Int32} {g1 : Hg} {S : Hs} : ∀ (H : Heap) (locs : List Loc) (ls : Array Slot) (g : Hg) (a0 : Nat) (a1 : Nat) (x2 : Int32), Mm D cA lo S g s H locs → Rf lo S a0 2 → Rf lo S a1 6 → lv_has ls 5 [(0, .ref a0), (1, .ref a1), (2, .int x2)] → b_X2_learn_0 N S g a0 a1 x2 = some (rv, g1) → W p l e R s m args below meth c H locs 0 0 (MQ below (Qcx D cA lo S (some (.int rv)) S g1 True) args s 0 0 (fun q : Nat => lo ≤ q)) (F0 m 0 ls []) := by
  intro H locs ls g a0 a1 x2 M ra0 ra1 hl q
  unfold b_X2_learn_0 at q
  refine lv_aload_n hx hb dX2_learn_0 rfl (lv_at hl 0 rfl) ?_
  refine lv_iload_n hx hb dX2_learn_1 rfl (lv_at hl 2 rfl) ?_
  replace q := c2_s q
  obtain ⟨x_2, g_1, qc, q⟩ := q
  refine x_callV hx hb hml hl.1 hown hX M (S1 := S) (As := [.int x2]) (rest := []) okX2 ra0 rfl kw_507 kw_508 mok_X2_find (c_X2_find ra0 qc (Nat.le_refl 1)) kw_506 rfl rfl dX2_learn_2 (Nat.le_of_ble_eq_true rfl) ⟨Nat.le_trans (by decide) hRf, Nat.le_trans (by decide) hRl⟩ (Nat.zero_le _) (Nat.zero_le _) (fun H locs M hEF => ?_)
  refine lv_istore_n (lv' := [(3, .int x_2), (0, .ref a0), (1, .ref a1), (2, .int x2)]) hx hb dX2_learn_5 rfl hl (by decide) rfl (fun ls hl => ?_)
  refine lv_iload_n hx hb dX2_learn_6 rfl (lv_at hl 0 rfl) ?_
  refine lv_iconst (v := -1) hx hb dX2_learn_7 (by decide) ?_
  refine lv_icmp_ne (tgt := 21) hx hb dX2_learn_8 (by decide) (fun c_3 => ?_) (fun c_3 => ?_)
  · replace q := if_f c_3 q
    refine lv_iload_n hx hb dX2_learn_21 rfl (lv_at hl 0 rfl) ?_
    cases q
    exact x_iret hx hb hr hlk M Ext.rf dX2_learn_22
  · replace q := if_t c_3 q
    refine lv_aload_n hx hb dX2_learn_11 rfl (lv_at hl 1 rfl) ?_
    refine x_getI hx hb hown hX M (k := 3) okX2 ra0 (by decide) rfl kw_402 dX2_learn_12 ?_
    refine lv_sipush (v := 400) hx hb dX2_learn_15 (by decide) ?_
    refine lv_icmp_lt (tgt := 23) hx hb dX2_learn_18 (by decide) (fun c_4 => ?_) (fun c_4 => ?_)
    · replace q := if_t c_4 q
      refine lv_aload_n hx hb dX2_learn_23 rfl (lv_at hl 1 rfl) ?_
      replace q := nn_s q
      obtain ⟨a_5, e_a_5, q⟩ := q
      refine x_getR hx hb hown hX M e_a_5 okX2 ra0 (by decide) rfl kw_397 dX2_learn_24 (fun ra_5 => ?_)
      refine lv_aload_n hx hb dX2_learn_27 rfl (lv_at hl 1 rfl) ?_
      refine x_getI hx hb hown hX M (k := 3) okX2 ra0 (by decide) rfl kw_402 dX2_learn_28 ?_
      refine lv_iload_n hx hb dX2_learn_31 rfl (lv_at hl 3 rfl) ?_
      replace q := ck_s q
      obtain ⟨hin, q⟩ := q
      refine x_iast hx hb hX M ra_5 (inb_in hin) dX2_learn_32 (fun H locs M => ?_)
      replace q := gen_g M q
      obtain ⟨g_6, -, M, q⟩ := q
      refine lv_aload_n hx hb dX2_learn_33 rfl (lv_at hl 2 rfl) ?_
      refine lv_iload_n hx hb dX2_learn_34 rfl (lv_at hl 3 rfl) ?_
      refine lv_aload_n hx hb dX2_learn_35 rfl (lv_at hl 1 rfl) ?_
      replace q := nn_s q
      obtain ⟨a_7, e_a_7, q⟩ := q
      refine x_getR hx hb hown hX M e_a_7 okX2 ra0 (by decide) rfl kw_398 dX2_learn_36 (fun ra_7 => ?_)
      refine lv_aload_n hx hb dX2_learn_39 rfl (lv_at hl 1 rfl) ?_
      refine x_getI hx hb hown hX M (k := 3) okX2 ra0 (by decide) rfl kw_402 dX2_learn_40 ?_
      replace q := c2_s q
      obtain ⟨u_9, g_8, qc, q⟩ := q
      refine x_callV hx hb hml hl.1 hown hX M (S1 := S) (As := [.int x2, .ref a_7, .int (rdI g_6 a0 3)]) (rest := []) okX6 ra1 rfl kw_511 kw_512 mok_X6_wayOf (c_X6_wayOf ra1 ra_7 qc (Nat.le_refl 3)) kw_510 rfl rfl dX2_learn_43 (Nat.le_of_ble_eq_true rfl) ⟨Nat.le_trans (by decide) hRf, Nat.le_trans (by decide) hRl⟩ (Nat.zero_le _) (Nat.zero_le _) (fun H locs M hEF => ?_)
      refine lv_aload_n hx hb dX2_learn_46 rfl (lv_at hl 1 rfl) ?_
      refine x_getI hx hb hown hX M (k := 3) okX2 ra0 (by decide) rfl kw_402 dX2_learn_47 ?_
      refine lv_topi (fun x_10 e_x_10 => ?_)
      replace q := nm_s q e_x_10
      refine lv_istore (lv' := [(4, .int x_10), (3, .int x_2), (0, .ref a0), (1, .ref a1), (2, .int x2)]) hx hb dX2_learn_50 hl (by decide) rfl (fun ls hl => ?_)
      exact l_X2_learn_52 hx hb hml hr hlk hown hX hRf hRl (N := N)  N _ _ _ _ _ _ M ra0 (lv_sub hl [2, 0] rfl) q
    · replace q := if_f c_4 q
      refine lv_iload_n hx hb dX2_learn_21 rfl (lv_at hl 0 rfl) ?_
      cases q
      exact x_iret hx hb hr hlk M Ext.rf dX2_learn_22
set_option maxRecDepth 100000 in
theorem c_X2_learn {l : Launch} {D : va_G} {cA : Nat → ClassId} {lo tS N : Nat} {S : Hs} {g g1 : Hg} {rv : Int32} {a0 : Nat} {a1 : Nat} {x2 : Int32} (ra0 : Rf lo S a0 2) (ra1 : Rf lo S a1 6) (q : f_X2_learn N S g a0 a1 x2 = some (rv, g1)) {d : Nat} (hd : 4 ≤ d) : Ctr l yX2_learn cX2_learn 5 (some .int) D cA lo tS [.ref a0, .ref a1, .int x2] S g d (some (.int rv)) S g1 True 0 0 := by
  refine x_met (by decide) (Nat.le_of_ble_eq_true rfl) ?_
  intro p e s m below meth c ls hx hb hml hr hlk hown hnm hX M hl
  exact w_X2_learn_0 hx hb hml hr hlk hown hX hd (Nat.mul_le_mul_left 60 hd) (N := N) _ _ _ _ _ _ _ M ra0 ra1 (lv_sub hl [0, 1, 2] rfl) q
def b_X3_joinFullBlocks_2 (N : Nat) (S : Hs) (k2 : Hg → Nat → Nat → Int32 → Option (Unit × Hg)) (g : Hg) (a0 : Nat) (a1 : Nat) (x2 : Int32) : Option (Unit × Hg) :=
if (9 : Int32) ≤ x2 then (
some ((), g)) else (
ck (decide (¬ ((1 : Int32) <<< (x2 &&& 31)) = 0)) (
if ((rdI g a0 7) - (rdI g a0 7) / ((1 : Int32) <<< (x2 &&& 31)) * ((1 : Int32) <<< (x2 &&& 31))) = 0 then (
nm (((rdI g a0 7) >>> (x2 &&& 31)) - (1 : Int32)) (fun x_3 =>
ck (inb (x2 - (1 : Int32)) 9) (
nm ((lvT (x2 - (1 : Int32)).toNatClampNeg) + ((2 : Int32) * x_3)) (fun x_4 =>
nn (rdR g a0 5) (fun a_5 =>
nn (rdR g a0 5) (fun a_6 =>
nn (rdR g a0 5) (fun a_7 =>
ck (inb x2 9) (
c2 (f_X6_join N S g a1 a_5 x_4 a_6 (x_4 + (1 : Int32)) a_7 ((lvT x2.toNatClampNeg) + x_3)) (fun u_9 g_8 =>
nm (x2 + 1) (fun x_10 =>
k2 g_8 a0 a1 x_10)))))))))) else (
some ((), g))))
def n_X3_joinFullBlocks_2 (N : Nat) (S : Hs) : Nat → Hg → Nat → Nat → Int32 → Option (Unit × Hg)
  | 0 => fun _ _ _ _ => none
  | n + 1 => fun g a0 a1 x2 => b_X3_joinFullBlocks_2 N S (n_X3_joinFullBlocks_2 N S n) g a0 a1 x2
def b_X3_joinFullBlocks_0 (N : Nat) (S : Hs) (g : Hg) (a0 : Nat) (a1 : Nat) : Option (Unit × Hg) :=
n_X3_joinFullBlocks_2 N S N g a0 a1 (1 : Int32)
def f_X3_joinFullBlocks (N : Nat) (S : Hs) (g : Hg) (a0 : Nat) (a1 : Nat) : Option (Unit × Hg) := b_X3_joinFullBlocks_0 N S g a0 a1
set_option maxHeartbeats 4000000 in
set_option maxRecDepth 100000 in
theorem w_X3_joinFullBlocks_2 (hx : p.tables.exec = Jvm.exec) (hb : c.code = cX3_joinFullBlocks) (hml : c.maxLocals = 5) (hr : meth.sig.returnType = none) (hlk : meth.locks = false) (hown : s.vm.findClass RX3 = some m.cls) (hX : Kx D cA lo tS s) (hRf : 4 ≤ R.frames) (hRl : 240 ≤ R.locals) {N : Nat} {rv : Unit} {g1 : Hg} {S : Hs} {k2 : Hg → Nat → Nat → Int32 → Option (Unit × Hg)} (hk2 : ∀ (H : Heap) (locs : List Loc) (ls : Array Slot) (g : Hg) (a0 : Nat) (a1 : Nat) (x2 : Int32), Mm D cA lo S g s H locs → Rf lo S a0 3 → Rf lo S a1 6 → lv_has ls 5 [(0, .ref a0), (1, .ref a1), (2, .int x2)] → k2 g a0 a1 x2 = some (rv, g1) → W p l e R s m args below meth c H locs 0 0 (MQ below (Qcx D cA lo S none S g1 True) args s 0 0 (fun q : Nat => lo ≤ q)) (F0 m 2 ls [])) : ∀ (H : Heap) (locs : List Loc) (ls : Array Slot) (g : Hg) (a0 : Nat) (a1 : Nat) (x2 : Int32), Mm D cA lo S g s H locs → Rf lo S a0 3 → Rf lo S a1 6 → lv_has ls 5 [(0, .ref a0), (1, .ref a1), (2, .int x2)] → b_X3_joinFullBlocks_2 N S k2 g a0 a1 x2 = some (rv, g1) → W p l e R s m args below meth c H locs 0 0 (MQ below (Qcx D cA lo S none S g1 True) args s 0 0 (fun q : Nat => lo ≤ q)) (F0 m 2 ls []) := by
  intro H locs ls g a0 a1 x2 M ra0 ra1 hl q
  unfold b_X3_joinFullBlocks_2 at q
  refine lv_iload_n hx hb dX3_joinFullBlocks_2 rfl (lv_at hl 2 rfl) ?_
  refine lv_bipush (v := 9) hx hb dX3_joinFullBlocks_3 (by decide) ?_
  refine lv_icmp_ge (tgt := 76) hx hb dX3_joinFullBlocks_5 (by decide) (fun c_1 => ?_) (fun c_1 => ?_)
  · replace q := if_t c_1 q
    cases q
    exact x_vret hx hb hr hlk M Ext.rf dX3_joinFullBlocks_76
  · replace q := if_f c_1 q
    refine lv_aload_n hx hb dX3_joinFullBlocks_8 rfl (lv_at hl 0 rfl) ?_
    refine x_getI hx hb hown hX M (k := 7) okX3 ra0 (by decide) rfl kw_457 dX3_joinFullBlocks_9 ?_
    refine lv_iconst (v := 1) hx hb dX3_joinFullBlocks_12 (by decide) ?_
    refine lv_iload_n hx hb dX3_joinFullBlocks_13 rfl (lv_at hl 2 rfl) ?_
    refine lv_ishl hx hb dX3_joinFullBlocks_14 ?_
    replace q := ck_s q
    obtain ⟨hz, q⟩ := q
    refine lv_irem hx hb dX3_joinFullBlocks_15 (of_decide_eq_true hz) ?_
    refine lv_if_ne (tgt := 76) hx hb dX3_joinFullBlocks_16 (by decide) (fun c_2 => ?_) (fun c_2 => ?_)
    · replace q := if_f c_2 q
      cases q
      exact x_vret hx hb hr hlk M Ext.rf dX3_joinFullBlocks_76
    · replace q := if_t c_2 q
      refine lv_aload_n hx hb dX3_joinFullBlocks_19 rfl (lv_at hl 0 rfl) ?_
      refine x_getI hx hb hown hX M (k := 7) okX3 ra0 (by decide) rfl kw_457 dX3_joinFullBlocks_20 ?_
      refine lv_iload_n hx hb dX3_joinFullBlocks_23 rfl (lv_at hl 2 rfl) ?_
      refine lv_ishr hx hb dX3_joinFullBlocks_24 ?_
      refine lv_iconst (v := 1) hx hb dX3_joinFullBlocks_25 (by decide) ?_
      refine lv_isub hx hb dX3_joinFullBlocks_26 ?_
      refine lv_topi (fun x_3 e_x_3 => ?_)
      replace q := nm_s q e_x_3
      refine lv_istore_n (lv' := [(3, .int x_3), (0, .ref a0), (1, .ref a1), (2, .int x2)]) hx hb dX3_joinFullBlocks_27 rfl hl (by decide) rfl (fun ls hl => ?_)
      refine x_gets hx hb hown hX M kw_539 dX3_joinFullBlocks_28 ?_
      refine lv_iload_n hx hb dX3_joinFullBlocks_31 rfl (lv_at hl 3 rfl) ?_
      refine lv_iconst (v := 1) hx hb dX3_joinFullBlocks_32 (by decide) ?_
      refine lv_isub hx hb dX3_joinFullBlocks_33 ?_
      replace q := ck_s q
      obtain ⟨hin, q⟩ := q
      refine x_tbl hx hb hX M (inb_in hin) dX3_joinFullBlocks_34 ?_
      refine lv_iconst (v := 2) hx hb dX3_joinFullBlocks_35 (by decide) ?_
      refine lv_iload_n hx hb dX3_joinFullBlocks_36 rfl (lv_at hl 0 rfl) ?_
      refine lv_imul hx hb dX3_joinFullBlocks_37 ?_
      refine lv_iadd hx hb dX3_joinFullBlocks_38 ?_
      refine lv_topi (fun x_4 e_x_4 => ?_)
      replace q := nm_s q e_x_4
      refine lv_istore (lv' := [(4, .int x_4), (3, .int x_3), (0, .ref a0), (1, .ref a1), (2, .int x2)]) hx hb dX3_joinFullBlocks_39 hl (by decide) rfl (fun ls hl => ?_)
      refine lv_aload_n hx hb dX3_joinFullBlocks_41 rfl (lv_at hl 3 rfl) ?_
      refine lv_aload_n hx hb dX3_joinFullBlocks_42 rfl (lv_at hl 2 rfl) ?_
      replace q := nn_s q
      obtain ⟨a_5, e_a_5, q⟩ := q
      refine x_getR hx hb hown hX M e_a_5 okX3 ra0 (by decide) rfl kw_453 dX3_joinFullBlocks_43 (fun ra_5 => ?_)
      refine lv_iload hx hb dX3_joinFullBlocks_46 (lv_at hl 0 rfl) ?_
      refine lv_aload_n hx hb dX3_joinFullBlocks_48 rfl (lv_at hl 2 rfl) ?_
      replace q := nn_s q
      obtain ⟨a_6, e_a_6, q⟩ := q
      refine x_getR hx hb hown hX M e_a_6 okX3 ra0 (by decide) rfl kw_453 dX3_joinFullBlocks_49 (fun ra_6 => ?_)
      refine lv_iload hx hb dX3_joinFullBlocks_52 (lv_at hl 0 rfl) ?_
      refine lv_iconst (v := 1) hx hb dX3_joinFullBlocks_54 (by decide) ?_
      refine lv_iadd hx hb dX3_joinFullBlocks_55 ?_
      refine lv_aload_n hx hb dX3_joinFullBlocks_56 rfl (lv_at hl 2 rfl) ?_
      replace q := nn_s q
      obtain ⟨a_7, e_a_7, q⟩ := q
      refine x_getR hx hb hown hX M e_a_7 okX3 ra0 (by decide) rfl kw_453 dX3_joinFullBlocks_57 (fun ra_7 => ?_)
      refine x_gets hx hb hown hX M kw_539 dX3_joinFullBlocks_60 ?_
      refine lv_iload_n hx hb dX3_joinFullBlocks_63 rfl (lv_at hl 4 rfl) ?_
      replace q := ck_s q
      obtain ⟨hin, q⟩ := q
      refine x_tbl hx hb hX M (inb_in hin) dX3_joinFullBlocks_64 ?_
      refine lv_iload_n hx hb dX3_joinFullBlocks_65 rfl (lv_at hl 1 rfl) ?_
      refine lv_iadd hx hb dX3_joinFullBlocks_66 ?_
      replace q := c2_s q
      obtain ⟨u_9, g_8, qc, q⟩ := q
      refine x_callV hx hb hml hl.1 hown hX M (S1 := S) (As := [.ref a_5, .int x_4, .ref a_6, .int (x_4 + (1 : Int32)), .ref a_7, .int ((lvT x2.toNatClampNeg) + x_3)]) (rest := []) okX6 ra1 rfl kw_542 kw_543 mok_X6_join (c_X6_join ra1 ra_5 ra_6 ra_7 qc (Nat.le_refl 3)) kw_541 rfl rfl dX3_joinFullBlocks_67 (Nat.le_of_ble_eq_true rfl) ⟨Nat.le_trans (by decide) hRf, Nat.le_trans (by decide) hRl⟩ (Nat.zero_le _) (Nat.zero_le _) (fun H locs M hEF => ?_)
      obtain ⟨x_10, e_x_10⟩ : ∃ y : Int32, y = x2 + 1 := ⟨_, rfl⟩
      replace q := nm_s q e_x_10
      refine lv_iinc (v := x_10) (lv' := [(2, .int x_10), (4, .int x_4), (3, .int x_3), (0, .ref a0), (1, .ref a1)]) hx hb dX3_joinFullBlocks_70 hl (k := 4) rfl (by rw [e_x_10]; rfl) (by decide) rfl (fun ls hl => ?_)
      refine lv_goto (tgt := 2) hx hb dX3_joinFullBlocks_73 (by decide) ?_
      exact hk2 _ _ _ _ _ _ _ M ra0 ra1 (lv_sub hl [3, 4, 0] rfl) q
set_option maxRecDepth 100000 in
theorem l_X3_joinFullBlocks_2 (hx : p.tables.exec = Jvm.exec) (hb : c.code = cX3_joinFullBlocks) (hml : c.maxLocals = 5) (hr : meth.sig.returnType = none) (hlk : meth.locks = false) (hown : s.vm.findClass RX3 = some m.cls) (hX : Kx D cA lo tS s) (hRf : 4 ≤ R.frames) (hRl : 240 ≤ R.locals) {N : Nat} {rv : Unit} {g1 : Hg} {S : Hs} : ∀ (n : Nat), ∀ (H : Heap) (locs : List Loc) (ls : Array Slot) (g : Hg) (a0 : Nat) (a1 : Nat) (x2 : Int32), Mm D cA lo S g s H locs → Rf lo S a0 3 → Rf lo S a1 6 → lv_has ls 5 [(0, .ref a0), (1, .ref a1), (2, .int x2)] → n_X3_joinFullBlocks_2 N S n g a0 a1 x2 = some (rv, g1) → W p l e R s m args below meth c H locs 0 0 (MQ below (Qcx D cA lo S none S g1 True) args s 0 0 (fun q : Nat => lo ≤ q)) (F0 m 2 ls []) := by
  intro n
  induction n with
  | zero =>
    intro H locs ls g a0 a1 x2 M ra0 ra1 hl q
    exact absurd q (by simp [n_X3_joinFullBlocks_2])
  | succ n ih => exact w_X3_joinFullBlocks_2 hx hb hml hr hlk hown hX hRf hRl (N := N)  ih
set_option maxHeartbeats 4000000 in
set_option maxRecDepth 100000 in
theorem w_X3_joinFullBlocks_0 (hx : p.tables.exec = Jvm.exec) (hb : c.code = cX3_joinFullBlocks) (hml : c.maxLocals = 5) (hr : meth.sig.returnType = none) (hlk : meth.locks = false) (hown : s.vm.findClass RX3 = some m.cls) (hX : Kx D cA lo tS s) (hRf : 4 ≤ R.frames) (hRl : 240 ≤ R.locals) {N : Nat} {rv : Unit} {g1 : Hg} {S : Hs} : ∀ (H : Heap) (locs : List Loc) (ls : Array Slot) (g : Hg) (a0 : Nat) (a1 : Nat), Mm D cA lo S g s H locs → Rf lo S a0 3 → Rf lo S a1 6 → lv_has ls 5 [(0, .ref a0), (1, .ref a1)] → b_X3_joinFullBlocks_0 N S g a0 a1 = some (rv, g1) → W p l e R s m args below meth c H locs 0 0 (MQ below (Qcx D cA lo S none S g1 True) args s 0 0 (fun q : Nat => lo ≤ q)) (F0 m 0 ls []) := by
  intro H locs ls g a0 a1 M ra0 ra1 hl q
  unfold b_X3_joinFullBlocks_0 at q
  refine lv_iconst (v := 1) hx hb dX3_joinFullBlocks_0 (by decide) ?_
  refine lv_istore_n (lv' := [(2, .int (1 : Int32)), (0, .ref a0), (1, .ref a1)]) hx hb dX3_joinFullBlocks_1 rfl hl (by decide) rfl (fun ls hl => ?_)
  exact l_X3_joinFullBlocks_2 hx hb hml hr hlk hown hX hRf hRl (N := N)  N _ _ _ _ _ _ _ M ra0 ra1 (lv_sub hl [1, 2, 0] rfl) q
set_option maxRecDepth 100000 in
theorem c_X3_joinFullBlocks {l : Launch} {D : va_G} {cA : Nat → ClassId} {lo tS N : Nat} {S : Hs} {g g1 : Hg} {rv : Unit} {a0 : Nat} {a1 : Nat} (ra0 : Rf lo S a0 3) (ra1 : Rf lo S a1 6) (q : f_X3_joinFullBlocks N S g a0 a1 = some (rv, g1)) {d : Nat} (hd : 4 ≤ d) : Ctr l yX3_joinFullBlocks cX3_joinFullBlocks 5 none D cA lo tS [.ref a0, .ref a1] S g d none S g1 True 0 0 := by
  refine x_met (by decide) (Nat.le_of_ble_eq_true rfl) ?_
  intro p e s m below meth c ls hx hb hml hr hlk hown hnm hX M hl
  exact w_X3_joinFullBlocks_0 hx hb hml hr hlk hown hX hd (Nat.mul_le_mul_left 60 hd) (N := N) _ _ _ _ _ _ M ra0 ra1 (lv_sub hl [0, 1] rfl) q
def b_X6_sumOfEntry_0 (N : Nat) (S : Hs) (g : Hg) (a0 : Nat) (x1 : Int32) (y2 : Int64) (a4 : Nat) (x5 : Int32) : Option (Unit × Hg) :=
nn (rdR g a0 0) (fun a_1 =>
ck (inb (0 : Int32) (hpL S a_1)) (
nm (wrI g a_1 (0 : Int32).toNatClampNeg (1 : Int32)) (fun g_2 =>
nn (rdR g_2 a0 0) (fun a_3 =>
ck (inb (1 : Int32) (hpL S a_3)) (
nm (wrI g_2 a_3 (1 : Int32).toNatClampNeg x1) (fun g_4 =>
nn (rdR g_4 a0 0) (fun a_5 =>
ck (inb (2 : Int32) (hpL S a_5)) (
nm (wrI g_4 a_5 (2 : Int32).toNatClampNeg ((y2.toUInt64 >>> ((32 : Int32).toInt64.toUInt64 &&& Int64.toUInt64 63)).toInt64).toInt32) (fun g_6 =>
nn (rdR g_6 a0 0) (fun a_7 =>
ck (inb (3 : Int32) (hpL S a_7)) (
nm (wrI g_6 a_7 (3 : Int32).toNatClampNeg (y2).toInt32) (fun g_8 =>
c2 (f_X6_mix N S g_8 a0 (4 : Int32) a4 x5) (fun u_10 g_9 =>
some ((), g_9))))))))))))))
def f_X6_sumOfEntry (N : Nat) (S : Hs) (g : Hg) (a0 : Nat) (x1 : Int32) (y2 : Int64) (a4 : Nat) (x5 : Int32) : Option (Unit × Hg) := b_X6_sumOfEntry_0 N S g a0 x1 y2 a4 x5
set_option maxHeartbeats 4000000 in
set_option maxRecDepth 100000 in
theorem w_X6_sumOfEntry_0 (hx : p.tables.exec = Jvm.exec) (hb : c.code = cX6_sumOfEntry) (hml : c.maxLocals = 6) (hr : meth.sig.returnType = none) (hlk : meth.locks = false) (hown : s.vm.findClass RX6 = some m.cls) (hX : Kx D cA lo tS s) (hRf : 3 ≤ R.frames) (hRl : 180 ≤ R.locals) {N : Nat} {rv : Unit} {g1 : Hg} {S : Hs} : ∀ (H : Heap) (locs : List Loc) (ls : Array Slot) (g : Hg) (a0 : Nat) (x1 : Int32) (y2 : Int64) (a4 : Nat) (x5 : Int32), Mm D cA lo S g s H locs → Rf lo S a0 6 → Rf lo S a4 20 → lv_has ls 6 [(0, .ref a0), (1, .int x1), (2, .long y2), (4, .ref a4), (5, .int x5)] → b_X6_sumOfEntry_0 N S g a0 x1 y2 a4 x5 = some (rv, g1) → W p l e R s m args below meth c H locs 0 0 (MQ below (Qcx D cA lo S none S g1 True) args s 0 0 (fun q : Nat => lo ≤ q)) (F0 m 0 ls []) := by
  intro H locs ls g a0 x1 y2 a4 x5 M ra0 ra4 hl q
  unfold b_X6_sumOfEntry_0 at q
  refine lv_aload_n hx hb dX6_sumOfEntry_0 rfl (lv_at hl 0 rfl) ?_
  replace q := nn_s q
  obtain ⟨a_1, e_a_1, q⟩ := q
  refine x_getR hx hb hown hX M e_a_1 okX6 ra0 (by decide) rfl kw_83 dX6_sumOfEntry_1 (fun ra_1 => ?_)
  refine lv_iconst (v := 0) hx hb dX6_sumOfEntry_4 (by decide) ?_
  refine lv_iconst (v := 1) hx hb dX6_sumOfEntry_5 (by decide) ?_
  replace q := ck_s q
  obtain ⟨hin, q⟩ := q
  refine x_iast hx hb hX M ra_1 (inb_in hin) dX6_sumOfEntry_6 (fun H locs M => ?_)
  replace q := gen_g M q
  obtain ⟨g_2, -, M, q⟩ := q
  refine lv_aload_n hx hb dX6_sumOfEntry_7 rfl (lv_at hl 0 rfl) ?_
  replace q := nn_s q
  obtain ⟨a_3, e_a_3, q⟩ := q
  refine x_getR hx hb hown hX M e_a_3 okX6 ra0 (by decide) rfl kw_83 dX6_sumOfEntry_8 (fun ra_3 => ?_)
  refine lv_iconst (v := 1) hx hb dX6_sumOfEntry_11 (by decide) ?_
  refine lv_iload_n hx hb dX6_sumOfEntry_12 rfl (lv_at hl 1 rfl) ?_
  replace q := ck_s q
  obtain ⟨hin, q⟩ := q
  refine x_iast hx hb hX M ra_3 (inb_in hin) dX6_sumOfEntry_13 (fun H locs M => ?_)
  replace q := gen_g M q
  obtain ⟨g_4, -, M, q⟩ := q
  refine lv_aload_n hx hb dX6_sumOfEntry_14 rfl (lv_at hl 0 rfl) ?_
  replace q := nn_s q
  obtain ⟨a_5, e_a_5, q⟩ := q
  refine x_getR hx hb hown hX M e_a_5 okX6 ra0 (by decide) rfl kw_83 dX6_sumOfEntry_15 (fun ra_5 => ?_)
  refine lv_iconst (v := 2) hx hb dX6_sumOfEntry_18 (by decide) ?_
  refine lv_lload_n hx hb dX6_sumOfEntry_19 rfl (lv_at hl 2 rfl) ?_
  refine lv_bipush (v := 32) hx hb dX6_sumOfEntry_20 (by decide) ?_
  refine lv_lushr hx hb dX6_sumOfEntry_22 rfl ?_
  refine lv_l2i hx hb dX6_sumOfEntry_23 rfl ?_
  replace q := ck_s q
  obtain ⟨hin, q⟩ := q
  refine x_iast hx hb hX M ra_5 (inb_in hin) dX6_sumOfEntry_24 (fun H locs M => ?_)
  replace q := gen_g M q
  obtain ⟨g_6, -, M, q⟩ := q
  refine lv_aload_n hx hb dX6_sumOfEntry_25 rfl (lv_at hl 0 rfl) ?_
  replace q := nn_s q
  obtain ⟨a_7, e_a_7, q⟩ := q
  refine x_getR hx hb hown hX M e_a_7 okX6 ra0 (by decide) rfl kw_83 dX6_sumOfEntry_26 (fun ra_7 => ?_)
  refine lv_iconst (v := 3) hx hb dX6_sumOfEntry_29 (by decide) ?_
  refine lv_lload_n hx hb dX6_sumOfEntry_30 rfl (lv_at hl 2 rfl) ?_
  refine lv_l2i hx hb dX6_sumOfEntry_31 rfl ?_
  replace q := ck_s q
  obtain ⟨hin, q⟩ := q
  refine x_iast hx hb hX M ra_7 (inb_in hin) dX6_sumOfEntry_32 (fun H locs M => ?_)
  replace q := gen_g M q
  obtain ⟨g_8, -, M, q⟩ := q
  refine lv_aload_n hx hb dX6_sumOfEntry_33 rfl (lv_at hl 0 rfl) ?_
  refine lv_iconst (v := 4) hx hb dX6_sumOfEntry_34 (by decide) ?_
  refine lv_aload hx hb dX6_sumOfEntry_35 (lv_at hl 3 rfl) ?_
  refine lv_iload hx hb dX6_sumOfEntry_37 (lv_at hl 4 rfl) ?_
  replace q := c2_s q
  obtain ⟨u_10, g_9, qc, q⟩ := q
  refine x_callV hx hb hml hl.1 hown hX M (S1 := S) (As := [.int (4 : Int32), .ref a4, .int x5]) (rest := []) okX6 ra0 rfl kw_516 kw_0 mok_X6_mix (c_X6_mix ra0 ra4 qc (Nat.le_refl 2)) kw_514 rfl rfl dX6_sumOfEntry_39 (Nat.le_of_ble_eq_true rfl) ⟨Nat.le_trans (by decide) hRf, Nat.le_trans (by decide) hRl⟩ (Nat.zero_le _) (Nat.zero_le _) (fun H locs M hEF => ?_)
  cases q
  exact x_vret hx hb hr hlk M Ext.rf dX6_sumOfEntry_42
set_option maxRecDepth 100000 in
theorem c_X6_sumOfEntry {l : Launch} {D : va_G} {cA : Nat → ClassId} {lo tS N : Nat} {S : Hs} {g g1 : Hg} {rv : Unit} {a0 : Nat} {x1 : Int32} {y2 : Int64} {a4 : Nat} {x5 : Int32} (ra0 : Rf lo S a0 6) (ra4 : Rf lo S a4 20) (q : f_X6_sumOfEntry N S g a0 x1 y2 a4 x5 = some (rv, g1)) {d : Nat} (hd : 3 ≤ d) : Ctr l yX6_sumOfEntry cX6_sumOfEntry 6 none D cA lo tS [.ref a0, .int x1, .long y2, .ref a4, .int x5] S g d none S g1 True 0 0 := by
  refine x_met (by decide) (Nat.le_of_ble_eq_true rfl) ?_
  intro p e s m below meth c ls hx hb hml hr hlk hown hnm hX M hl
  exact w_X6_sumOfEntry_0 hx hb hml hr hlk hown hX hd (Nat.mul_le_mul_left 60 hd) (N := N) _ _ _ _ _ _ _ _ _ M ra0 ra4 (lv_sub hl [0, 1, 2, 3, 4] rfl) q
def b_X3_append_0 (N : Nat) (S : Hs) (g : Hg) (a0 : Nat) (a1 : Nat) (x2 : Int32) (y3 : Int64) : Option (Unit × Hg) :=
if (rdI g a0 7) < (400 : Int32) then (
nn (rdR g a0 2) (fun a_2 =>
nn (rdR g a0 0) (fun a_3 =>
c2 (f_X2_learn N S g a_3 a1 x2) (fun x_5 g_4 =>
ck (inb (rdI g a0 7) (hpL S a_2)) (
nm (wrI g_4 a_2 (rdI g a0 7).toNatClampNeg x_5) (fun g_6 =>
nn (rdR g_6 a0 4) (fun a_7 =>
ck (inb (rdI g_6 a0 7) (hpL S a_7)) (
nm (wrL g_6 a_7 (rdI g_6 a0 7).toNatClampNeg y3) (fun g_8 =>
nn (rdR g_8 a0 3) (fun a_9 =>
ck (inb (rdI g_8 a0 7) (hpL S a_9)) (
nm (wrI g_8 a_9 (rdI g_8 a0 7).toNatClampNeg (0 : Int32)) (fun g_10 =>
nn (rdR g_10 a0 5) (fun a_11 =>
c2 (f_X6_sumOfEntry N S g_10 a1 x2 y3 a_11 (rdI g_10 a0 7)) (fun u_13 g_12 =>
nm (wrI g_12 a0 7 ((rdI g_12 a0 7) + (1 : Int32))) (fun g_14 =>
c2 (f_X3_joinFullBlocks N S g_14 a0 a1) (fun u_16 g_15 =>
some ((), g_15))))))))))))))))) else (
some ((), g))
def f_X3_append (N : Nat) (S : Hs) (g : Hg) (a0 : Nat) (a1 : Nat) (x2 : Int32) (y3 : Int64) : Option (Unit × Hg) := b_X3_append_0 N S g a0 a1 x2 y3
set_option maxHeartbeats 4000000 in
set_option maxRecDepth 100000 in
theorem w_X3_append_0 (hx : p.tables.exec = Jvm.exec) (hb : c.code = cX3_append) (hml : c.maxLocals = 5) (hr : meth.sig.returnType = none) (hlk : meth.locks = false) (hown : s.vm.findClass RX3 = some m.cls) (hX : Kx D cA lo tS s) (hRf : 5 ≤ R.frames) (hRl : 300 ≤ R.locals) {N : Nat} {rv : Unit} {g1 : Hg} {S : Hs} : ∀ (H : Heap) (locs : List Loc) (ls : Array Slot) (g : Hg) (a0 : Nat) (a1 : Nat) (x2 : Int32) (y3 : Int64), Mm D cA lo S g s H locs → Rf lo S a0 3 → Rf lo S a1 6 → lv_has ls 5 [(0, .ref a0), (1, .ref a1), (2, .int x2), (3, .long y3)] → b_X3_append_0 N S g a0 a1 x2 y3 = some (rv, g1) → W p l e R s m args below meth c H locs 0 0 (MQ below (Qcx D cA lo S none S g1 True) args s 0 0 (fun q : Nat => lo ≤ q)) (F0 m 0 ls []) := by
  intro H locs ls g a0 a1 x2 y3 M ra0 ra1 hl q
  unfold b_X3_append_0 at q
  refine lv_aload_n hx hb dX3_append_0 rfl (lv_at hl 0 rfl) ?_
  refine x_getI hx hb hown hX M (k := 7) okX3 ra0 (by decide) rfl kw_457 dX3_append_1 ?_
  refine lv_sipush (v := 400) hx hb dX3_append_4 (by decide) ?_
  refine lv_icmp_lt (tgt := 11) hx hb dX3_append_7 (by decide) (fun c_1 => ?_) (fun c_1 => ?_)
  · replace q := if_t c_1 q
    refine lv_aload_n hx hb dX3_append_11 rfl (lv_at hl 0 rfl) ?_
    replace q := nn_s q
    obtain ⟨a_2, e_a_2, q⟩ := q
    refine x_getR hx hb hown hX M e_a_2 okX3 ra0 (by decide) rfl kw_447 dX3_append_12 (fun ra_2 => ?_)
    refine lv_aload_n hx hb dX3_append_15 rfl (lv_at hl 0 rfl) ?_
    refine x_getI hx hb hown hX M (k := 7) okX3 ra0 (by decide) rfl kw_457 dX3_append_16 ?_
    refine lv_aload_n hx hb dX3_append_19 rfl (lv_at hl 0 rfl) ?_
    replace q := nn_s q
    obtain ⟨a_3, e_a_3, q⟩ := q
    refine x_getR hx hb hown hX M e_a_3 okX3 ra0 (by decide) rfl kw_440 dX3_append_20 (fun ra_3 => ?_)
    refine lv_aload_n hx hb dX3_append_23 rfl (lv_at hl 1 rfl) ?_
    refine lv_iload_n hx hb dX3_append_24 rfl (lv_at hl 2 rfl) ?_
    replace q := c2_s q
    obtain ⟨x_5, g_4, qc, q⟩ := q
    refine x_callV hx hb hml hl.1 hown hX M (S1 := S) (As := [.ref a1, .int x2]) (rest := [.int (rdI g a0 7), .ref a_2]) okX2 ra_3 rfl kw_503 kw_504 mok_X2_learn (c_X2_learn ra_3 ra1 qc (Nat.le_refl 4)) kw_502 rfl rfl dX3_append_25 (Nat.le_of_ble_eq_true rfl) ⟨Nat.le_trans (by decide) hRf, Nat.le_trans (by decide) hRl⟩ (Nat.zero_le _) (Nat.zero_le _) (fun H locs M hEF => ?_)
    replace q := ck_s q
    obtain ⟨hin, q⟩ := q
    refine x_iast hx hb hX M ra_2 (inb_in hin) dX3_append_28 (fun H locs M => ?_)
    replace q := gen_g M q
    obtain ⟨g_6, -, M, q⟩ := q
    refine lv_aload_n hx hb dX3_append_29 rfl (lv_at hl 0 rfl) ?_
    replace q := nn_s q
    obtain ⟨a_7, e_a_7, q⟩ := q
    refine x_getR hx hb hown hX M e_a_7 okX3 ra0 (by decide) rfl kw_452 dX3_append_30 (fun ra_7 => ?_)
    refine lv_aload_n hx hb dX3_append_33 rfl (lv_at hl 0 rfl) ?_
    refine x_getI hx hb hown hX M (k := 7) okX3 ra0 (by decide) rfl kw_457 dX3_append_34 ?_
    refine lv_lload_n hx hb dX3_append_37 rfl (lv_at hl 3 rfl) ?_
    replace q := ck_s q
    obtain ⟨hin, q⟩ := q
    refine x_last hx hb hX M ra_7 (inb_in hin) dX3_append_38 (fun H locs M => ?_)
    replace q := gen_g M q
    obtain ⟨g_8, -, M, q⟩ := q
    refine lv_aload_n hx hb dX3_append_39 rfl (lv_at hl 0 rfl) ?_
    replace q := nn_s q
    obtain ⟨a_9, e_a_9, q⟩ := q
    refine x_getR hx hb hown hX M e_a_9 okX3 ra0 (by decide) rfl kw_450 dX3_append_40 (fun ra_9 => ?_)
    refine lv_aload_n hx hb dX3_append_43 rfl (lv_at hl 0 rfl) ?_
    refine x_getI hx hb hown hX M (k := 7) okX3 ra0 (by decide) rfl kw_457 dX3_append_44 ?_
    refine lv_iconst (v := 0) hx hb dX3_append_47 (by decide) ?_
    replace q := ck_s q
    obtain ⟨hin, q⟩ := q
    refine x_iast hx hb hX M ra_9 (inb_in hin) dX3_append_48 (fun H locs M => ?_)
    replace q := gen_g M q
    obtain ⟨g_10, -, M, q⟩ := q
    refine lv_aload_n hx hb dX3_append_49 rfl (lv_at hl 1 rfl) ?_
    refine lv_iload_n hx hb dX3_append_50 rfl (lv_at hl 2 rfl) ?_
    refine lv_lload_n hx hb dX3_append_51 rfl (lv_at hl 3 rfl) ?_
    refine lv_aload_n hx hb dX3_append_52 rfl (lv_at hl 0 rfl) ?_
    replace q := nn_s q
    obtain ⟨a_11, e_a_11, q⟩ := q
    refine x_getR hx hb hown hX M e_a_11 okX3 ra0 (by decide) rfl kw_453 dX3_append_53 (fun ra_11 => ?_)
    refine lv_aload_n hx hb dX3_append_56 rfl (lv_at hl 0 rfl) ?_
    refine x_getI hx hb hown hX M (k := 7) okX3 ra0 (by decide) rfl kw_457 dX3_append_57 ?_
    replace q := c2_s q
    obtain ⟨u_13, g_12, qc, q⟩ := q
    refine x_callV hx hb hml hl.1 hown hX M (S1 := S) (As := [.int x2, .long y3, .ref a_11, .int (rdI g_10 a0 7)]) (rest := []) okX6 ra1 rfl kw_532 kw_533 mok_X6_sumOfEntry (c_X6_sumOfEntry ra1 ra_11 qc (Nat.le_refl 3)) kw_531 rfl rfl dX3_append_60 (Nat.le_of_ble_eq_true rfl) ⟨Nat.le_trans (by decide) hRf, Nat.le_trans (by decide) hRl⟩ (Nat.zero_le _) (Nat.zero_le _) (fun H locs M hEF => ?_)
    refine lv_aload_n hx hb dX3_append_63 rfl (lv_at hl 0 rfl) ?_
    refine lv_dup hx hb dX3_append_64 rfl ?_
    refine x_getI hx hb hown hX M (k := 7) okX3 ra0 (by decide) rfl kw_457 dX3_append_65 ?_
    refine lv_iconst (v := 1) hx hb dX3_append_68 (by decide) ?_
    refine lv_iadd hx hb dX3_append_69 ?_
    refine x_putI hx hb hown hX M (k := 7) okX3 ra0 (by decide) rfl (Or.inl rfl) rfl rfl kw_457 dX3_append_70 (fun H locs M => ?_)
    replace q := gen_g M q
    obtain ⟨g_14, -, M, q⟩ := q
    refine lv_aload_n hx hb dX3_append_73 rfl (lv_at hl 0 rfl) ?_
    refine lv_aload_n hx hb dX3_append_74 rfl (lv_at hl 1 rfl) ?_
    replace q := c2_s q
    obtain ⟨u_16, g_15, qc, q⟩ := q
    refine x_callV hx hb hml hl.1 hown hX M (S1 := S) (As := [.ref a1]) (rest := []) okX3 ra0 rfl kw_537 kw_3 mok_X3_joinFullBlocks (c_X3_joinFullBlocks ra0 ra1 qc (Nat.le_refl 4)) kw_535 rfl rfl dX3_append_75 (Nat.le_of_ble_eq_true rfl) ⟨Nat.le_trans (by decide) hRf, Nat.le_trans (by decide) hRl⟩ (Nat.zero_le _) (Nat.zero_le _) (fun H locs M hEF => ?_)
    cases q
    exact x_vret hx hb hr hlk M Ext.rf dX3_append_78
  · replace q := if_f c_1 q
    cases q
    exact x_vret hx hb hr hlk M Ext.rf dX3_append_10
set_option maxRecDepth 100000 in
theorem c_X3_append {l : Launch} {D : va_G} {cA : Nat → ClassId} {lo tS N : Nat} {S : Hs} {g g1 : Hg} {rv : Unit} {a0 : Nat} {a1 : Nat} {x2 : Int32} {y3 : Int64} (ra0 : Rf lo S a0 3) (ra1 : Rf lo S a1 6) (q : f_X3_append N S g a0 a1 x2 y3 = some (rv, g1)) {d : Nat} (hd : 5 ≤ d) : Ctr l yX3_append cX3_append 5 none D cA lo tS [.ref a0, .ref a1, .int x2, .long y3] S g d none S g1 True 0 0 := by
  refine x_met (by decide) (Nat.le_of_ble_eq_true rfl) ?_
  intro p e s m below meth c ls hx hb hml hr hlk hown hnm hX M hl
  exact w_X3_append_0 hx hb hml hr hlk hown hX hd (Nat.mul_le_mul_left 60 hd) (N := N) _ _ _ _ _ _ _ _ M ra0 ra1 (lv_sub hl [0, 1, 2, 3] rfl) q
def b_X11_add_0 (N : Nat) (S : Hs) (g : Hg) (a0 : Nat) (x1 : Int32) (x2 : Int32) (y3 : Int64) : Option (Int32 × Hg) :=
nn (rdR g a0 3) (fun a_1 =>
c2 (f_X1_logAt N S g a_1 x1) (fun o_3 g_2 =>
on o_3 (
some ((-1 : Int32), g_2)) (fun a_4 =>
if (rdI g_2 a_4 7) < (400 : Int32) then (
nn (rdR g_2 a0 0) (fun a_6 =>
c2 (f_X3_append N S g_2 a_4 a_6 x2 y3) (fun u_8 g_7 =>
some ((rdI g_7 a_4 7), g_7)))) else (
some ((-1 : Int32), g_2)))))
def f_X11_add (N : Nat) (S : Hs) (g : Hg) (a0 : Nat) (x1 : Int32) (x2 : Int32) (y3 : Int64) : Option (Int32 × Hg) := b_X11_add_0 N S g a0 x1 x2 y3
set_option maxHeartbeats 4000000 in
set_option maxRecDepth 100000 in
theorem w_X11_add_0 (hx : p.tables.exec = Jvm.exec) (hb : c.code = cX11_add) (hml : c.maxLocals = 6) (hr : meth.sig.returnType = (some .int)) (hlk : meth.locks = false) (hown : s.vm.findClass RX11 = some m.cls) (hX : Kx D cA lo tS s) (hRf : 6 ≤ R.frames) (hRl : 360 ≤ R.locals) {N : Nat} {rv : Int32} {g1 : Hg} {S : Hs} : ∀ (H : Heap) (locs : List Loc) (ls : Array Slot) (g : Hg) (a0 : Nat) (x1 : Int32) (x2 : Int32) (y3 : Int64), Mm D cA lo S g s H locs → Rf lo S a0 11 → lv_has ls 6 [(0, .ref a0), (1, .int x1), (2, .int x2), (3, .long y3)] → b_X11_add_0 N S g a0 x1 x2 y3 = some (rv, g1) → W p l e R s m args below meth c H locs 0 0 (MQ below (Qcx D cA lo S (some (.int rv)) S g1 True) args s 0 0 (fun q : Nat => lo ≤ q)) (F0 m 0 ls []) := by
  intro H locs ls g a0 x1 x2 y3 M ra0 hl q
  unfold b_X11_add_0 at q
  refine lv_aload_n hx hb dX11_add_0 rfl (lv_at hl 0 rfl) ?_
  replace q := nn_s q
  obtain ⟨a_1, e_a_1, q⟩ := q
  refine x_getR hx hb hown hX M e_a_1 okX11 ra0 (by decide) rfl kw_359 dX11_add_1 (fun ra_1 => ?_)
  refine lv_iload_n hx hb dX11_add_4 rfl (lv_at hl 1 rfl) ?_
  replace q := c2_s q
  obtain ⟨o_3, g_2, qc, q⟩ := q
  refine x_callV hx hb hml hl.1 hown hX M (S1 := S) (As := [.int x1]) (rest := []) okX1 ra_1 rfl kw_495 kw_496 mok_X1_logAt (c_X1_logAt ra_1 qc (Nat.le_refl 1)) kw_494 rfl rfl dX11_add_5 (Nat.le_of_ble_eq_true rfl) ⟨Nat.le_trans (by decide) hRf, Nat.le_trans (by decide) hRl⟩ (Nat.zero_le _) (Nat.zero_le _) (fun H locs M hEF => ?_)
  have ro_3 := hEF.2
  refine x_astore (lv' := [(5, va_rf o_3), (0, .ref a0), (1, .int x1), (2, .int x2), (3, .long y3)]) hx hb dX11_add_8 hl (by decide) rfl (fun ls hl => ?_)
  refine x_aload hx hb dX11_add_10 (lv_at hl 0 rfl) ?_
  refine x_ifnull (tgt := 26) hx hb dX11_add_12 (by decide) (fun c_9 => ?_) (fun a_4 c_9 => ?_)
  · replace q := on_n c_9 q
    refine lv_iconst (v := -1) hx hb dX11_add_26 (by decide) ?_
    cases q
    exact x_iret hx hb hr hlk M Ext.rf dX11_add_27
  · subst c_9
    replace q := on_s rfl q
    have ra_4 := ro_3 a_4 rfl
    have hl : lv_has ls 6 [(5, .ref a_4), (0, .ref a0), (1, .int x1), (2, .int x2), (3, .long y3)] := hl
    refine lv_aload hx hb dX11_add_15 (lv_at hl 0 rfl) ?_
    refine x_getI hx hb hown hX M (k := 7) okX3 ra_4 (by decide) rfl kw_459 dX11_add_17 ?_
    refine lv_sipush (v := 400) hx hb dX11_add_20 (by decide) ?_
    refine lv_icmp_lt (tgt := 28) hx hb dX11_add_23 (by decide) (fun c_5 => ?_) (fun c_5 => ?_)
    · replace q := if_t c_5 q
      refine lv_aload hx hb dX11_add_28 (lv_at hl 0 rfl) ?_
      refine lv_aload_n hx hb dX11_add_30 rfl (lv_at hl 1 rfl) ?_
      replace q := nn_s q
      obtain ⟨a_6, e_a_6, q⟩ := q
      refine x_getR hx hb hown hX M e_a_6 okX11 ra0 (by decide) rfl kw_356 dX11_add_31 (fun ra_6 => ?_)
      refine lv_iload_n hx hb dX11_add_34 rfl (lv_at hl 3 rfl) ?_
      refine lv_lload_n hx hb dX11_add_35 rfl (lv_at hl 4 rfl) ?_
      replace q := c2_s q
      obtain ⟨u_8, g_7, qc, q⟩ := q
      refine x_callV hx hb hml hl.1 hown hX M (S1 := S) (As := [.ref a_6, .int x2, .long y3]) (rest := []) okX3 ra_4 rfl kw_499 kw_500 mok_X3_append (c_X3_append ra_4 ra_6 qc (Nat.le_refl 5)) kw_498 rfl rfl dX11_add_36 (Nat.le_of_ble_eq_true rfl) ⟨Nat.le_trans (by decide) hRf, Nat.le_trans (by decide) hRl⟩ (Nat.zero_le _) (Nat.zero_le _) (fun H locs M hEF => ?_)
      refine lv_aload hx hb dX11_add_39 (lv_at hl 0 rfl) ?_
      refine x_getI hx hb hown hX M (k := 7) okX3 ra_4 (by decide) rfl kw_459 dX11_add_41 ?_
      cases q
      exact x_iret hx hb hr hlk M Ext.rf dX11_add_44
    · replace q := if_f c_5 q
      refine lv_iconst (v := -1) hx hb dX11_add_26 (by decide) ?_
      cases q
      exact x_iret hx hb hr hlk M Ext.rf dX11_add_27
set_option maxRecDepth 100000 in
theorem c_X11_add {l : Launch} {D : va_G} {cA : Nat → ClassId} {lo tS N : Nat} {S : Hs} {g g1 : Hg} {rv : Int32} {a0 : Nat} {x1 : Int32} {x2 : Int32} {y3 : Int64} (ra0 : Rf lo S a0 11) (q : f_X11_add N S g a0 x1 x2 y3 = some (rv, g1)) {d : Nat} (hd : 6 ≤ d) : Ctr l yX11_add cX11_add 6 (some .int) D cA lo tS [.ref a0, .int x1, .int x2, .long y3] S g d (some (.int rv)) S g1 True 0 0 := by
  refine x_met (by decide) (Nat.le_of_ble_eq_true rfl) ?_
  intro p e s m below meth c ls hx hb hml hr hlk hown hnm hX M hl
  exact w_X11_add_0 hx hb hml hr hlk hown hX hd (Nat.mul_le_mul_left 60 hd) (N := N) _ _ _ _ _ _ _ _ M ra0 (lv_sub hl [0, 1, 2, 3] rfl) q
def b_X1_allEntries_4 (N : Nat) (S : Hs) (k4 : Hg → Nat → Int32 → Int32 → Option (Int32 × Hg)) (g : Hg) (a0 : Nat) (x1 : Int32) (x2 : Int32) : Option (Int32 × Hg) :=
if (rdI g a0 1) ≤ x2 then (
some (x1, g)) else (
nn (rdR g a0 0) (fun a_2 =>
ck (inb x2 (hpL S a_2)) (
nm (rdR g a_2 x2.toNatClampNeg) (fun o_4 =>
on o_4 (
nm (x2 + 1) (fun x_6 =>
k4 g a0 x1 x_6)) (fun a_5 =>
nm (x1 + (rdI g a_5 7)) (fun x_7 =>
nm (x2 + 1) (fun x_8 =>
k4 g a0 x_7 x_8)))))))
def n_X1_allEntries_4 (N : Nat) (S : Hs) : Nat → Hg → Nat → Int32 → Int32 → Option (Int32 × Hg)
  | 0 => fun _ _ _ _ => none
  | n + 1 => fun g a0 x1 x2 => b_X1_allEntries_4 N S (n_X1_allEntries_4 N S n) g a0 x1 x2
def b_X1_allEntries_0 (N : Nat) (S : Hs) (g : Hg) (a0 : Nat) : Option (Int32 × Hg) :=
n_X1_allEntries_4 N S N g a0 (0 : Int32) (0 : Int32)
def f_X1_allEntries (N : Nat) (S : Hs) (g : Hg) (a0 : Nat) : Option (Int32 × Hg) := b_X1_allEntries_0 N S g a0
set_option maxHeartbeats 4000000 in
set_option maxRecDepth 100000 in
theorem w_X1_allEntries_4 (hx : p.tables.exec = Jvm.exec) (hb : c.code = cX1_allEntries) (hml : c.maxLocals = 4) (hr : meth.sig.returnType = (some .int)) (hlk : meth.locks = false) (hown : s.vm.findClass RX1 = some m.cls) (hX : Kx D cA lo tS s) (hRf : 1 ≤ R.frames) (hRl : 60 ≤ R.locals) {N : Nat} {rv : Int32} {g1 : Hg} {S : Hs} {k4 : Hg → Nat → Int32 → Int32 → Option (Int32 × Hg)} (hk4 : ∀ (H : Heap) (locs : List Loc) (ls : Array Slot) (g : Hg) (a0 : Nat) (x1 : Int32) (x2 : Int32), Mm D cA lo S g s H locs → Rf lo S a0 1 → lv_has ls 4 [(0, .ref a0), (1, .int x1), (2, .int x2)] → k4 g a0 x1 x2 = some (rv, g1) → W p l e R s m args below meth c H locs 0 0 (MQ below (Qcx D cA lo S (some (.int rv)) S g1 True) args s 0 0 (fun q : Nat => lo ≤ q)) (F0 m 4 ls [])) : ∀ (H : Heap) (locs : List Loc) (ls : Array Slot) (g : Hg) (a0 : Nat) (x1 : Int32) (x2 : Int32), Mm D cA lo S g s H locs → Rf lo S a0 1 → lv_has ls 4 [(0, .ref a0), (1, .int x1), (2, .int x2)] → b_X1_allEntries_4 N S k4 g a0 x1 x2 = some (rv, g1) → W p l e R s m args below meth c H locs 0 0 (MQ below (Qcx D cA lo S (some (.int rv)) S g1 True) args s 0 0 (fun q : Nat => lo ≤ q)) (F0 m 4 ls []) := by
  intro H locs ls g a0 x1 x2 M ra0 hl q
  unfold b_X1_allEntries_4 at q
  refine lv_iload_n hx hb dX1_allEntries_4 rfl (lv_at hl 2 rfl) ?_
  refine lv_aload_n hx hb dX1_allEntries_5 rfl (lv_at hl 0 rfl) ?_
  refine x_getI hx hb hown hX M (k := 1) okX1 ra0 (by decide) rfl kw_320 dX1_allEntries_6 ?_
  refine lv_icmp_ge (tgt := 36) hx hb dX1_allEntries_9 (by decide) (fun c_1 => ?_) (fun c_1 => ?_)
  · replace q := if_t c_1 q
    refine lv_iload_n hx hb dX1_allEntries_36 rfl (lv_at hl 1 rfl) ?_
    cases q
    exact x_iret hx hb hr hlk M Ext.rf dX1_allEntries_37
  · replace q := if_f c_1 q
    refine lv_aload_n hx hb dX1_allEntries_12 rfl (lv_at hl 0 rfl) ?_
    replace q := nn_s q
    obtain ⟨a_2, e_a_2, q⟩ := q
    refine x_getR hx hb hown hX M e_a_2 okX1 ra0 (by decide) rfl kw_319 dX1_allEntries_13 (fun ra_2 => ?_)
    refine lv_iload_n hx hb dX1_allEntries_16 rfl (lv_at hl 2 rfl) ?_
    replace q := ck_s q
    obtain ⟨hin, q⟩ := q
    refine x_aald23 hx hb hX M ra_2 (inb_in hin) dX1_allEntries_17 (fun rf_3 => ?_)
    refine x_topo (fun o_4 e_o_4 => ?_)
    replace q := nm_s q e_o_4
    rw [← e_o_4] at rf_3
    refine x_astore_n (lv' := [(3, va_rf o_4), (0, .ref a0), (1, .int x1), (2, .int x2)]) hx hb dX1_allEntries_18 rfl hl (by decide) rfl (fun ls hl => ?_)
    refine x_aload_n hx hb dX1_allEntries_19 rfl (lv_at hl 0 rfl) ?_
    refine x_ifnull (tgt := 30) hx hb dX1_allEntries_20 (by decide) (fun c_9 => ?_) (fun a_5 c_9 => ?_)
    · replace q := on_n c_9 q
      obtain ⟨x_6, e_x_6⟩ : ∃ y : Int32, y = x2 + 1 := ⟨_, rfl⟩
      replace q := nm_s q e_x_6
      refine lv_iinc (v := x_6) (lv' := [(2, .int x_6), (3, va_rf o_4), (0, .ref a0), (1, .int x1)]) hx hb dX1_allEntries_30 hl (k := 3) rfl (by rw [e_x_6]; rfl) (by decide) rfl (fun ls hl => ?_)
      refine lv_goto (tgt := 4) hx hb dX1_allEntries_33 (by decide) ?_
      exact hk4 _ _ _ _ _ _ _ M ra0 (lv_sub hl [2, 3, 0] rfl) q
    · subst c_9
      replace q := on_s rfl q
      have ra_5 := rf_3 a_5 rfl
      have hl : lv_has ls 4 [(3, .ref a_5), (0, .ref a0), (1, .int x1), (2, .int x2)] := hl
      refine lv_iload_n hx hb dX1_allEntries_23 rfl (lv_at hl 2 rfl) ?_
      refine lv_aload_n hx hb dX1_allEntries_24 rfl (lv_at hl 0 rfl) ?_
      refine x_getI hx hb hown hX M (k := 7) okX3 ra_5 (by decide) rfl kw_460 dX1_allEntries_25 ?_
      refine lv_iadd hx hb dX1_allEntries_28 ?_
      refine lv_topi (fun x_7 e_x_7 => ?_)
      replace q := nm_s q e_x_7
      refine lv_istore_n (lv' := [(1, .int x_7), (3, .ref a_5), (0, .ref a0), (2, .int x2)]) hx hb dX1_allEntries_29 rfl hl (by decide) rfl (fun ls hl => ?_)
      obtain ⟨x_8, e_x_8⟩ : ∃ y : Int32, y = x2 + 1 := ⟨_, rfl⟩
      replace q := nm_s q e_x_8
      refine lv_iinc (v := x_8) (lv' := [(2, .int x_8), (1, .int x_7), (3, .ref a_5), (0, .ref a0)]) hx hb dX1_allEntries_30 hl (k := 3) rfl (by rw [e_x_8]; rfl) (by decide) rfl (fun ls hl => ?_)
      refine lv_goto (tgt := 4) hx hb dX1_allEntries_33 (by decide) ?_
      exact hk4 _ _ _ _ _ _ _ M ra0 (lv_sub hl [3, 1, 0] rfl) q
set_option maxRecDepth 100000 in
theorem l_X1_allEntries_4 (hx : p.tables.exec = Jvm.exec) (hb : c.code = cX1_allEntries) (hml : c.maxLocals = 4) (hr : meth.sig.returnType = (some .int)) (hlk : meth.locks = false) (hown : s.vm.findClass RX1 = some m.cls) (hX : Kx D cA lo tS s) (hRf : 1 ≤ R.frames) (hRl : 60 ≤ R.locals) {N : Nat} {rv : Int32} {g1 : Hg} {S : Hs} : ∀ (n : Nat), ∀ (H : Heap) (locs : List Loc) (ls : Array Slot) (g : Hg) (a0 : Nat) (x1 : Int32) (x2 : Int32), Mm D cA lo S g s H locs → Rf lo S a0 1 → lv_has ls 4 [(0, .ref a0), (1, .int x1), (2, .int x2)] → n_X1_allEntries_4 N S n g a0 x1 x2 = some (rv, g1) → W p l e R s m args below meth c H locs 0 0 (MQ below (Qcx D cA lo S (some (.int rv)) S g1 True) args s 0 0 (fun q : Nat => lo ≤ q)) (F0 m 4 ls []) := by
  intro n
  induction n with
  | zero =>
    intro H locs ls g a0 x1 x2 M ra0 hl q
    exact absurd q (by simp [n_X1_allEntries_4])
  | succ n ih => exact w_X1_allEntries_4 hx hb hml hr hlk hown hX hRf hRl (N := N)  ih
set_option maxHeartbeats 4000000 in
set_option maxRecDepth 100000 in
theorem w_X1_allEntries_0 (hx : p.tables.exec = Jvm.exec) (hb : c.code = cX1_allEntries) (hml : c.maxLocals = 4) (hr : meth.sig.returnType = (some .int)) (hlk : meth.locks = false) (hown : s.vm.findClass RX1 = some m.cls) (hX : Kx D cA lo tS s) (hRf : 1 ≤ R.frames) (hRl : 60 ≤ R.locals) {N : Nat} {rv : Int32} {g1 : Hg} {S : Hs} : ∀ (H : Heap) (locs : List Loc) (ls : Array Slot) (g : Hg) (a0 : Nat), Mm D cA lo S g s H locs → Rf lo S a0 1 → lv_has ls 4 [(0, .ref a0)] → b_X1_allEntries_0 N S g a0 = some (rv, g1) → W p l e R s m args below meth c H locs 0 0 (MQ below (Qcx D cA lo S (some (.int rv)) S g1 True) args s 0 0 (fun q : Nat => lo ≤ q)) (F0 m 0 ls []) := by
  intro H locs ls g a0 M ra0 hl q
  unfold b_X1_allEntries_0 at q
  refine lv_iconst (v := 0) hx hb dX1_allEntries_0 (by decide) ?_
  refine lv_istore_n (lv' := [(1, .int (0 : Int32)), (0, .ref a0)]) hx hb dX1_allEntries_1 rfl hl (by decide) rfl (fun ls hl => ?_)
  refine lv_iconst (v := 0) hx hb dX1_allEntries_2 (by decide) ?_
  refine lv_istore_n (lv' := [(2, .int (0 : Int32)), (1, .int (0 : Int32)), (0, .ref a0)]) hx hb dX1_allEntries_3 rfl hl (by decide) rfl (fun ls hl => ?_)
  exact l_X1_allEntries_4 hx hb hml hr hlk hown hX hRf hRl (N := N)  N _ _ _ _ _ _ _ M ra0 (lv_sub hl [2, 1, 0] rfl) q
set_option maxRecDepth 100000 in
theorem c_X1_allEntries {l : Launch} {D : va_G} {cA : Nat → ClassId} {lo tS N : Nat} {S : Hs} {g g1 : Hg} {rv : Int32} {a0 : Nat} (ra0 : Rf lo S a0 1) (q : f_X1_allEntries N S g a0 = some (rv, g1)) {d : Nat} (hd : 1 ≤ d) : Ctr l yX1_allEntries cX1_allEntries 4 (some .int) D cA lo tS [.ref a0] S g d (some (.int rv)) S g1 True 0 0 := by
  refine x_met (by decide) (Nat.le_of_ble_eq_true rfl) ?_
  intro p e s m below meth c ls hx hb hml hr hlk hown hnm hX M hl
  exact w_X1_allEntries_0 hx hb hml hr hlk hown hX hd (Nat.mul_le_mul_left 60 hd) (N := N) _ _ _ _ _ M ra0 (lv_sub hl [0] rfl) q
end W2
