section W7
variable {p : Program} {l : Launch} {e : Env} {R : Room} {s : State} {m : MethodId} {args : Array Value} {below : List Frame} {meth : Method} {c : Code} {D : va_G} {cA : Nat → ClassId} {lo tS : Nat}
def b_X3_showBlocks_6 (N : Nat) (k6 : Hs → Hg → Nat → Nat → Int32 → Int32 → Option (Unit × Hs × Hg × Nat × Nat)) (S : Hs) (g : Hg) (a0 : Nat) (a1 : Nat) (x3 : Int32) (x5 : Int32) : Option (Unit × Hs × Hg × Nat × Nat) :=
if x3 ≤ x5 then (
some ((), S, g, 0, 0)) else (
c2 (f_X11_blockLevel N S g x5 x3) (fun x_3 g_2 =>
nn (rdR g_2 a0 5) (fun a_4 =>
ck (inb x_3 9) (
c5 (f_X7_tellStep N S g_2 a1 a_4 ((lvT x_3.toNatClampNeg) + (x5 >>> (x_3 &&& 31)))) (fun u_6 S_7 g_5 =>
nm (x5 + ((1 : Int32) <<< (x_3 &&& 31))) (fun x_12 =>
k6 S_7 g_5 a0 a1 x3 x_12))))))
def n_X3_showBlocks_6 (N : Nat) : Nat → Hs → Hg → Nat → Nat → Int32 → Int32 → Option (Unit × Hs × Hg × Nat × Nat)
  | 0 => fun _ _ _ _ _ _ => none
  | n + 1 => fun S g a0 a1 x3 x5 => b_X3_showBlocks_6 N (n_X3_showBlocks_6 N n) S g a0 a1 x3 x5
def b_X3_showBlocks_0 (N : Nat) (S : Hs) (g : Hg) (a0 : Nat) (a1 : Nat) (x2 : Int32) (x3 : Int32) : Option (Unit × Hs × Hg × Nat × Nat) :=
n_X3_showBlocks_6 N N S g a0 a1 x3 x2
def f_X3_showBlocks (N : Nat) (S : Hs) (g : Hg) (a0 : Nat) (a1 : Nat) (x2 : Int32) (x3 : Int32) : Option (Unit × Hs × Hg × Nat × Nat) := b_X3_showBlocks_0 N S g a0 a1 x2 x3
set_option maxHeartbeats 4000000 in
set_option maxRecDepth 100000 in
theorem w_X3_showBlocks_6 (hx : p.tables.exec = Jvm.exec) (hb : c.code = cX3_showBlocks) (hml : c.maxLocals = 6) (hr : meth.sig.returnType = none) (hlk : meth.locks = false) (hown : s.vm.findClass RX3 = some m.cls) (hX : Kx D cA lo tS s) (hRf : 4 ≤ R.frames) (hRl : 240 ≤ R.locals) {N : Nat} {rv : Unit} {g1 : Hg} {S0 S1 : Hs} {cT wT : Nat} (hRc : cT ≤ R.cells) (hRs : wT ≤ R.slots) {k6 : Hs → Hg → Nat → Nat → Int32 → Int32 → Option (Unit × Hs × Hg × Nat × Nat)} (hk6 : ∀ (H : Heap) (locs : List Loc) (ls : Array Slot) (cells slots k w : Nat) (S : Hs) (g : Hg) (a0 : Nat) (a1 : Nat) (x3 : Int32) (x5 : Int32), Mm D cA lo S g s H locs → Ext lo S0 S → Rf lo S a0 3 → Rf lo S a1 7 → lv_has ls 6 [(0, .ref a0), (1, .ref a1), (3, .int x3), (5, .int x5)] → k6 S g a0 a1 x3 x5 = some (rv, S1, g1, k, w) → cells + k = cT → slots + w = wT → W p l e R s m args below meth c H locs cells slots (MQ below (Qcx D cA lo S0 none S1 g1 True) args s cT wT (fun q : Nat => lo ≤ q)) (F0 m 6 ls [])) : ∀ (H : Heap) (locs : List Loc) (ls : Array Slot) (cells slots k w : Nat) (S : Hs) (g : Hg) (a0 : Nat) (a1 : Nat) (x3 : Int32) (x5 : Int32), Mm D cA lo S g s H locs → Ext lo S0 S → Rf lo S a0 3 → Rf lo S a1 7 → lv_has ls 6 [(0, .ref a0), (1, .ref a1), (3, .int x3), (5, .int x5)] → b_X3_showBlocks_6 N k6 S g a0 a1 x3 x5 = some (rv, S1, g1, k, w) → cells + k = cT → slots + w = wT → W p l e R s m args below meth c H locs cells slots (MQ below (Qcx D cA lo S0 none S1 g1 True) args s cT wT (fun q : Nat => lo ≤ q)) (F0 m 6 ls []) := by
  intro H locs ls cells slots k w S g a0 a1 x3 x5 M hE ra0 ra1 hl q hc hs
  unfold b_X3_showBlocks_6 at q
  refine lv_iload hx hb dX3_showBlocks_6 (lv_at hl 3 rfl) ?_
  refine lv_iload_n hx hb dX3_showBlocks_8 rfl (lv_at hl 2 rfl) ?_
  refine lv_icmp_ge (tgt := 52) hx hb dX3_showBlocks_9 (by decide) (fun c_1 => ?_) (fun c_1 => ?_)
  · replace q := if_t c_1 q
    cases q
    have hc : cells = cT := hc
    have hs : slots = wT := hs
    subst hc
    subst hs
    exact x_vret hx hb hr hlk M hE dX3_showBlocks_52
  · replace q := if_f c_1 q
    refine lv_iload hx hb dX3_showBlocks_12 (lv_at hl 3 rfl) ?_
    refine lv_iload_n hx hb dX3_showBlocks_14 rfl (lv_at hl 2 rfl) ?_
    replace q := c2_s q
    obtain ⟨x_3, g_2, qc, q⟩ := q
    refine x_callSN hx hb hml hl.1 hown hX M (S1 := S) (As := [.int x5, .int x3]) (rest := []) kw_662 mok_X11_blockLevel (c_X11_blockLevel  qc (Nat.le_refl 1)) kw_661 rfl rfl dX3_showBlocks_15 (Nat.le_of_ble_eq_true rfl) ⟨Nat.le_trans (by decide) hRf, Nat.le_trans (by decide) hRl⟩ (hz_step hc hRc) (hz_step hs hRs) (fun H locs M hEF => ?_)
    refine lv_istore (lv' := [(4, .int x_3), (0, .ref a0), (1, .ref a1), (3, .int x3), (5, .int x5)]) hx hb dX3_showBlocks_18 hl (by decide) rfl (fun ls hl => ?_)
    refine lv_aload_n hx hb dX3_showBlocks_20 rfl (lv_at hl 2 rfl) ?_
    refine lv_aload_n hx hb dX3_showBlocks_21 rfl (lv_at hl 1 rfl) ?_
    replace q := nn_s q
    obtain ⟨a_4, e_a_4, q⟩ := q
    refine x_getR hx hb hown hX M e_a_4 okX3 ra0 (by decide) rfl kw_453 dX3_showBlocks_22 (fun ra_4 => ?_)
    refine x_gets hx hb hown hX M kw_539 dX3_showBlocks_25 ?_
    refine lv_iload hx hb dX3_showBlocks_28 (lv_at hl 0 rfl) ?_
    replace q := ck_s q
    obtain ⟨hin, q⟩ := q
    refine x_tbl hx hb hX M (inb_in hin) dX3_showBlocks_30 ?_
    refine lv_iload hx hb dX3_showBlocks_31 (lv_at hl 4 rfl) ?_
    refine lv_iload hx hb dX3_showBlocks_33 (lv_at hl 0 rfl) ?_
    refine lv_ishr hx hb dX3_showBlocks_35 ?_
    refine lv_iadd hx hb dX3_showBlocks_36 ?_
    replace q := c5_s q
    obtain ⟨u_6, S_7, g_5, k_8, w_9, k_10, w_11, qc, ek, ew, q⟩ := q
    refine x_callV hx hb hml hl.1 hown hX M (As := [.ref a_4, .int ((lvT x_3.toNatClampNeg) + (x5 >>> (x_3 &&& 31)))]) (rest := []) okX7 ra1 rfl kw_757 kw_758 mok_X7_tellStep (c_X7_tellStep ra1 ra_4 qc (Nat.le_refl 3)) kw_756 rfl rfl dX3_showBlocks_37 (Nat.le_of_ble_eq_true rfl) ⟨Nat.le_trans (by decide) hRf, Nat.le_trans (by decide) hRl⟩ (hb_step hc ek hRc) (hb_step hs ew hRs) (fun H locs M hEF => ?_)
    replace ra0 := ra0.ext hEF.1
    replace ra1 := ra1.ext hEF.1
    replace hE := hE.tr hEF.1
    replace hc := hc_step hc ek
    replace hs := hc_step hs ew
    clear ek ew
    refine lv_iload hx hb dX3_showBlocks_40 (lv_at hl 4 rfl) ?_
    refine lv_iconst (v := 1) hx hb dX3_showBlocks_42 (by decide) ?_
    refine lv_iload hx hb dX3_showBlocks_43 (lv_at hl 0 rfl) ?_
    refine lv_ishl hx hb dX3_showBlocks_45 ?_
    refine lv_iadd hx hb dX3_showBlocks_46 ?_
    refine lv_topi (fun x_12 e_x_12 => ?_)
    replace q := nm_s q e_x_12
    refine lv_istore (lv' := [(5, .int x_12), (4, .int x_3), (0, .ref a0), (1, .ref a1), (3, .int x3)]) hx hb dX3_showBlocks_47 hl (by decide) rfl (fun ls hl => ?_)
    refine lv_goto (tgt := 6) hx hb dX3_showBlocks_49 (by decide) ?_
    exact hk6 _ _ _ _ _ _ _ _ _ _ _ _ _ M hE ra0 ra1 (lv_sub hl [2, 3, 4, 0] rfl) q hc hs
set_option maxRecDepth 100000 in
theorem l_X3_showBlocks_6 (hx : p.tables.exec = Jvm.exec) (hb : c.code = cX3_showBlocks) (hml : c.maxLocals = 6) (hr : meth.sig.returnType = none) (hlk : meth.locks = false) (hown : s.vm.findClass RX3 = some m.cls) (hX : Kx D cA lo tS s) (hRf : 4 ≤ R.frames) (hRl : 240 ≤ R.locals) {N : Nat} {rv : Unit} {g1 : Hg} {S0 S1 : Hs} {cT wT : Nat} (hRc : cT ≤ R.cells) (hRs : wT ≤ R.slots) : ∀ (n : Nat), ∀ (H : Heap) (locs : List Loc) (ls : Array Slot) (cells slots k w : Nat) (S : Hs) (g : Hg) (a0 : Nat) (a1 : Nat) (x3 : Int32) (x5 : Int32), Mm D cA lo S g s H locs → Ext lo S0 S → Rf lo S a0 3 → Rf lo S a1 7 → lv_has ls 6 [(0, .ref a0), (1, .ref a1), (3, .int x3), (5, .int x5)] → n_X3_showBlocks_6 N n S g a0 a1 x3 x5 = some (rv, S1, g1, k, w) → cells + k = cT → slots + w = wT → W p l e R s m args below meth c H locs cells slots (MQ below (Qcx D cA lo S0 none S1 g1 True) args s cT wT (fun q : Nat => lo ≤ q)) (F0 m 6 ls []) := by
  intro n
  induction n with
  | zero =>
    intro H locs ls cells slots k w S g a0 a1 x3 x5 M hE ra0 ra1 hl q hc hs
    exact absurd q (by simp [n_X3_showBlocks_6])
  | succ n ih => exact w_X3_showBlocks_6 hx hb hml hr hlk hown hX hRf hRl (N := N) hRc hRs  ih
set_option maxHeartbeats 4000000 in
set_option maxRecDepth 100000 in
theorem w_X3_showBlocks_0 (hx : p.tables.exec = Jvm.exec) (hb : c.code = cX3_showBlocks) (hml : c.maxLocals = 6) (hr : meth.sig.returnType = none) (hlk : meth.locks = false) (hown : s.vm.findClass RX3 = some m.cls) (hX : Kx D cA lo tS s) (hRf : 4 ≤ R.frames) (hRl : 240 ≤ R.locals) {N : Nat} {rv : Unit} {g1 : Hg} {S0 S1 : Hs} {cT wT : Nat} (hRc : cT ≤ R.cells) (hRs : wT ≤ R.slots) : ∀ (H : Heap) (locs : List Loc) (ls : Array Slot) (cells slots k w : Nat) (S : Hs) (g : Hg) (a0 : Nat) (a1 : Nat) (x2 : Int32) (x3 : Int32), Mm D cA lo S g s H locs → Ext lo S0 S → Rf lo S a0 3 → Rf lo S a1 7 → lv_has ls 6 [(0, .ref a0), (1, .ref a1), (2, .int x2), (3, .int x3)] → b_X3_showBlocks_0 N S g a0 a1 x2 x3 = some (rv, S1, g1, k, w) → cells + k = cT → slots + w = wT → W p l e R s m args below meth c H locs cells slots (MQ below (Qcx D cA lo S0 none S1 g1 True) args s cT wT (fun q : Nat => lo ≤ q)) (F0 m 0 ls []) := by
  intro H locs ls cells slots k w S g a0 a1 x2 x3 M hE ra0 ra1 hl q hc hs
  unfold b_X3_showBlocks_0 at q
  refine lv_iconst (v := 0) hx hb dX3_showBlocks_0 (by decide) ?_
  refine lv_istore (lv' := [(4, .int (0 : Int32)), (0, .ref a0), (1, .ref a1), (2, .int x2), (3, .int x3)]) hx hb dX3_showBlocks_1 hl (by decide) rfl (fun ls hl => ?_)
  refine lv_iload_n hx hb dX3_showBlocks_3 rfl (lv_at hl 3 rfl) ?_
  refine lv_istore (lv' := [(5, .int x2), (4, .int (0 : Int32)), (0, .ref a0), (1, .ref a1), (2, .int x2), (3, .int x3)]) hx hb dX3_showBlocks_4 hl (by decide) rfl (fun ls hl => ?_)
  exact l_X3_showBlocks_6 hx hb hml hr hlk hown hX hRf hRl (N := N) hRc hRs  N _ _ _ _ _ _ _ _ _ _ _ _ _ M hE ra0 ra1 (lv_sub hl [2, 3, 5, 0] rfl) q hc hs
set_option maxRecDepth 100000 in
theorem c_X3_showBlocks {l : Launch} {D : va_G} {cA : Nat → ClassId} {lo tS N : Nat} {S S1 : Hs} {g g1 : Hg} {k w : Nat} {rv : Unit} {a0 : Nat} {a1 : Nat} {x2 : Int32} {x3 : Int32} (ra0 : Rf lo S a0 3) (ra1 : Rf lo S a1 7) (q : f_X3_showBlocks N S g a0 a1 x2 x3 = some (rv, S1, g1, k, w)) {d : Nat} (hd : 4 ≤ d) : Ctr l yX3_showBlocks cX3_showBlocks 6 none D cA lo tS [.ref a0, .ref a1, .int x2, .int x3] S g d none S1 g1 True k w := by
  refine x_met (by decide) (Nat.le_of_ble_eq_true rfl) ?_
  intro p e s m below meth c ls hx hb hml hr hlk hown hnm hX M hl
  exact w_X3_showBlocks_0 hx hb hml hr hlk hown hX hd (Nat.mul_le_mul_left 60 hd) (N := N) (Nat.le_refl k) (Nat.le_refl w) _ _ _ _ _ _ _ _ _ _ _ _ _ M Ext.rf ra0 ra1 (lv_sub hl [0, 1, 2, 3] rfl) q (Nat.zero_add k) (Nat.zero_add w)
def b_X3_showGrowth_0 (N : Nat) (S : Hs) (g : Hg) (a0 : Nat) (a1 : Nat) (x2 : Int32) (x3 : Int32) : Option (Unit × Hs × Hg × Nat × Nat) :=
c2 (f_X7_begin N S g a1 (2 : Int32) x3 x2) (fun u_2 g_1 =>
c5 (f_X3_showBlocks N S g_1 a0 a1 (0 : Int32) x2) (fun u_4 S_5 g_3 =>
c5 (f_X3_showBlocks N S_5 g_3 a0 a1 x2 x3) (fun u_11 S_12 g_10 =>
some ((), S_12, g_10, 0, 0))))
def f_X3_showGrowth (N : Nat) (S : Hs) (g : Hg) (a0 : Nat) (a1 : Nat) (x2 : Int32) (x3 : Int32) : Option (Unit × Hs × Hg × Nat × Nat) := b_X3_showGrowth_0 N S g a0 a1 x2 x3
set_option maxHeartbeats 4000000 in
set_option maxRecDepth 100000 in
theorem w_X3_showGrowth_0 (hx : p.tables.exec = Jvm.exec) (hb : c.code = cX3_showGrowth) (hml : c.maxLocals = 4) (hr : meth.sig.returnType = none) (hlk : meth.locks = false) (hown : s.vm.findClass RX3 = some m.cls) (hX : Kx D cA lo tS s) (hRf : 5 ≤ R.frames) (hRl : 300 ≤ R.locals) {N : Nat} {rv : Unit} {g1 : Hg} {S0 S1 : Hs} {cT wT : Nat} (hRc : cT ≤ R.cells) (hRs : wT ≤ R.slots) : ∀ (H : Heap) (locs : List Loc) (ls : Array Slot) (cells slots k w : Nat) (S : Hs) (g : Hg) (a0 : Nat) (a1 : Nat) (x2 : Int32) (x3 : Int32), Mm D cA lo S g s H locs → Ext lo S0 S → Rf lo S a0 3 → Rf lo S a1 7 → lv_has ls 4 [(0, .ref a0), (1, .ref a1), (2, .int x2), (3, .int x3)] → b_X3_showGrowth_0 N S g a0 a1 x2 x3 = some (rv, S1, g1, k, w) → cells + k = cT → slots + w = wT → W p l e R s m args below meth c H locs cells slots (MQ below (Qcx D cA lo S0 none S1 g1 True) args s cT wT (fun q : Nat => lo ≤ q)) (F0 m 0 ls []) := by
  intro H locs ls cells slots k w S g a0 a1 x2 x3 M hE ra0 ra1 hl q hc hs
  unfold b_X3_showGrowth_0 at q
  refine lv_aload_n hx hb dX3_showGrowth_0 rfl (lv_at hl 1 rfl) ?_
  refine lv_iconst (v := 2) hx hb dX3_showGrowth_1 (by decide) ?_
  refine lv_iload_n hx hb dX3_showGrowth_2 rfl (lv_at hl 3 rfl) ?_
  refine lv_iload_n hx hb dX3_showGrowth_3 rfl (lv_at hl 2 rfl) ?_
  replace q := c2_s q
  obtain ⟨u_2, g_1, qc, q⟩ := q
  refine x_callV hx hb hml hl.1 hown hX M (S1 := S) (As := [.int (2 : Int32), .int x3, .int x2]) (rest := []) okX7 ra1 rfl kw_736 kw_737 mok_X7_begin (c_X7_begin ra1 qc (Nat.le_refl 1)) kw_783 rfl rfl dX3_showGrowth_4 (Nat.le_of_ble_eq_true rfl) ⟨Nat.le_trans (by decide) hRf, Nat.le_trans (by decide) hRl⟩ (hz_step hc hRc) (hz_step hs hRs) (fun H locs M hEF => ?_)
  refine lv_aload_n hx hb dX3_showGrowth_7 rfl (lv_at hl 0 rfl) ?_
  refine lv_aload_n hx hb dX3_showGrowth_8 rfl (lv_at hl 1 rfl) ?_
  refine lv_iconst (v := 0) hx hb dX3_showGrowth_9 (by decide) ?_
  refine lv_iload_n hx hb dX3_showGrowth_10 rfl (lv_at hl 2 rfl) ?_
  replace q := c5_s q
  obtain ⟨u_4, S_5, g_3, k_6, w_7, k_8, w_9, qc, ek, ew, q⟩ := q
  refine x_callV hx hb hml hl.1 hown hX M (As := [.ref a1, .int (0 : Int32), .int x2]) (rest := []) okX3 ra0 rfl kw_754 kw_8 mok_X3_showBlocks (c_X3_showBlocks ra0 ra1 qc (Nat.le_refl 4)) kw_752 rfl rfl dX3_showGrowth_11 (Nat.le_of_ble_eq_true rfl) ⟨Nat.le_trans (by decide) hRf, Nat.le_trans (by decide) hRl⟩ (hb_step hc ek hRc) (hb_step hs ew hRs) (fun H locs M hEF => ?_)
  replace ra0 := ra0.ext hEF.1
  replace ra1 := ra1.ext hEF.1
  replace hE := hE.tr hEF.1
  replace hc := hc_step hc ek
  replace hs := hc_step hs ew
  clear ek ew
  refine lv_aload_n hx hb dX3_showGrowth_14 rfl (lv_at hl 0 rfl) ?_
  refine lv_aload_n hx hb dX3_showGrowth_15 rfl (lv_at hl 1 rfl) ?_
  refine lv_iload_n hx hb dX3_showGrowth_16 rfl (lv_at hl 2 rfl) ?_
  refine lv_iload_n hx hb dX3_showGrowth_17 rfl (lv_at hl 3 rfl) ?_
  replace q := c5_s q
  obtain ⟨u_11, S_12, g_10, k_13, w_14, k_15, w_16, qc, ek, ew, q⟩ := q
  refine x_callV hx hb hml hl.1 hown hX M (As := [.ref a1, .int x2, .int x3]) (rest := []) okX3 ra0 rfl kw_754 kw_8 mok_X3_showBlocks (c_X3_showBlocks ra0 ra1 qc (Nat.le_refl 4)) kw_752 rfl rfl dX3_showGrowth_18 (Nat.le_of_ble_eq_true rfl) ⟨Nat.le_trans (by decide) hRf, Nat.le_trans (by decide) hRl⟩ (hb_step hc ek hRc) (hb_step hs ew hRs) (fun H locs M hEF => ?_)
  replace ra0 := ra0.ext hEF.1
  replace ra1 := ra1.ext hEF.1
  replace hE := hE.tr hEF.1
  replace hc := hc_step hc ek
  replace hs := hc_step hs ew
  clear ek ew
  cases q
  have hc : cells + k_6 + k_13 = cT := hc
  have hs : slots + w_7 + w_14 = wT := hs
  subst hc
  subst hs
  exact x_vret hx hb hr hlk M hE dX3_showGrowth_21
set_option maxRecDepth 100000 in
theorem c_X3_showGrowth {l : Launch} {D : va_G} {cA : Nat → ClassId} {lo tS N : Nat} {S S1 : Hs} {g g1 : Hg} {k w : Nat} {rv : Unit} {a0 : Nat} {a1 : Nat} {x2 : Int32} {x3 : Int32} (ra0 : Rf lo S a0 3) (ra1 : Rf lo S a1 7) (q : f_X3_showGrowth N S g a0 a1 x2 x3 = some (rv, S1, g1, k, w)) {d : Nat} (hd : 5 ≤ d) : Ctr l yX3_showGrowth cX3_showGrowth 4 none D cA lo tS [.ref a0, .ref a1, .int x2, .int x3] S g d none S1 g1 True k w := by
  refine x_met (by decide) (Nat.le_of_ble_eq_true rfl) ?_
  intro p e s m below meth c ls hx hb hml hr hlk hown hnm hX M hl
  exact w_X3_showGrowth_0 hx hb hml hr hlk hown hX hd (Nat.mul_le_mul_left 60 hd) (N := N) (Nat.le_refl k) (Nat.le_refl w) _ _ _ _ _ _ _ _ _ _ _ _ _ M Ext.rf ra0 ra1 (lv_sub hl [0, 1, 2, 3] rfl) q (Nat.zero_add k) (Nat.zero_add w)
def b_X11_grown_0 (N : Nat) (S : Hs) (g : Hg) (a0 : Nat) (x1 : Int32) (x2 : Int32) (x3 : Int32) (x4 : Int32) : Option (Int32 × Hs × Hg × Nat × Nat) :=
nn (rdR g a0 3) (fun a_1 =>
c2 (f_X1_slotAt N S g a_1 x1) (fun o_3 g_2 =>
nn (rdR g_2 a0 3) (fun a_4 =>
c2 (f_X1_logAt N S g_2 a_4 x2) (fun o_6 g_5 =>
on o_3 (
some ((-1 : Int32), S, g_5, 0, 0)) (fun a_7 =>
on o_6 (
some ((-1 : Int32), S, g_5, 0, 0)) (fun a_8 =>
c2 (f_X3_reaches N S g_5 a_8 x3) (fun x_10 g_9 =>
if x_10 = 0 then (
some ((-1 : Int32), S, g_9, 0, 0)) else (
c2 (f_X3_reaches N S g_9 a_8 x4) (fun x_13 g_12 =>
if x_13 = 0 then (
some ((-1 : Int32), S, g_12, 0, 0)) else (
if x3 ≤ x4 then (
c5 (f_X3_showGrowth N S g_12 a_8 a_7 x3 x4) (fun u_17 S_18 g_16 =>
some ((rdI g_16 a_7 4), S_18, g_16, 0, 0))) else (
some ((-1 : Int32), S, g_12, 0, 0))))))))))))
def f_X11_grown (N : Nat) (S : Hs) (g : Hg) (a0 : Nat) (x1 : Int32) (x2 : Int32) (x3 : Int32) (x4 : Int32) : Option (Int32 × Hs × Hg × Nat × Nat) := b_X11_grown_0 N S g a0 x1 x2 x3 x4
set_option maxHeartbeats 4000000 in
set_option maxRecDepth 100000 in
theorem w_X11_grown_0 (hx : p.tables.exec = Jvm.exec) (hb : c.code = cX11_grown) (hml : c.maxLocals = 7) (hr : meth.sig.returnType = (some .int)) (hlk : meth.locks = false) (hown : s.vm.findClass RX11 = some m.cls) (hX : Kx D cA lo tS s) (hRf : 6 ≤ R.frames) (hRl : 360 ≤ R.locals) {N : Nat} {rv : Int32} {g1 : Hg} {S0 S1 : Hs} {cT wT : Nat} (hRc : cT ≤ R.cells) (hRs : wT ≤ R.slots) : ∀ (H : Heap) (locs : List Loc) (ls : Array Slot) (cells slots k w : Nat) (S : Hs) (g : Hg) (a0 : Nat) (x1 : Int32) (x2 : Int32) (x3 : Int32) (x4 : Int32), Mm D cA lo S g s H locs → Ext lo S0 S → Rf lo S a0 11 → lv_has ls 7 [(0, .ref a0), (1, .int x1), (2, .int x2), (3, .int x3), (4, .int x4)] → b_X11_grown_0 N S g a0 x1 x2 x3 x4 = some (rv, S1, g1, k, w) → cells + k = cT → slots + w = wT → W p l e R s m args below meth c H locs cells slots (MQ below (Qcx D cA lo S0 (some (.int rv)) S1 g1 True) args s cT wT (fun q : Nat => lo ≤ q)) (F0 m 0 ls []) := by
  intro H locs ls cells slots k w S g a0 x1 x2 x3 x4 M hE ra0 hl q hc hs
  unfold b_X11_grown_0 at q
  refine lv_aload_n hx hb dX11_grown_0 rfl (lv_at hl 0 rfl) ?_
  replace q := nn_s q
  obtain ⟨a_1, e_a_1, q⟩ := q
  refine x_getR hx hb hown hX M e_a_1 okX11 ra0 (by decide) rfl kw_359 dX11_grown_1 (fun ra_1 => ?_)
  refine lv_iload_n hx hb dX11_grown_4 rfl (lv_at hl 1 rfl) ?_
  replace q := c2_s q
  obtain ⟨o_3, g_2, qc, q⟩ := q
  refine x_callV hx hb hml hl.1 hown hX M (S1 := S) (As := [.int x1]) (rest := []) okX1 ra_1 rfl kw_732 kw_733 mok_X1_slotAt (c_X1_slotAt ra_1 qc (Nat.le_refl 1)) kw_731 rfl rfl dX11_grown_5 (Nat.le_of_ble_eq_true rfl) ⟨Nat.le_trans (by decide) hRf, Nat.le_trans (by decide) hRl⟩ (hz_step hc hRc) (hz_step hs hRs) (fun H locs M hEF => ?_)
  have ro_3 := hEF.2
  refine x_astore (lv' := [(5, va_rf o_3), (0, .ref a0), (1, .int x1), (2, .int x2), (3, .int x3), (4, .int x4)]) hx hb dX11_grown_8 hl (by decide) rfl (fun ls hl => ?_)
  refine lv_aload_n hx hb dX11_grown_10 rfl (lv_at hl 1 rfl) ?_
  replace q := nn_s q
  obtain ⟨a_4, e_a_4, q⟩ := q
  refine x_getR hx hb hown hX M e_a_4 okX11 ra0 (by decide) rfl kw_359 dX11_grown_11 (fun ra_4 => ?_)
  refine lv_iload_n hx hb dX11_grown_14 rfl (lv_at hl 3 rfl) ?_
  replace q := c2_s q
  obtain ⟨o_6, g_5, qc, q⟩ := q
  refine x_callV hx hb hml hl.1 hown hX M (S1 := S) (As := [.int x2]) (rest := []) okX1 ra_4 rfl kw_495 kw_496 mok_X1_logAt (c_X1_logAt ra_4 qc (Nat.le_refl 1)) kw_494 rfl rfl dX11_grown_15 (Nat.le_of_ble_eq_true rfl) ⟨Nat.le_trans (by decide) hRf, Nat.le_trans (by decide) hRl⟩ (hz_step hc hRc) (hz_step hs hRs) (fun H locs M hEF => ?_)
  have ro_6 := hEF.2
  refine x_astore (lv' := [(6, va_rf o_6), (5, va_rf o_3), (0, .ref a0), (1, .int x1), (2, .int x2), (3, .int x3), (4, .int x4)]) hx hb dX11_grown_18 hl (by decide) (by cases o_3 <;> rfl) (fun ls hl => ?_)
  refine x_aload hx hb dX11_grown_20 (lv_at hl 1 rfl) ?_
  refine x_ifnull (tgt := 55) hx hb dX11_grown_22 (by decide) (fun c_24 => ?_) (fun a_7 c_24 => ?_)
  · replace q := on_n c_24 q
    refine lv_iconst (v := -1) hx hb dX11_grown_55 (by decide) ?_
    cases q
    have hc : cells = cT := hc
    have hs : slots = wT := hs
    subst hc
    subst hs
    exact x_iret hx hb hr hlk M hE dX11_grown_56
  · subst c_24
    replace q := on_s rfl q
    have ra_7 := ro_3 a_7 rfl
    have hl : lv_has ls 7 [(6, va_rf o_6), (5, .ref a_7), (0, .ref a0), (1, .int x1), (2, .int x2), (3, .int x3), (4, .int x4)] := hl
    refine x_aload hx hb dX11_grown_25 (lv_at hl 0 rfl) ?_
    refine x_ifnull (tgt := 55) hx hb dX11_grown_27 (by decide) (fun c_23 => ?_) (fun a_8 c_23 => ?_)
    · replace q := on_n c_23 q
      refine lv_iconst (v := -1) hx hb dX11_grown_55 (by decide) ?_
      cases q
      have hc : cells = cT := hc
      have hs : slots = wT := hs
      subst hc
      subst hs
      exact x_iret hx hb hr hlk M hE dX11_grown_56
    · subst c_23
      replace q := on_s rfl q
      have ra_8 := ro_6 a_8 rfl
      have hl : lv_has ls 7 [(6, .ref a_8), (5, .ref a_7), (0, .ref a0), (1, .int x1), (2, .int x2), (3, .int x3), (4, .int x4)] := hl
      refine lv_aload hx hb dX11_grown_30 (lv_at hl 0 rfl) ?_
      refine lv_iload_n hx hb dX11_grown_32 rfl (lv_at hl 5 rfl) ?_
      replace q := c2_s q
      obtain ⟨x_10, g_9, qc, q⟩ := q
      refine x_callV hx hb hml hl.1 hown hX M (S1 := S) (As := [.int x3]) (rest := []) okX3 ra_8 rfl kw_550 kw_551 mok_X3_reaches (c_X3_reaches ra_8 qc (Nat.le_refl 1)) kw_549 rfl rfl dX11_grown_33 (Nat.le_of_ble_eq_true rfl) ⟨Nat.le_trans (by decide) hRf, Nat.le_trans (by decide) hRl⟩ (hz_step hc hRc) (hz_step hs hRs) (fun H locs M hEF => ?_)
      refine lv_if_eq (tgt := 55) hx hb dX11_grown_36 (by decide) (fun c_11 => ?_) (fun c_11 => ?_)
      · replace q := if_t c_11 q
        refine lv_iconst (v := -1) hx hb dX11_grown_55 (by decide) ?_
        cases q
        have hc : cells = cT := hc
        have hs : slots = wT := hs
        subst hc
        subst hs
        exact x_iret hx hb hr hlk M hE dX11_grown_56
      · replace q := if_f c_11 q
        refine lv_aload hx hb dX11_grown_39 (lv_at hl 0 rfl) ?_
        refine lv_iload hx hb dX11_grown_41 (lv_at hl 6 rfl) ?_
        replace q := c2_s q
        obtain ⟨x_13, g_12, qc, q⟩ := q
        refine x_callV hx hb hml hl.1 hown hX M (S1 := S) (As := [.int x4]) (rest := []) okX3 ra_8 rfl kw_550 kw_551 mok_X3_reaches (c_X3_reaches ra_8 qc (Nat.le_refl 1)) kw_549 rfl rfl dX11_grown_43 (Nat.le_of_ble_eq_true rfl) ⟨Nat.le_trans (by decide) hRf, Nat.le_trans (by decide) hRl⟩ (hz_step hc hRc) (hz_step hs hRs) (fun H locs M hEF => ?_)
        refine lv_if_eq (tgt := 55) hx hb dX11_grown_46 (by decide) (fun c_14 => ?_) (fun c_14 => ?_)
        · replace q := if_t c_14 q
          refine lv_iconst (v := -1) hx hb dX11_grown_55 (by decide) ?_
          cases q
          have hc : cells = cT := hc
          have hs : slots = wT := hs
          subst hc
          subst hs
          exact x_iret hx hb hr hlk M hE dX11_grown_56
        · replace q := if_f c_14 q
          refine lv_iload_n hx hb dX11_grown_49 rfl (lv_at hl 5 rfl) ?_
          refine lv_iload hx hb dX11_grown_50 (lv_at hl 6 rfl) ?_
          refine lv_icmp_le (tgt := 57) hx hb dX11_grown_52 (by decide) (fun c_15 => ?_) (fun c_15 => ?_)
          · replace q := if_t c_15 q
            refine lv_aload hx hb dX11_grown_57 (lv_at hl 0 rfl) ?_
            refine lv_aload hx hb dX11_grown_59 (lv_at hl 1 rfl) ?_
            refine lv_iload_n hx hb dX11_grown_61 rfl (lv_at hl 5 rfl) ?_
            refine lv_iload hx hb dX11_grown_62 (lv_at hl 6 rfl) ?_
            replace q := c5_s q
            obtain ⟨u_17, S_18, g_16, k_19, w_20, k_21, w_22, qc, ek, ew, q⟩ := q
            refine x_callV hx hb hml hl.1 hown hX M (As := [.ref a_7, .int x3, .int x4]) (rest := []) okX3 ra_8 rfl kw_780 kw_781 mok_X3_showGrowth (c_X3_showGrowth ra_8 ra_7 qc (Nat.le_refl 5)) kw_779 rfl rfl dX11_grown_64 (Nat.le_of_ble_eq_true rfl) ⟨Nat.le_trans (by decide) hRf, Nat.le_trans (by decide) hRl⟩ (hb_step hc ek hRc) (hb_step hs ew hRs) (fun H locs M hEF => ?_)
            replace ra0 := ra0.ext hEF.1
            replace ra_7 := ra_7.ext hEF.1
            replace ra_8 := ra_8.ext hEF.1
            replace hE := hE.tr hEF.1
            replace hc := hc_step hc ek
            replace hs := hc_step hs ew
            clear ek ew
            refine lv_aload hx hb dX11_grown_67 (lv_at hl 1 rfl) ?_
            refine x_getI hx hb hown hX M (k := 4) okX7 ra_7 (by decide) rfl kw_194 dX11_grown_69 ?_
            cases q
            have hc : cells + k_19 = cT := hc
            have hs : slots + w_20 = wT := hs
            subst hc
            subst hs
            exact x_iret hx hb hr hlk M hE dX11_grown_72
          · replace q := if_f c_15 q
            refine lv_iconst (v := -1) hx hb dX11_grown_55 (by decide) ?_
            cases q
            have hc : cells = cT := hc
            have hs : slots = wT := hs
            subst hc
            subst hs
            exact x_iret hx hb hr hlk M hE dX11_grown_56
set_option maxRecDepth 100000 in
theorem c_X11_grown {l : Launch} {D : va_G} {cA : Nat → ClassId} {lo tS N : Nat} {S S1 : Hs} {g g1 : Hg} {k w : Nat} {rv : Int32} {a0 : Nat} {x1 : Int32} {x2 : Int32} {x3 : Int32} {x4 : Int32} (ra0 : Rf lo S a0 11) (q : f_X11_grown N S g a0 x1 x2 x3 x4 = some (rv, S1, g1, k, w)) {d : Nat} (hd : 6 ≤ d) : Ctr l yX11_grown cX11_grown 7 (some .int) D cA lo tS [.ref a0, .int x1, .int x2, .int x3, .int x4] S g d (some (.int rv)) S1 g1 True k w := by
  refine x_met (by decide) (Nat.le_of_ble_eq_true rfl) ?_
  intro p e s m below meth c ls hx hb hml hr hlk hown hnm hX M hl
  exact w_X11_grown_0 hx hb hml hr hlk hown hX hd (Nat.mul_le_mul_left 60 hd) (N := N) (Nat.le_refl k) (Nat.le_refl w) _ _ _ _ _ _ _ _ _ _ _ _ _ _ M Ext.rf ra0 (lv_sub hl [0, 1, 2, 3, 4] rfl) q (Nat.zero_add k) (Nat.zero_add w)
def b_X3_climb_5 (N : Nat) (S : Hs) (k5 : Hg → Nat → Nat → Int32 → Int32 → Option (Unit × Hg)) (g : Hg) (a0 : Nat) (a1 : Nat) (x2 : Int32) (x4 : Int32) : Option (Unit × Hg) :=
if x2 ≤ x4 then (
some ((), g)) else (
c2 (f_X11_blockLevel N S g x4 x2) (fun x_3 g_2 =>
nn (rdR g_2 a0 5) (fun a_4 =>
ck (inb x_3 9) (
c2 (f_X9_put N S g_2 a1 x4 ((1 : Int32) <<< (x_3 &&& 31)) a_4 ((lvT x_3.toNatClampNeg) + (x4 >>> (x_3 &&& 31)))) (fun u_6 g_5 =>
nm (x4 + ((1 : Int32) <<< (x_3 &&& 31))) (fun x_7 =>
k5 g_5 a0 a1 x2 x_7))))))
def n_X3_climb_5 (N : Nat) (S : Hs) : Nat → Hg → Nat → Nat → Int32 → Int32 → Option (Unit × Hg)
  | 0 => fun _ _ _ _ _ => none
  | n + 1 => fun g a0 a1 x2 x4 => b_X3_climb_5 N S (n_X3_climb_5 N S n) g a0 a1 x2 x4
def b_X3_climb_0 (N : Nat) (S : Hs) (g : Hg) (a0 : Nat) (a1 : Nat) (x2 : Int32) : Option (Unit × Hg) :=
n_X3_climb_5 N S N g a0 a1 x2 (0 : Int32)
def f_X3_climb (N : Nat) (S : Hs) (g : Hg) (a0 : Nat) (a1 : Nat) (x2 : Int32) : Option (Unit × Hg) := b_X3_climb_0 N S g a0 a1 x2
set_option maxHeartbeats 4000000 in
set_option maxRecDepth 100000 in
theorem w_X3_climb_5 (hx : p.tables.exec = Jvm.exec) (hb : c.code = cX3_climb) (hml : c.maxLocals = 5) (hr : meth.sig.returnType = none) (hlk : meth.locks = false) (hown : s.vm.findClass RX3 = some m.cls) (hX : Kx D cA lo tS s) (hRf : 5 ≤ R.frames) (hRl : 300 ≤ R.locals) {N : Nat} {rv : Unit} {g1 : Hg} {S : Hs} {k5 : Hg → Nat → Nat → Int32 → Int32 → Option (Unit × Hg)} (hk5 : ∀ (H : Heap) (locs : List Loc) (ls : Array Slot) (g : Hg) (a0 : Nat) (a1 : Nat) (x2 : Int32) (x4 : Int32), Mm D cA lo S g s H locs → Rf lo S a0 3 → Rf lo S a1 9 → lv_has ls 5 [(0, .ref a0), (1, .ref a1), (2, .int x2), (4, .int x4)] → k5 g a0 a1 x2 x4 = some (rv, g1) → W p l e R s m args below meth c H locs 0 0 (MQ below (Qcx D cA lo S none S g1 True) args s 0 0 (fun q : Nat => lo ≤ q)) (F0 m 5 ls [])) : ∀ (H : Heap) (locs : List Loc) (ls : Array Slot) (g : Hg) (a0 : Nat) (a1 : Nat) (x2 : Int32) (x4 : Int32), Mm D cA lo S g s H locs → Rf lo S a0 3 → Rf lo S a1 9 → lv_has ls 5 [(0, .ref a0), (1, .ref a1), (2, .int x2), (4, .int x4)] → b_X3_climb_5 N S k5 g a0 a1 x2 x4 = some (rv, g1) → W p l e R s m args below meth c H locs 0 0 (MQ below (Qcx D cA lo S none S g1 True) args s 0 0 (fun q : Nat => lo ≤ q)) (F0 m 5 ls []) := by
  intro H locs ls g a0 a1 x2 x4 M ra0 ra1 hl q
  unfold b_X3_climb_5 at q
  refine lv_iload hx hb dX3_climb_5 (lv_at hl 3 rfl) ?_
  refine lv_iload_n hx hb dX3_climb_7 rfl (lv_at hl 2 rfl) ?_
  refine lv_icmp_ge (tgt := 52) hx hb dX3_climb_8 (by decide) (fun c_1 => ?_) (fun c_1 => ?_)
  · replace q := if_t c_1 q
    cases q
    exact x_vret hx hb hr hlk M Ext.rf dX3_climb_52
  · replace q := if_f c_1 q
    refine lv_iload hx hb dX3_climb_11 (lv_at hl 3 rfl) ?_
    refine lv_iload_n hx hb dX3_climb_13 rfl (lv_at hl 2 rfl) ?_
    replace q := c2_s q
    obtain ⟨x_3, g_2, qc, q⟩ := q
    refine x_callSN hx hb hml hl.1 hown hX M (S1 := S) (As := [.int x4, .int x2]) (rest := []) kw_662 mok_X11_blockLevel (c_X11_blockLevel  qc (Nat.le_refl 1)) kw_661 rfl rfl dX3_climb_14 (Nat.le_of_ble_eq_true rfl) ⟨Nat.le_trans (by decide) hRf, Nat.le_trans (by decide) hRl⟩ (Nat.zero_le _) (Nat.zero_le _) (fun H locs M hEF => ?_)
    refine lv_istore_n (lv' := [(3, .int x_3), (0, .ref a0), (1, .ref a1), (2, .int x2), (4, .int x4)]) hx hb dX3_climb_17 rfl hl (by decide) rfl (fun ls hl => ?_)
    refine lv_aload_n hx hb dX3_climb_18 rfl (lv_at hl 2 rfl) ?_
    refine lv_iload hx hb dX3_climb_19 (lv_at hl 4 rfl) ?_
    refine lv_iconst (v := 1) hx hb dX3_climb_21 (by decide) ?_
    refine lv_iload_n hx hb dX3_climb_22 rfl (lv_at hl 0 rfl) ?_
    refine lv_ishl hx hb dX3_climb_23 ?_
    refine lv_aload_n hx hb dX3_climb_24 rfl (lv_at hl 1 rfl) ?_
    replace q := nn_s q
    obtain ⟨a_4, e_a_4, q⟩ := q
    refine x_getR hx hb hown hX M e_a_4 okX3 ra0 (by decide) rfl kw_453 dX3_climb_25 (fun ra_4 => ?_)
    refine x_gets hx hb hown hX M kw_539 dX3_climb_28 ?_
    refine lv_iload_n hx hb dX3_climb_31 rfl (lv_at hl 0 rfl) ?_
    replace q := ck_s q
    obtain ⟨hin, q⟩ := q
    refine x_tbl hx hb hX M (inb_in hin) dX3_climb_32 ?_
    refine lv_iload hx hb dX3_climb_33 (lv_at hl 4 rfl) ?_
    refine lv_iload_n hx hb dX3_climb_35 rfl (lv_at hl 0 rfl) ?_
    refine lv_ishr hx hb dX3_climb_36 ?_
    refine lv_iadd hx hb dX3_climb_37 ?_
    replace q := c2_s q
    obtain ⟨u_6, g_5, qc, q⟩ := q
    refine x_callV hx hb hml hl.1 hown hX M (S1 := S) (As := [.int x4, .int ((1 : Int32) <<< (x_3 &&& 31)), .ref a_4, .int ((lvT x_3.toNatClampNeg) + (x4 >>> (x_3 &&& 31)))]) (rest := []) okX9 ra1 rfl kw_665 kw_666 mok_X9_put (c_X9_put ra1 ra_4 qc (Nat.le_refl 4)) kw_664 rfl rfl dX3_climb_38 (Nat.le_of_ble_eq_true rfl) ⟨Nat.le_trans (by decide) hRf, Nat.le_trans (by decide) hRl⟩ (Nat.zero_le _) (Nat.zero_le _) (fun H locs M hEF => ?_)
    refine lv_iload hx hb dX3_climb_41 (lv_at hl 4 rfl) ?_
    refine lv_iconst (v := 1) hx hb dX3_climb_43 (by decide) ?_
    refine lv_iload_n hx hb dX3_climb_44 rfl (lv_at hl 0 rfl) ?_
    refine lv_ishl hx hb dX3_climb_45 ?_
    refine lv_iadd hx hb dX3_climb_46 ?_
    refine lv_topi (fun x_7 e_x_7 => ?_)
    replace q := nm_s q e_x_7
    refine lv_istore (lv' := [(4, .int x_7), (3, .int x_3), (0, .ref a0), (1, .ref a1), (2, .int x2)]) hx hb dX3_climb_47 hl (by decide) rfl (fun ls hl => ?_)
    refine lv_goto (tgt := 5) hx hb dX3_climb_49 (by decide) ?_
    exact hk5 _ _ _ _ _ _ _ _ M ra0 ra1 (lv_sub hl [2, 3, 4, 0] rfl) q
set_option maxRecDepth 100000 in
theorem l_X3_climb_5 (hx : p.tables.exec = Jvm.exec) (hb : c.code = cX3_climb) (hml : c.maxLocals = 5) (hr : meth.sig.returnType = none) (hlk : meth.locks = false) (hown : s.vm.findClass RX3 = some m.cls) (hX : Kx D cA lo tS s) (hRf : 5 ≤ R.frames) (hRl : 300 ≤ R.locals) {N : Nat} {rv : Unit} {g1 : Hg} {S : Hs} : ∀ (n : Nat), ∀ (H : Heap) (locs : List Loc) (ls : Array Slot) (g : Hg) (a0 : Nat) (a1 : Nat) (x2 : Int32) (x4 : Int32), Mm D cA lo S g s H locs → Rf lo S a0 3 → Rf lo S a1 9 → lv_has ls 5 [(0, .ref a0), (1, .ref a1), (2, .int x2), (4, .int x4)] → n_X3_climb_5 N S n g a0 a1 x2 x4 = some (rv, g1) → W p l e R s m args below meth c H locs 0 0 (MQ below (Qcx D cA lo S none S g1 True) args s 0 0 (fun q : Nat => lo ≤ q)) (F0 m 5 ls []) := by
  intro n
  induction n with
  | zero =>
    intro H locs ls g a0 a1 x2 x4 M ra0 ra1 hl q
    exact absurd q (by simp [n_X3_climb_5])
  | succ n ih => exact w_X3_climb_5 hx hb hml hr hlk hown hX hRf hRl (N := N)  ih
set_option maxHeartbeats 4000000 in
set_option maxRecDepth 100000 in
theorem w_X3_climb_0 (hx : p.tables.exec = Jvm.exec) (hb : c.code = cX3_climb) (hml : c.maxLocals = 5) (hr : meth.sig.returnType = none) (hlk : meth.locks = false) (hown : s.vm.findClass RX3 = some m.cls) (hX : Kx D cA lo tS s) (hRf : 5 ≤ R.frames) (hRl : 300 ≤ R.locals) {N : Nat} {rv : Unit} {g1 : Hg} {S : Hs} : ∀ (H : Heap) (locs : List Loc) (ls : Array Slot) (g : Hg) (a0 : Nat) (a1 : Nat) (x2 : Int32), Mm D cA lo S g s H locs → Rf lo S a0 3 → Rf lo S a1 9 → lv_has ls 5 [(0, .ref a0), (1, .ref a1), (2, .int x2)] → b_X3_climb_0 N S g a0 a1 x2 = some (rv, g1) → W p l e R s m args below meth c H locs 0 0 (MQ below (Qcx D cA lo S none S g1 True) args s 0 0 (fun q : Nat => lo ≤ q)) (F0 m 0 ls []) := by
  intro H locs ls g a0 a1 x2 M ra0 ra1 hl q
  unfold b_X3_climb_0 at q
  refine lv_iconst (v := 0) hx hb dX3_climb_0 (by decide) ?_
  refine lv_istore_n (lv' := [(3, .int (0 : Int32)), (0, .ref a0), (1, .ref a1), (2, .int x2)]) hx hb dX3_climb_1 rfl hl (by decide) rfl (fun ls hl => ?_)
  refine lv_iconst (v := 0) hx hb dX3_climb_2 (by decide) ?_
  refine lv_istore (lv' := [(4, .int (0 : Int32)), (3, .int (0 : Int32)), (0, .ref a0), (1, .ref a1), (2, .int x2)]) hx hb dX3_climb_3 hl (by decide) rfl (fun ls hl => ?_)
  exact l_X3_climb_5 hx hb hml hr hlk hown hX hRf hRl (N := N)  N _ _ _ _ _ _ _ _ M ra0 ra1 (lv_sub hl [2, 3, 4, 0] rfl) q
set_option maxRecDepth 100000 in
theorem c_X3_climb {l : Launch} {D : va_G} {cA : Nat → ClassId} {lo tS N : Nat} {S : Hs} {g g1 : Hg} {rv : Unit} {a0 : Nat} {a1 : Nat} {x2 : Int32} (ra0 : Rf lo S a0 3) (ra1 : Rf lo S a1 9) (q : f_X3_climb N S g a0 a1 x2 = some (rv, g1)) {d : Nat} (hd : 5 ≤ d) : Ctr l yX3_climb cX3_climb 5 none D cA lo tS [.ref a0, .ref a1, .int x2] S g d none S g1 True 0 0 := by
  refine x_met (by decide) (Nat.le_of_ble_eq_true rfl) ?_
  intro p e s m below meth c ls hx hb hml hr hlk hown hnm hX M hl
  exact w_X3_climb_0 hx hb hml hr hlk hown hX hd (Nat.mul_le_mul_left 60 hd) (N := N) _ _ _ _ _ _ _ M ra0 ra1 (lv_sub hl [0, 1, 2] rfl) q
def b_X8_topOf_0 (N : Nat) (S : Hs) (g : Hg) (a0 : Nat) (a1 : Nat) (x2 : Int32) (a3 : Nat) : Option (Unit × Hg) :=
nn (rdR g a0 2) (fun a_1 =>
c2 (f_X9_clear N S g a_1) (fun u_3 g_2 =>
nn (rdR g_2 a0 2) (fun a_4 =>
c2 (f_X3_climb N S g_2 a1 a_4 x2) (fun u_6 g_5 =>
nn (rdR g_5 a0 2) (fun a_7 =>
c2 (f_X9_writeTop N S g_5 a_7 a3) (fun u_9 g_8 =>
some ((), g_8)))))))
def f_X8_topOf (N : Nat) (S : Hs) (g : Hg) (a0 : Nat) (a1 : Nat) (x2 : Int32) (a3 : Nat) : Option (Unit × Hg) := b_X8_topOf_0 N S g a0 a1 x2 a3
set_option maxHeartbeats 4000000 in
set_option maxRecDepth 100000 in
theorem w_X8_topOf_0 (hx : p.tables.exec = Jvm.exec) (hb : c.code = cX8_topOf) (hml : c.maxLocals = 4) (hr : meth.sig.returnType = none) (hlk : meth.locks = false) (hown : s.vm.findClass RX8 = some m.cls) (hX : Kx D cA lo tS s) (hRf : 6 ≤ R.frames) (hRl : 360 ≤ R.locals) {N : Nat} {rv : Unit} {g1 : Hg} {S : Hs} : ∀ (H : Heap) (locs : List Loc) (ls : Array Slot) (g : Hg) (a0 : Nat) (a1 : Nat) (x2 : Int32) (a3 : Nat), Mm D cA lo S g s H locs → Rf lo S a0 8 → Rf lo S a1 3 → Rf lo S a3 20 → lv_has ls 4 [(0, .ref a0), (1, .ref a1), (2, .int x2), (3, .ref a3)] → b_X8_topOf_0 N S g a0 a1 x2 a3 = some (rv, g1) → W p l e R s m args below meth c H locs 0 0 (MQ below (Qcx D cA lo S none S g1 True) args s 0 0 (fun q : Nat => lo ≤ q)) (F0 m 0 ls []) := by
  intro H locs ls g a0 a1 x2 a3 M ra0 ra1 ra3 hl q
  unfold b_X8_topOf_0 at q
  refine lv_aload_n hx hb dX8_topOf_0 rfl (lv_at hl 0 rfl) ?_
  replace q := nn_s q
  obtain ⟨a_1, e_a_1, q⟩ := q
  refine x_getR hx hb hown hX M e_a_1 okX8 ra0 (by decide) rfl kw_147 dX8_topOf_1 (fun ra_1 => ?_)
  replace q := c2_s q
  obtain ⟨u_3, g_2, qc, q⟩ := q
  refine x_callV hx hb hml hl.1 hown hX M (S1 := S) (As := []) (rest := []) okX9 ra_1 rfl kw_654 kw_655 mok_X9_clear (c_X9_clear ra_1 qc (Nat.le_refl 1)) kw_653 rfl rfl dX8_topOf_4 (Nat.le_of_ble_eq_true rfl) ⟨Nat.le_trans (by decide) hRf, Nat.le_trans (by decide) hRl⟩ (Nat.zero_le _) (Nat.zero_le _) (fun H locs M hEF => ?_)
  refine lv_aload_n hx hb dX8_topOf_7 rfl (lv_at hl 1 rfl) ?_
  refine lv_aload_n hx hb dX8_topOf_8 rfl (lv_at hl 0 rfl) ?_
  replace q := nn_s q
  obtain ⟨a_4, e_a_4, q⟩ := q
  refine x_getR hx hb hown hX M e_a_4 okX8 ra0 (by decide) rfl kw_147 dX8_topOf_9 (fun ra_4 => ?_)
  refine lv_iload_n hx hb dX8_topOf_12 rfl (lv_at hl 2 rfl) ?_
  replace q := c2_s q
  obtain ⟨u_6, g_5, qc, q⟩ := q
  refine x_callV hx hb hml hl.1 hown hX M (S1 := S) (As := [.ref a_4, .int x2]) (rest := []) okX3 ra1 rfl kw_658 kw_659 mok_X3_climb (c_X3_climb ra1 ra_4 qc (Nat.le_refl 5)) kw_657 rfl rfl dX8_topOf_13 (Nat.le_of_ble_eq_true rfl) ⟨Nat.le_trans (by decide) hRf, Nat.le_trans (by decide) hRl⟩ (Nat.zero_le _) (Nat.zero_le _) (fun H locs M hEF => ?_)
  refine lv_aload_n hx hb dX8_topOf_16 rfl (lv_at hl 0 rfl) ?_
  replace q := nn_s q
  obtain ⟨a_7, e_a_7, q⟩ := q
  refine x_getR hx hb hown hX M e_a_7 okX8 ra0 (by decide) rfl kw_147 dX8_topOf_17 (fun ra_7 => ?_)
  refine lv_aload_n hx hb dX8_topOf_20 rfl (lv_at hl 3 rfl) ?_
  replace q := c2_s q
  obtain ⟨u_9, g_8, qc, q⟩ := q
  refine x_callV hx hb hml hl.1 hown hX M (S1 := S) (As := [.ref a3]) (rest := []) okX9 ra_7 rfl kw_678 kw_679 mok_X9_writeTop (c_X9_writeTop ra_7 ra3 qc (Nat.le_refl 4)) kw_677 rfl rfl dX8_topOf_21 (Nat.le_of_ble_eq_true rfl) ⟨Nat.le_trans (by decide) hRf, Nat.le_trans (by decide) hRl⟩ (Nat.zero_le _) (Nat.zero_le _) (fun H locs M hEF => ?_)
  cases q
  exact x_vret hx hb hr hlk M Ext.rf dX8_topOf_24
set_option maxRecDepth 100000 in
theorem c_X8_topOf {l : Launch} {D : va_G} {cA : Nat → ClassId} {lo tS N : Nat} {S : Hs} {g g1 : Hg} {rv : Unit} {a0 : Nat} {a1 : Nat} {x2 : Int32} {a3 : Nat} (ra0 : Rf lo S a0 8) (ra1 : Rf lo S a1 3) (ra3 : Rf lo S a3 20) (q : f_X8_topOf N S g a0 a1 x2 a3 = some (rv, g1)) {d : Nat} (hd : 6 ≤ d) : Ctr l yX8_topOf cX8_topOf 4 none D cA lo tS [.ref a0, .ref a1, .int x2, .ref a3] S g d none S g1 True 0 0 := by
  refine x_met (by decide) (Nat.le_of_ble_eq_true rfl) ?_
  intro p e s m below meth c ls hx hb hml hr hlk hown hnm hX M hl
  exact w_X8_topOf_0 hx hb hml hr hlk hown hX hd (Nat.mul_le_mul_left 60 hd) (N := N) _ _ _ _ _ _ _ _ M ra0 ra1 ra3 (lv_sub hl [0, 1, 2, 3] rfl) q
def b_X4_writeTree_0 (N : Nat) (S : Hs) (g : Hg) (a0 : Nat) (a1 : Nat) (a2 : Nat) : Option (Unit × Hg) :=
c2 (f_X4_plant N S 300 g a0 a1 (0 : Int32) (rdI g a0 5) (0 : Int32) (0 : Int32)) (fun u_2 g_1 =>
nn (rdR g_1 a0 3) (fun a_3 =>
c2 (f_X11_copySum N S g_1 a_3 (0 : Int32) a2 (0 : Int32)) (fun u_5 g_4 =>
some ((), g_4))))
def f_X4_writeTree (N : Nat) (S : Hs) (g : Hg) (a0 : Nat) (a1 : Nat) (a2 : Nat) : Option (Unit × Hg) := b_X4_writeTree_0 N S g a0 a1 a2
set_option maxHeartbeats 4000000 in
set_option maxRecDepth 100000 in
theorem w_X4_writeTree_0 (hx : p.tables.exec = Jvm.exec) (hb : c.code = cX4_writeTree) (hml : c.maxLocals = 3) (hr : meth.sig.returnType = none) (hlk : meth.locks = false) (hown : s.vm.findClass RX4 = some m.cls) (hX : Kx D cA lo tS s) (hRf : 305 ≤ R.frames) (hRl : 18300 ≤ R.locals) {N : Nat} {rv : Unit} {g1 : Hg} {S : Hs} : ∀ (H : Heap) (locs : List Loc) (ls : Array Slot) (g : Hg) (a0 : Nat) (a1 : Nat) (a2 : Nat), Mm D cA lo S g s H locs → Rf lo S a0 4 → Rf lo S a1 2 → Rf lo S a2 20 → lv_has ls 3 [(0, .ref a0), (1, .ref a1), (2, .ref a2)] → b_X4_writeTree_0 N S g a0 a1 a2 = some (rv, g1) → W p l e R s m args below meth c H locs 0 0 (MQ below (Qcx D cA lo S none S g1 True) args s 0 0 (fun q : Nat => lo ≤ q)) (F0 m 0 ls []) := by
  intro H locs ls g a0 a1 a2 M ra0 ra1 ra2 hl q
  unfold b_X4_writeTree_0 at q
  refine lv_aload_n hx hb dX4_writeTree_0 rfl (lv_at hl 0 rfl) ?_
  refine lv_aload_n hx hb dX4_writeTree_1 rfl (lv_at hl 1 rfl) ?_
  refine lv_iconst (v := 0) hx hb dX4_writeTree_2 (by decide) ?_
  refine lv_aload_n hx hb dX4_writeTree_3 rfl (lv_at hl 0 rfl) ?_
  refine x_getI hx hb hown hX M (k := 5) okX4 ra0 (by decide) rfl kw_102 dX4_writeTree_4 ?_
  refine lv_iconst (v := 0) hx hb dX4_writeTree_7 (by decide) ?_
  refine lv_iconst (v := 0) hx hb dX4_writeTree_8 (by decide) ?_
  replace q := c2_s q
  obtain ⟨u_2, g_1, qc, q⟩ := q
  refine x_callS hx hb hml hl.1 hown hX M (S1 := S) (As := [.ref a0, .ref a1, .int (0 : Int32), .int (rdI g a0 5), .int (0 : Int32), .int (0 : Int32)]) (rest := []) kw_695 mok_X4_plant (c_X4_plant ra0 ra1 qc (Nat.le_refl 304)) kw_694 rfl rfl dX4_writeTree_9 (Nat.le_of_ble_eq_true rfl) ⟨Nat.le_trans (by decide) hRf, Nat.le_trans (by decide) hRl⟩ (Nat.zero_le _) (Nat.zero_le _) (fun H locs M hEF => ?_)
  refine lv_aload_n hx hb dX4_writeTree_12 rfl (lv_at hl 0 rfl) ?_
  replace q := nn_s q
  obtain ⟨a_3, e_a_3, q⟩ := q
  refine x_getR hx hb hown hX M e_a_3 okX4 ra0 (by decide) rfl kw_100 dX4_writeTree_13 (fun ra_3 => ?_)
  refine lv_iconst (v := 0) hx hb dX4_writeTree_16 (by decide) ?_
  refine lv_aload_n hx hb dX4_writeTree_17 rfl (lv_at hl 2 rfl) ?_
  refine lv_iconst (v := 0) hx hb dX4_writeTree_18 (by decide) ?_
  replace q := c2_s q
  obtain ⟨u_5, g_4, qc, q⟩ := q
  refine x_callSN hx hb hml hl.1 hown hX M (S1 := S) (As := [.ref a_3, .int (0 : Int32), .ref a2, .int (0 : Int32)]) (rest := []) kw_669 mok_X11_copySum (c_X11_copySum ra_3 ra2 qc (Nat.le_refl 1)) kw_714 rfl rfl dX4_writeTree_19 (Nat.le_of_ble_eq_true rfl) ⟨Nat.le_trans (by decide) hRf, Nat.le_trans (by decide) hRl⟩ (Nat.zero_le _) (Nat.zero_le _) (fun H locs M hEF => ?_)
  cases q
  exact x_vret hx hb hr hlk M Ext.rf dX4_writeTree_22
set_option maxRecDepth 100000 in
theorem c_X4_writeTree {l : Launch} {D : va_G} {cA : Nat → ClassId} {lo tS N : Nat} {S : Hs} {g g1 : Hg} {rv : Unit} {a0 : Nat} {a1 : Nat} {a2 : Nat} (ra0 : Rf lo S a0 4) (ra1 : Rf lo S a1 2) (ra2 : Rf lo S a2 20) (q : f_X4_writeTree N S g a0 a1 a2 = some (rv, g1)) {d : Nat} (hd : 305 ≤ d) : Ctr l yX4_writeTree cX4_writeTree 3 none D cA lo tS [.ref a0, .ref a1, .ref a2] S g d none S g1 True 0 0 := by
  refine x_met (by decide) (Nat.le_of_ble_eq_true rfl) ?_
  intro p e s m below meth c ls hx hb hml hr hlk hown hnm hX M hl
  exact w_X4_writeTree_0 hx hb hml hr hlk hown hX hd (Nat.mul_le_mul_left 60 hd) (N := N) _ _ _ _ _ _ _ M ra0 ra1 ra2 (lv_sub hl [0, 1, 2] rfl) q
def b_X8_treeOf_37 (N : Nat) (S : Hs) (g : Hg) (a1 : Nat) (a3 : Nat) : Option (Unit × Hg) :=
nn (rdR g a1 8) (fun a_1 =>
c2 (f_X11_copySum N S g a_1 (0 : Int32) a3 (0 : Int32)) (fun u_3 g_2 =>
some ((), g_2)))
def b_X8_treeOf_0 (N : Nat) (S : Hs) (g : Hg) (a0 : Nat) (a1 : Nat) (x2 : Int32) (a3 : Nat) : Option (Unit × Hg) :=
if (rdI g a1 9) = x2 then (
b_X8_treeOf_37 N S g a1 a3) else (
nn (rdR g a0 1) (fun a_2 =>
c2 (f_X4_read N S g a_2 a1 x2) (fun u_4 g_3 =>
nn (rdR g_3 a0 1) (fun a_5 =>
nn (rdR g_3 a1 0) (fun a_6 =>
nn (rdR g_3 a1 8) (fun a_7 =>
c2 (f_X4_writeTree N S g_3 a_5 a_6 a_7) (fun u_9 g_8 =>
nm (wrI g_8 a1 9 x2) (fun g_10 =>
b_X8_treeOf_37 N S g_10 a1 a3))))))))
def f_X8_treeOf (N : Nat) (S : Hs) (g : Hg) (a0 : Nat) (a1 : Nat) (x2 : Int32) (a3 : Nat) : Option (Unit × Hg) := b_X8_treeOf_0 N S g a0 a1 x2 a3
set_option maxHeartbeats 4000000 in
set_option maxRecDepth 100000 in
theorem w_X8_treeOf_37 (hx : p.tables.exec = Jvm.exec) (hb : c.code = cX8_treeOf) (hml : c.maxLocals = 4) (hr : meth.sig.returnType = none) (hlk : meth.locks = false) (hown : s.vm.findClass RX8 = some m.cls) (hX : Kx D cA lo tS s) (hRf : 306 ≤ R.frames) (hRl : 18360 ≤ R.locals) {N : Nat} {rv : Unit} {g1 : Hg} {S : Hs} : ∀ (H : Heap) (locs : List Loc) (ls : Array Slot) (g : Hg) (a1 : Nat) (a3 : Nat), Mm D cA lo S g s H locs → Rf lo S a1 3 → Rf lo S a3 20 → lv_has ls 4 [(1, .ref a1), (3, .ref a3)] → b_X8_treeOf_37 N S g a1 a3 = some (rv, g1) → W p l e R s m args below meth c H locs 0 0 (MQ below (Qcx D cA lo S none S g1 True) args s 0 0 (fun q : Nat => lo ≤ q)) (F0 m 37 ls []) := by
  intro H locs ls g a1 a3 M ra1 ra3 hl q
  unfold b_X8_treeOf_37 at q
  refine lv_aload_n hx hb dX8_treeOf_37 rfl (lv_at hl 0 rfl) ?_
  replace q := nn_s q
  obtain ⟨a_1, e_a_1, q⟩ := q
  refine x_getR hx hb hown hX M e_a_1 okX3 ra1 (by decide) rfl kw_462 dX8_treeOf_38 (fun ra_1 => ?_)
  refine lv_iconst (v := 0) hx hb dX8_treeOf_41 (by decide) ?_
  refine lv_aload_n hx hb dX8_treeOf_42 rfl (lv_at hl 1 rfl) ?_
  refine lv_iconst (v := 0) hx hb dX8_treeOf_43 (by decide) ?_
  replace q := c2_s q
  obtain ⟨u_3, g_2, qc, q⟩ := q
  refine x_callSN hx hb hml hl.1 hown hX M (S1 := S) (As := [.ref a_1, .int (0 : Int32), .ref a3, .int (0 : Int32)]) (rest := []) kw_669 mok_X11_copySum (c_X11_copySum ra_1 ra3 qc (Nat.le_refl 1)) kw_715 rfl rfl dX8_treeOf_44 (Nat.le_of_ble_eq_true rfl) ⟨Nat.le_trans (by decide) hRf, Nat.le_trans (by decide) hRl⟩ (Nat.zero_le _) (Nat.zero_le _) (fun H locs M hEF => ?_)
  cases q
  exact x_vret hx hb hr hlk M Ext.rf dX8_treeOf_47
set_option maxHeartbeats 4000000 in
set_option maxRecDepth 100000 in
theorem w_X8_treeOf_0 (hx : p.tables.exec = Jvm.exec) (hb : c.code = cX8_treeOf) (hml : c.maxLocals = 4) (hr : meth.sig.returnType = none) (hlk : meth.locks = false) (hown : s.vm.findClass RX8 = some m.cls) (hX : Kx D cA lo tS s) (hRf : 306 ≤ R.frames) (hRl : 18360 ≤ R.locals) {N : Nat} {rv : Unit} {g1 : Hg} {S : Hs} : ∀ (H : Heap) (locs : List Loc) (ls : Array Slot) (g : Hg) (a0 : Nat) (a1 : Nat) (x2 : Int32) (a3 : Nat), Mm D cA lo S g s H locs → Rf lo S a0 8 → Rf lo S a1 3 → Rf lo S a3 20 → lv_has ls 4 [(0, .ref a0), (1, .ref a1), (2, .int x2), (3, .ref a3)] → b_X8_treeOf_0 N S g a0 a1 x2 a3 = some (rv, g1) → W p l e R s m args below meth c H locs 0 0 (MQ below (Qcx D cA lo S none S g1 True) args s 0 0 (fun q : Nat => lo ≤ q)) (F0 m 0 ls []) := by
  intro H locs ls g a0 a1 x2 a3 M ra0 ra1 ra3 hl q
  unfold b_X8_treeOf_0 at q
  refine lv_aload_n hx hb dX8_treeOf_0 rfl (lv_at hl 1 rfl) ?_
  refine x_getI hx hb hown hX M (k := 9) okX3 ra1 (by decide) rfl kw_464 dX8_treeOf_1 ?_
  refine lv_iload_n hx hb dX8_treeOf_4 rfl (lv_at hl 2 rfl) ?_
  refine lv_icmp_eq (tgt := 37) hx hb dX8_treeOf_5 (by decide) (fun c_1 => ?_) (fun c_1 => ?_)
  · replace q := if_t c_1 q
    exact w_X8_treeOf_37 hx hb hml hr hlk hown hX hRf hRl (N := N)  _ _ _ _ _ _ M ra1 ra3 (lv_sub hl [1, 3] rfl) q
  · replace q := if_f c_1 q
    refine lv_aload_n hx hb dX8_treeOf_8 rfl (lv_at hl 0 rfl) ?_
    replace q := nn_s q
    obtain ⟨a_2, e_a_2, q⟩ := q
    refine x_getR hx hb hown hX M e_a_2 okX8 ra0 (by decide) rfl kw_146 dX8_treeOf_9 (fun ra_2 => ?_)
    refine lv_aload_n hx hb dX8_treeOf_12 rfl (lv_at hl 1 rfl) ?_
    refine lv_iload_n hx hb dX8_treeOf_13 rfl (lv_at hl 2 rfl) ?_
    replace q := c2_s q
    obtain ⟨u_4, g_3, qc, q⟩ := q
    refine x_callV hx hb hml hl.1 hown hX M (S1 := S) (As := [.ref a1, .int x2]) (rest := []) okX4 ra_2 rfl kw_615 kw_616 mok_X4_read (c_X4_read ra_2 ra1 qc (Nat.le_refl 3)) kw_689 rfl rfl dX8_treeOf_14 (Nat.le_of_ble_eq_true rfl) ⟨Nat.le_trans (by decide) hRf, Nat.le_trans (by decide) hRl⟩ (Nat.zero_le _) (Nat.zero_le _) (fun H locs M hEF => ?_)
    refine lv_aload_n hx hb dX8_treeOf_17 rfl (lv_at hl 0 rfl) ?_
    replace q := nn_s q
    obtain ⟨a_5, e_a_5, q⟩ := q
    refine x_getR hx hb hown hX M e_a_5 okX8 ra0 (by decide) rfl kw_146 dX8_treeOf_18 (fun ra_5 => ?_)
    refine lv_aload_n hx hb dX8_treeOf_21 rfl (lv_at hl 1 rfl) ?_
    replace q := nn_s q
    obtain ⟨a_6, e_a_6, q⟩ := q
    refine x_getR hx hb hown hX M e_a_6 okX3 ra1 (by decide) rfl kw_442 dX8_treeOf_22 (fun ra_6 => ?_)
    refine lv_aload_n hx hb dX8_treeOf_25 rfl (lv_at hl 1 rfl) ?_
    replace q := nn_s q
    obtain ⟨a_7, e_a_7, q⟩ := q
    refine x_getR hx hb hown hX M e_a_7 okX3 ra1 (by decide) rfl kw_462 dX8_treeOf_26 (fun ra_7 => ?_)
    replace q := c2_s q
    obtain ⟨u_9, g_8, qc, q⟩ := q
    refine x_callV hx hb hml hl.1 hown hX M (S1 := S) (As := [.ref a_6, .ref a_7]) (rest := []) okX4 ra_5 rfl kw_691 kw_692 mok_X4_writeTree (c_X4_writeTree ra_5 ra_6 ra_7 qc (Nat.le_refl 305)) kw_690 rfl rfl dX8_treeOf_29 (Nat.le_of_ble_eq_true rfl) ⟨Nat.le_trans (by decide) hRf, Nat.le_trans (by decide) hRl⟩ (Nat.zero_le _) (Nat.zero_le _) (fun H locs M hEF => ?_)
    refine lv_aload_n hx hb dX8_treeOf_32 rfl (lv_at hl 1 rfl) ?_
    refine lv_iload_n hx hb dX8_treeOf_33 rfl (lv_at hl 2 rfl) ?_
    refine x_putI hx hb hown hX M (k := 9) okX3 ra1 (by decide) rfl (Or.inl rfl) rfl rfl kw_464 dX8_treeOf_34 (fun H locs M => ?_)
    replace q := gen_g M q
    obtain ⟨g_10, -, M, q⟩ := q
    exact w_X8_treeOf_37 hx hb hml hr hlk hown hX hRf hRl (N := N)  _ _ _ _ _ _ M ra1 ra3 (lv_sub hl [1, 3] rfl) q
set_option maxRecDepth 100000 in
theorem c_X8_treeOf {l : Launch} {D : va_G} {cA : Nat → ClassId} {lo tS N : Nat} {S : Hs} {g g1 : Hg} {rv : Unit} {a0 : Nat} {a1 : Nat} {x2 : Int32} {a3 : Nat} (ra0 : Rf lo S a0 8) (ra1 : Rf lo S a1 3) (ra3 : Rf lo S a3 20) (q : f_X8_treeOf N S g a0 a1 x2 a3 = some (rv, g1)) {d : Nat} (hd : 306 ≤ d) : Ctr l yX8_treeOf cX8_treeOf 4 none D cA lo tS [.ref a0, .ref a1, .int x2, .ref a3] S g d none S g1 True 0 0 := by
  refine x_met (by decide) (Nat.le_of_ble_eq_true rfl) ?_
  intro p e s m below meth c ls hx hb hml hr hlk hown hnm hX M hl
  exact w_X8_treeOf_0 hx hb hml hr hlk hown hX hd (Nat.mul_le_mul_left 60 hd) (N := N) _ _ _ _ _ _ _ _ M ra0 ra1 ra3 (lv_sub hl [0, 1, 2, 3] rfl) q
def b_X8_makeHead_0 (N : Nat) (S : Hs) (g : Hg) (a0 : Nat) (a1 : Nat) (x2 : Int32) (x3 : Int32) (a4 : Nat) : Option (Unit × Hg) :=
nm (wrI g a4 3 (1 : Int32)) (fun g_1 =>
nm (wrI g_1 a4 4 x3) (fun g_2 =>
nm (wrI g_2 a4 5 x2) (fun g_3 =>
nm (wrI g_3 a4 6 (rdI g_3 a1 6)) (fun g_4 =>
nn (rdR g_4 a4 0) (fun a_5 =>
c2 (f_X8_topOf N S g_4 a0 a1 x3 a_5) (fun u_7 g_6 =>
nn (rdR g_6 a4 1) (fun a_8 =>
c2 (f_X8_treeOf N S g_6 a0 a1 x3 a_8) (fun u_10 g_9 =>
nn (rdR g_9 a0 0) (fun a_11 =>
nn (rdR g_9 a4 2) (fun a_12 =>
c2 (f_X6_markOf N S g_9 a_11 a4 a_12) (fun u_14 g_13 =>
some ((), g_13))))))))))))
def f_X8_makeHead (N : Nat) (S : Hs) (g : Hg) (a0 : Nat) (a1 : Nat) (x2 : Int32) (x3 : Int32) (a4 : Nat) : Option (Unit × Hg) := b_X8_makeHead_0 N S g a0 a1 x2 x3 a4
set_option maxHeartbeats 4000000 in
set_option maxRecDepth 100000 in
theorem w_X8_makeHead_0 (hx : p.tables.exec = Jvm.exec) (hb : c.code = cX8_makeHead) (hml : c.maxLocals = 5) (hr : meth.sig.returnType = none) (hlk : meth.locks = false) (hown : s.vm.findClass RX8 = some m.cls) (hX : Kx D cA lo tS s) (hRf : 307 ≤ R.frames) (hRl : 18420 ≤ R.locals) {N : Nat} {rv : Unit} {g1 : Hg} {S : Hs} : ∀ (H : Heap) (locs : List Loc) (ls : Array Slot) (g : Hg) (a0 : Nat) (a1 : Nat) (x2 : Int32) (x3 : Int32) (a4 : Nat), Mm D cA lo S g s H locs → Rf lo S a0 8 → Rf lo S a1 3 → Rf lo S a4 0 → lv_has ls 5 [(0, .ref a0), (1, .ref a1), (2, .int x2), (3, .int x3), (4, .ref a4)] → b_X8_makeHead_0 N S g a0 a1 x2 x3 a4 = some (rv, g1) → W p l e R s m args below meth c H locs 0 0 (MQ below (Qcx D cA lo S none S g1 True) args s 0 0 (fun q : Nat => lo ≤ q)) (F0 m 0 ls []) := by
  intro H locs ls g a0 a1 x2 x3 a4 M ra0 ra1 ra4 hl q
  unfold b_X8_makeHead_0 at q
  refine lv_aload hx hb dX8_makeHead_0 (lv_at hl 4 rfl) ?_
  refine lv_iconst (v := 1) hx hb dX8_makeHead_2 (by decide) ?_
  refine x_putI hx hb hown hX M (k := 3) okX0 ra4 (by decide) rfl (Or.inl rfl) rfl rfl kw_260 dX8_makeHead_3 (fun H locs M => ?_)
  replace q := gen_g M q
  obtain ⟨g_1, -, M, q⟩ := q
  refine lv_aload hx hb dX8_makeHead_6 (lv_at hl 4 rfl) ?_
  refine lv_iload_n hx hb dX8_makeHead_8 rfl (lv_at hl 3 rfl) ?_
  refine x_putI hx hb hown hX M (k := 4) okX0 ra4 (by decide) rfl (Or.inl rfl) rfl rfl kw_263 dX8_makeHead_9 (fun H locs M => ?_)
  replace q := gen_g M q
  obtain ⟨g_2, -, M, q⟩ := q
  refine lv_aload hx hb dX8_makeHead_12 (lv_at hl 4 rfl) ?_
  refine lv_iload_n hx hb dX8_makeHead_14 rfl (lv_at hl 2 rfl) ?_
  refine x_putI hx hb hown hX M (k := 5) okX0 ra4 (by decide) rfl (Or.inl rfl) rfl rfl kw_267 dX8_makeHead_15 (fun H locs M => ?_)
  replace q := gen_g M q
  obtain ⟨g_3, -, M, q⟩ := q
  refine lv_aload hx hb dX8_makeHead_18 (lv_at hl 4 rfl) ?_
  refine lv_aload_n hx hb dX8_makeHead_20 rfl (lv_at hl 1 rfl) ?_
  refine x_getI hx hb hown hX M (k := 6) okX3 ra1 (by decide) rfl kw_455 dX8_makeHead_21 ?_
  refine x_putI hx hb hown hX M (k := 6) okX0 ra4 (by decide) rfl (Or.inl rfl) rfl rfl kw_270 dX8_makeHead_24 (fun H locs M => ?_)
  replace q := gen_g M q
  obtain ⟨g_4, -, M, q⟩ := q
  refine lv_aload_n hx hb dX8_makeHead_27 rfl (lv_at hl 0 rfl) ?_
  refine lv_aload_n hx hb dX8_makeHead_28 rfl (lv_at hl 1 rfl) ?_
  refine lv_iload_n hx hb dX8_makeHead_29 rfl (lv_at hl 3 rfl) ?_
  refine lv_aload hx hb dX8_makeHead_30 (lv_at hl 4 rfl) ?_
  replace q := nn_s q
  obtain ⟨a_5, e_a_5, q⟩ := q
  refine x_getR hx hb hown hX M e_a_5 okX0 ra4 (by decide) rfl kw_249 dX8_makeHead_32 (fun ra_5 => ?_)
  replace q := c2_s q
  obtain ⟨u_7, g_6, qc, q⟩ := q
  refine x_callV hx hb hml hl.1 hown hX M (S1 := S) (As := [.ref a1, .int x3, .ref a_5]) (rest := []) okX8 ra0 rfl kw_650 kw_651 mok_X8_topOf (c_X8_topOf ra0 ra1 ra_5 qc (Nat.le_refl 6)) kw_720 rfl rfl dX8_makeHead_35 (Nat.le_of_ble_eq_true rfl) ⟨Nat.le_trans (by decide) hRf, Nat.le_trans (by decide) hRl⟩ (Nat.zero_le _) (Nat.zero_le _) (fun H locs M hEF => ?_)
  refine lv_aload_n hx hb dX8_makeHead_38 rfl (lv_at hl 0 rfl) ?_
  refine lv_aload_n hx hb dX8_makeHead_39 rfl (lv_at hl 1 rfl) ?_
  refine lv_iload_n hx hb dX8_makeHead_40 rfl (lv_at hl 3 rfl) ?_
  refine lv_aload hx hb dX8_makeHead_41 (lv_at hl 4 rfl) ?_
  replace q := nn_s q
  obtain ⟨a_8, e_a_8, q⟩ := q
  refine x_getR hx hb hown hX M e_a_8 okX0 ra4 (by decide) rfl kw_253 dX8_makeHead_43 (fun ra_8 => ?_)
  replace q := c2_s q
  obtain ⟨u_10, g_9, qc, q⟩ := q
  refine x_callV hx hb hml hl.1 hown hX M (S1 := S) (As := [.ref a1, .int x3, .ref a_8]) (rest := []) okX8 ra0 rfl kw_686 kw_687 mok_X8_treeOf (c_X8_treeOf ra0 ra1 ra_8 qc (Nat.le_refl 306)) kw_721 rfl rfl dX8_makeHead_46 (Nat.le_of_ble_eq_true rfl) ⟨Nat.le_trans (by decide) hRf, Nat.le_trans (by decide) hRl⟩ (Nat.zero_le _) (Nat.zero_le _) (fun H locs M hEF => ?_)
  refine lv_aload_n hx hb dX8_makeHead_49 rfl (lv_at hl 0 rfl) ?_
  replace q := nn_s q
  obtain ⟨a_11, e_a_11, q⟩ := q
  refine x_getR hx hb hown hX M e_a_11 okX8 ra0 (by decide) rfl kw_145 dX8_makeHead_50 (fun ra_11 => ?_)
  refine lv_aload hx hb dX8_makeHead_53 (lv_at hl 4 rfl) ?_
  refine lv_aload hx hb dX8_makeHead_55 (lv_at hl 4 rfl) ?_
  replace q := nn_s q
  obtain ⟨a_12, e_a_12, q⟩ := q
  refine x_getR hx hb hown hX M e_a_12 okX0 ra4 (by decide) rfl kw_257 dX8_makeHead_57 (fun ra_12 => ?_)
  replace q := c2_s q
  obtain ⟨u_14, g_13, qc, q⟩ := q
  refine x_callV hx hb hml hl.1 hown hX M (S1 := S) (As := [.ref a4, .ref a_12]) (rest := []) okX6 ra_11 rfl kw_723 kw_724 mok_X6_markOf (c_X6_markOf ra_11 ra4 ra_12 qc (Nat.le_refl 3)) kw_722 rfl rfl dX8_makeHead_60 (Nat.le_of_ble_eq_true rfl) ⟨Nat.le_trans (by decide) hRf, Nat.le_trans (by decide) hRl⟩ (Nat.zero_le _) (Nat.zero_le _) (fun H locs M hEF => ?_)
  cases q
  exact x_vret hx hb hr hlk M Ext.rf dX8_makeHead_63
set_option maxRecDepth 100000 in
theorem c_X8_makeHead {l : Launch} {D : va_G} {cA : Nat → ClassId} {lo tS N : Nat} {S : Hs} {g g1 : Hg} {rv : Unit} {a0 : Nat} {a1 : Nat} {x2 : Int32} {x3 : Int32} {a4 : Nat} (ra0 : Rf lo S a0 8) (ra1 : Rf lo S a1 3) (ra4 : Rf lo S a4 0) (q : f_X8_makeHead N S g a0 a1 x2 x3 a4 = some (rv, g1)) {d : Nat} (hd : 307 ≤ d) : Ctr l yX8_makeHead cX8_makeHead 5 none D cA lo tS [.ref a0, .ref a1, .int x2, .int x3, .ref a4] S g d none S g1 True 0 0 := by
  refine x_met (by decide) (Nat.le_of_ble_eq_true rfl) ?_
  intro p e s m below meth c ls hx hb hml hr hlk hown hnm hX M hl
  exact w_X8_makeHead_0 hx hb hml hr hlk hown hX hd (Nat.mul_le_mul_left 60 hd) (N := N) _ _ _ _ _ _ _ _ _ M ra0 ra1 ra4 (lv_sub hl [0, 1, 2, 3, 4] rfl) q
def b_X11_head_0 (N : Nat) (S : Hs) (g : Hg) (a0 : Nat) (x1 : Int32) (x2 : Int32) (x3 : Int32) (x4 : Int32) : Option (Int32 × Hg) :=
nn (rdR g a0 3) (fun a_1 =>
c2 (f_X1_logAt N S g a_1 x1) (fun o_3 g_2 =>
on o_3 (
some ((0 : Int32), g_2)) (fun a_4 =>
c2 (f_X3_reaches N S g_2 a_4 x2) (fun x_6 g_5 =>
if x_6 = 0 then (
some ((0 : Int32), g_5)) else (
c2 (f_X11_isPlaceInSum N S g_5 x4) (fun x_9 g_8 =>
if x_9 = 0 then (
some ((0 : Int32), g_8)) else (
nm x3 (fun x_11 =>
if x_11 = 0 then (
nn (rdR g_8 a0 2) (fun a_12 =>
nn (rdR g_8 a0 4) (fun a_13 =>
nn (rdR g_8 a_13 0) (fun a_14 =>
c2 (f_X8_topOf N S g_8 a_12 a_4 x2 a_14) (fun u_16 g_15 =>
nn (rdR g_15 a0 4) (fun a_17 =>
nn (rdR g_15 a_17 0) (fun a_18 =>
ck (inb x4 (hpL S a_18)) (
some ((rdI g_15 a_18 x4.toNatClampNeg), g_15))))))))) else (
if x_11 = 1 then (
nn (rdR g_8 a0 2) (fun a_19 =>
nn (rdR g_8 a0 4) (fun a_20 =>
nn (rdR g_8 a_20 1) (fun a_21 =>
c2 (f_X8_treeOf N S g_8 a_19 a_4 x2 a_21) (fun u_23 g_22 =>
nn (rdR g_22 a0 4) (fun a_24 =>
nn (rdR g_22 a_24 1) (fun a_25 =>
ck (inb x4 (hpL S a_25)) (
some ((rdI g_22 a_25 x4.toNatClampNeg), g_22))))))))) else (
if x_11 = 2 then (
nn (rdR g_8 a0 2) (fun a_26 =>
nn (rdR g_8 a0 4) (fun a_27 =>
c2 (f_X8_makeHead N S g_8 a_26 a_4 x1 x2 a_27) (fun u_29 g_28 =>
nn (rdR g_28 a0 4) (fun a_30 =>
nn (rdR g_28 a_30 2) (fun a_31 =>
ck (inb x4 (hpL S a_31)) (
some ((rdI g_28 a_31 x4.toNatClampNeg), g_28)))))))) else (
some ((0 : Int32), g_8))))))))))))
def f_X11_head (N : Nat) (S : Hs) (g : Hg) (a0 : Nat) (x1 : Int32) (x2 : Int32) (x3 : Int32) (x4 : Int32) : Option (Int32 × Hg) := b_X11_head_0 N S g a0 x1 x2 x3 x4
set_option maxHeartbeats 4000000 in
set_option maxRecDepth 100000 in
theorem w_X11_head_0 (hx : p.tables.exec = Jvm.exec) (hb : c.code = cX11_head) (hml : c.maxLocals = 6) (hr : meth.sig.returnType = (some .int)) (hlk : meth.locks = false) (hown : s.vm.findClass RX11 = some m.cls) (hX : Kx D cA lo tS s) (hRf : 308 ≤ R.frames) (hRl : 18480 ≤ R.locals) {N : Nat} {rv : Int32} {g1 : Hg} {S : Hs} : ∀ (H : Heap) (locs : List Loc) (ls : Array Slot) (g : Hg) (a0 : Nat) (x1 : Int32) (x2 : Int32) (x3 : Int32) (x4 : Int32), Mm D cA lo S g s H locs → Rf lo S a0 11 → lv_has ls 6 [(0, .ref a0), (1, .int x1), (2, .int x2), (3, .int x3), (4, .int x4)] → b_X11_head_0 N S g a0 x1 x2 x3 x4 = some (rv, g1) → W p l e R s m args below meth c H locs 0 0 (MQ below (Qcx D cA lo S (some (.int rv)) S g1 True) args s 0 0 (fun q : Nat => lo ≤ q)) (F0 m 0 ls []) := by
  intro H locs ls g a0 x1 x2 x3 x4 M ra0 hl q
  unfold b_X11_head_0 at q
  refine lv_aload_n hx hb dX11_head_0 rfl (lv_at hl 0 rfl) ?_
  replace q := nn_s q
  obtain ⟨a_1, e_a_1, q⟩ := q
  refine x_getR hx hb hown hX M e_a_1 okX11 ra0 (by decide) rfl kw_359 dX11_head_1 (fun ra_1 => ?_)
  refine lv_iload_n hx hb dX11_head_4 rfl (lv_at hl 1 rfl) ?_
  replace q := c2_s q
  obtain ⟨o_3, g_2, qc, q⟩ := q
  refine x_callV hx hb hml hl.1 hown hX M (S1 := S) (As := [.int x1]) (rest := []) okX1 ra_1 rfl kw_495 kw_496 mok_X1_logAt (c_X1_logAt ra_1 qc (Nat.le_refl 1)) kw_494 rfl rfl dX11_head_5 (Nat.le_of_ble_eq_true rfl) ⟨Nat.le_trans (by decide) hRf, Nat.le_trans (by decide) hRl⟩ (Nat.zero_le _) (Nat.zero_le _) (fun H locs M hEF => ?_)
  have ro_3 := hEF.2
  refine x_astore (lv' := [(5, va_rf o_3), (0, .ref a0), (1, .int x1), (2, .int x2), (3, .int x3), (4, .int x4)]) hx hb dX11_head_8 hl (by decide) rfl (fun ls hl => ?_)
  refine x_aload hx hb dX11_head_10 (lv_at hl 0 rfl) ?_
  refine x_ifnull (tgt := 32) hx hb dX11_head_12 (by decide) (fun c_32 => ?_) (fun a_4 c_32 => ?_)
  · replace q := on_n c_32 q
    refine lv_iconst (v := 0) hx hb dX11_head_32 (by decide) ?_
    cases q
    exact x_iret hx hb hr hlk M Ext.rf dX11_head_33
  · subst c_32
    replace q := on_s rfl q
    have ra_4 := ro_3 a_4 rfl
    have hl : lv_has ls 6 [(5, .ref a_4), (0, .ref a0), (1, .int x1), (2, .int x2), (3, .int x3), (4, .int x4)] := hl
    refine lv_aload hx hb dX11_head_15 (lv_at hl 0 rfl) ?_
    refine lv_iload_n hx hb dX11_head_17 rfl (lv_at hl 3 rfl) ?_
    replace q := c2_s q
    obtain ⟨x_6, g_5, qc, q⟩ := q
    refine x_callV hx hb hml hl.1 hown hX M (S1 := S) (As := [.int x2]) (rest := []) okX3 ra_4 rfl kw_550 kw_551 mok_X3_reaches (c_X3_reaches ra_4 qc (Nat.le_refl 1)) kw_549 rfl rfl dX11_head_18 (Nat.le_of_ble_eq_true rfl) ⟨Nat.le_trans (by decide) hRf, Nat.le_trans (by decide) hRl⟩ (Nat.zero_le _) (Nat.zero_le _) (fun H locs M hEF => ?_)
    refine lv_if_eq (tgt := 32) hx hb dX11_head_21 (by decide) (fun c_7 => ?_) (fun c_7 => ?_)
    · replace q := if_t c_7 q
      refine lv_iconst (v := 0) hx hb dX11_head_32 (by decide) ?_
      cases q
      exact x_iret hx hb hr hlk M Ext.rf dX11_head_33
    · replace q := if_f c_7 q
      refine lv_iload hx hb dX11_head_24 (lv_at hl 5 rfl) ?_
      replace q := c2_s q
      obtain ⟨x_9, g_8, qc, q⟩ := q
      refine x_callS hx hb hml hl.1 hown hX M (S1 := S) (As := [.int x4]) (rest := []) kw_647 mok_X11_isPlaceInSum (c_X11_isPlaceInSum  qc (Nat.le_refl 1)) kw_646 rfl rfl dX11_head_26 (Nat.le_of_ble_eq_true rfl) ⟨Nat.le_trans (by decide) hRf, Nat.le_trans (by decide) hRl⟩ (Nat.zero_le _) (Nat.zero_le _) (fun H locs M hEF => ?_)
      refine lv_if_ne (tgt := 34) hx hb dX11_head_29 (by decide) (fun c_10 => ?_) (fun c_10 => ?_)
      · replace q := if_f c_10 q
        refine lv_iload_n hx hb dX11_head_34 rfl (lv_at hl 4 rfl) ?_
        refine lv_topi (fun x_11 e_x_11 => ?_)
        replace q := nm_s q e_x_11
        clear e_x_11
        by_cases cx_11_0 : x_11 = 0
        · replace q := if_t cx_11_0 q
          subst cx_11_0
          refine lv_tableIn (off := 25) (tgt := 60) hx hb dX11_head_35 (by decide) (by decide) (by decide) (by decide) ?_
          refine lv_aload_n hx hb dX11_head_60 rfl (lv_at hl 1 rfl) ?_
          replace q := nn_s q
          obtain ⟨a_12, e_a_12, q⟩ := q
          refine x_getR hx hb hown hX M e_a_12 okX11 ra0 (by decide) rfl kw_358 dX11_head_61 (fun ra_12 => ?_)
          refine lv_aload hx hb dX11_head_64 (lv_at hl 0 rfl) ?_
          refine lv_iload_n hx hb dX11_head_66 rfl (lv_at hl 3 rfl) ?_
          refine lv_aload_n hx hb dX11_head_67 rfl (lv_at hl 1 rfl) ?_
          replace q := nn_s q
          obtain ⟨a_13, e_a_13, q⟩ := q
          refine x_getR hx hb hown hX M e_a_13 okX11 ra0 (by decide) rfl kw_360 dX11_head_68 (fun ra_13 => ?_)
          replace q := nn_s q
          obtain ⟨a_14, e_a_14, q⟩ := q
          refine x_getR hx hb hown hX M e_a_14 okX0 ra_13 (by decide) rfl kw_251 dX11_head_71 (fun ra_14 => ?_)
          replace q := c2_s q
          obtain ⟨u_16, g_15, qc, q⟩ := q
          refine x_callV hx hb hml hl.1 hown hX M (S1 := S) (As := [.ref a_4, .int x2, .ref a_14]) (rest := []) okX8 ra_12 rfl kw_650 kw_651 mok_X8_topOf (c_X8_topOf ra_12 ra_4 ra_14 qc (Nat.le_refl 6)) kw_649 rfl rfl dX11_head_74 (Nat.le_of_ble_eq_true rfl) ⟨Nat.le_trans (by decide) hRf, Nat.le_trans (by decide) hRl⟩ (Nat.zero_le _) (Nat.zero_le _) (fun H locs M hEF => ?_)
          refine lv_aload_n hx hb dX11_head_77 rfl (lv_at hl 1 rfl) ?_
          replace q := nn_s q
          obtain ⟨a_17, e_a_17, q⟩ := q
          refine x_getR hx hb hown hX M e_a_17 okX11 ra0 (by decide) rfl kw_360 dX11_head_78 (fun ra_17 => ?_)
          replace q := nn_s q
          obtain ⟨a_18, e_a_18, q⟩ := q
          refine x_getR hx hb hown hX M e_a_18 okX0 ra_17 (by decide) rfl kw_251 dX11_head_81 (fun ra_18 => ?_)
          refine lv_iload hx hb dX11_head_84 (lv_at hl 5 rfl) ?_
          replace q := ck_s q
          obtain ⟨hin, q⟩ := q
          refine x_iald hx hb hX M ra_18 (inb_in hin) dX11_head_86 ?_
          cases q
          exact x_iret hx hb hr hlk M Ext.rf dX11_head_87
        replace q := if_f cx_11_0 q
        by_cases cx_11_1 : x_11 = 1
        · replace q := if_t cx_11_1 q
          subst cx_11_1
          refine lv_tableIn (off := 53) (tgt := 88) hx hb dX11_head_35 (by decide) (by decide) (by decide) (by decide) ?_
          refine lv_aload_n hx hb dX11_head_88 rfl (lv_at hl 1 rfl) ?_
          replace q := nn_s q
          obtain ⟨a_19, e_a_19, q⟩ := q
          refine x_getR hx hb hown hX M e_a_19 okX11 ra0 (by decide) rfl kw_358 dX11_head_89 (fun ra_19 => ?_)
          refine lv_aload hx hb dX11_head_92 (lv_at hl 0 rfl) ?_
          refine lv_iload_n hx hb dX11_head_94 rfl (lv_at hl 3 rfl) ?_
          refine lv_aload_n hx hb dX11_head_95 rfl (lv_at hl 1 rfl) ?_
          replace q := nn_s q
          obtain ⟨a_20, e_a_20, q⟩ := q
          refine x_getR hx hb hown hX M e_a_20 okX11 ra0 (by decide) rfl kw_360 dX11_head_96 (fun ra_20 => ?_)
          replace q := nn_s q
          obtain ⟨a_21, e_a_21, q⟩ := q
          refine x_getR hx hb hown hX M e_a_21 okX0 ra_20 (by decide) rfl kw_255 dX11_head_99 (fun ra_21 => ?_)
          replace q := c2_s q
          obtain ⟨u_23, g_22, qc, q⟩ := q
          refine x_callV hx hb hml hl.1 hown hX M (S1 := S) (As := [.ref a_4, .int x2, .ref a_21]) (rest := []) okX8 ra_19 rfl kw_686 kw_687 mok_X8_treeOf (c_X8_treeOf ra_19 ra_4 ra_21 qc (Nat.le_refl 306)) kw_685 rfl rfl dX11_head_102 (Nat.le_of_ble_eq_true rfl) ⟨Nat.le_trans (by decide) hRf, Nat.le_trans (by decide) hRl⟩ (Nat.zero_le _) (Nat.zero_le _) (fun H locs M hEF => ?_)
          refine lv_aload_n hx hb dX11_head_105 rfl (lv_at hl 1 rfl) ?_
          replace q := nn_s q
          obtain ⟨a_24, e_a_24, q⟩ := q
          refine x_getR hx hb hown hX M e_a_24 okX11 ra0 (by decide) rfl kw_360 dX11_head_106 (fun ra_24 => ?_)
          replace q := nn_s q
          obtain ⟨a_25, e_a_25, q⟩ := q
          refine x_getR hx hb hown hX M e_a_25 okX0 ra_24 (by decide) rfl kw_255 dX11_head_109 (fun ra_25 => ?_)
          refine lv_iload hx hb dX11_head_112 (lv_at hl 5 rfl) ?_
          replace q := ck_s q
          obtain ⟨hin, q⟩ := q
          refine x_iald hx hb hX M ra_25 (inb_in hin) dX11_head_114 ?_
          cases q
          exact x_iret hx hb hr hlk M Ext.rf dX11_head_115
        replace q := if_f cx_11_1 q
        by_cases cx_11_2 : x_11 = 2
        · replace q := if_t cx_11_2 q
          subst cx_11_2
          refine lv_tableIn (off := 81) (tgt := 116) hx hb dX11_head_35 (by decide) (by decide) (by decide) (by decide) ?_
          refine lv_aload_n hx hb dX11_head_116 rfl (lv_at hl 1 rfl) ?_
          replace q := nn_s q
          obtain ⟨a_26, e_a_26, q⟩ := q
          refine x_getR hx hb hown hX M e_a_26 okX11 ra0 (by decide) rfl kw_358 dX11_head_117 (fun ra_26 => ?_)
          refine lv_aload hx hb dX11_head_120 (lv_at hl 0 rfl) ?_
          refine lv_iload_n hx hb dX11_head_122 rfl (lv_at hl 2 rfl) ?_
          refine lv_iload_n hx hb dX11_head_123 rfl (lv_at hl 3 rfl) ?_
          refine lv_aload_n hx hb dX11_head_124 rfl (lv_at hl 1 rfl) ?_
          replace q := nn_s q
          obtain ⟨a_27, e_a_27, q⟩ := q
          refine x_getR hx hb hown hX M e_a_27 okX11 ra0 (by decide) rfl kw_360 dX11_head_125 (fun ra_27 => ?_)
          replace q := c2_s q
          obtain ⟨u_29, g_28, qc, q⟩ := q
          refine x_callV hx hb hml hl.1 hown hX M (S1 := S) (As := [.ref a_4, .int x1, .int x2, .ref a_27]) (rest := []) okX8 ra_26 rfl kw_717 kw_718 mok_X8_makeHead (c_X8_makeHead ra_26 ra_4 ra_27 qc (Nat.le_refl 307)) kw_716 rfl rfl dX11_head_128 (Nat.le_of_ble_eq_true rfl) ⟨Nat.le_trans (by decide) hRf, Nat.le_trans (by decide) hRl⟩ (Nat.zero_le _) (Nat.zero_le _) (fun H locs M hEF => ?_)
          refine lv_aload_n hx hb dX11_head_131 rfl (lv_at hl 1 rfl) ?_
          replace q := nn_s q
          obtain ⟨a_30, e_a_30, q⟩ := q
          refine x_getR hx hb hown hX M e_a_30 okX11 ra0 (by decide) rfl kw_360 dX11_head_132 (fun ra_30 => ?_)
          replace q := nn_s q
          obtain ⟨a_31, e_a_31, q⟩ := q
          refine x_getR hx hb hown hX M e_a_31 okX0 ra_30 (by decide) rfl kw_258 dX11_head_135 (fun ra_31 => ?_)
          refine lv_iload hx hb dX11_head_138 (lv_at hl 5 rfl) ?_
          replace q := ck_s q
          obtain ⟨hin, q⟩ := q
          refine x_iald hx hb hX M ra_31 (inb_in hin) dX11_head_140 ?_
          cases q
          exact x_iret hx hb hr hlk M Ext.rf dX11_head_141
        replace q := if_f cx_11_2 q
        refine lv_tableOut (tgt := 142) hx hb dX11_head_35 (sw_def (fun z h1 h2 => ?_)) (by decide) ?_
        · have hz : z = 0 ∨ z = 1 ∨ z = 2 := by omega
          rcases hz with rfl | rfl | rfl
          · exact cx_11_0
          · exact cx_11_1
          · exact cx_11_2
        · refine lv_iconst (v := 0) hx hb dX11_head_142 (by decide) ?_
          cases q
          exact x_iret hx hb hr hlk M Ext.rf dX11_head_143
      · replace q := if_t c_10 q
        refine lv_iconst (v := 0) hx hb dX11_head_32 (by decide) ?_
        cases q
        exact x_iret hx hb hr hlk M Ext.rf dX11_head_33
set_option maxRecDepth 100000 in
theorem c_X11_head {l : Launch} {D : va_G} {cA : Nat → ClassId} {lo tS N : Nat} {S : Hs} {g g1 : Hg} {rv : Int32} {a0 : Nat} {x1 : Int32} {x2 : Int32} {x3 : Int32} {x4 : Int32} (ra0 : Rf lo S a0 11) (q : f_X11_head N S g a0 x1 x2 x3 x4 = some (rv, g1)) {d : Nat} (hd : 308 ≤ d) : Ctr l yX11_head cX11_head 6 (some .int) D cA lo tS [.ref a0, .int x1, .int x2, .int x3, .int x4] S g d (some (.int rv)) S g1 True 0 0 := by
  refine x_met (by decide) (Nat.le_of_ble_eq_true rfl) ?_
  intro p e s m below meth c ls hx hb hml hr hlk hown hnm hX M hl
  exact w_X11_head_0 hx hb hml hr hlk hown hX hd (Nat.mul_le_mul_left 60 hd) (N := N) _ _ _ _ _ _ _ _ _ M ra0 (lv_sub hl [0, 1, 2, 3, 4] rfl) q
def b_X11_held_0 (N : Nat) (S : Hs) (g : Hg) (a0 : Nat) (x1 : Int32) (x2 : Int32) (x3 : Int32) (x4 : Int32) : Option (Int32 × Hs × Hg × Nat × Nat) :=
nn (rdR g a0 3) (fun a_1 =>
c2 (f_X1_slotAt N S g a_1 x1) (fun o_3 g_2 =>
nn (rdR g_2 a0 3) (fun a_4 =>
c2 (f_X1_logAt N S g_2 a_4 x2) (fun o_6 g_5 =>
on o_3 (
some ((-1 : Int32), S, g_5, 0, 0)) (fun a_7 =>
on o_6 (
some ((-1 : Int32), S, g_5, 0, 0)) (fun a_8 =>
c2 (f_X3_reaches N S g_5 a_8 x3) (fun x_10 g_9 =>
if x_10 = 0 then (
some ((-1 : Int32), S, g_9, 0, 0)) else (
nn (rdR g_9 a0 1) (fun a_12 =>
c2 (f_X4_read N S g_9 a_12 a_8 x3) (fun u_14 g_13 =>
nn (rdR g_13 a0 1) (fun a_15 =>
nn (rdR g_13 a_8 0) (fun a_16 =>
c2 (f_X2_find N S g_13 a_16 x4) (fun x_18 g_17 =>
c2 (f_X4_latestOf N S g_17 a_15 x_18) (fun x_20 g_19 =>
if x_20 = (-1 : Int32) then (
some ((-1 : Int32), S, g_19, 0, 0)) else (
c2 (f_X7_begin N S g_19 a_7 (3 : Int32) x3 (0 : Int32)) (fun u_23 g_22 =>
nm (wrI g_22 a_7 9 x4) (fun g_24 =>
nm (wrI g_24 a_7 10 x_20) (fun g_25 =>
nn (rdR g_25 a0 1) (fun a_26 =>
nn (rdR g_25 a_8 0) (fun a_27 =>
c5 (f_X4_showWay N S g_25 a_26 a_27 a_7) (fun x_29 S_30 g_28 =>
some ((rdI g_28 a_7 4), S_30, g_28, 0, 0))))))))))))))))))))))
def f_X11_held (N : Nat) (S : Hs) (g : Hg) (a0 : Nat) (x1 : Int32) (x2 : Int32) (x3 : Int32) (x4 : Int32) : Option (Int32 × Hs × Hg × Nat × Nat) := b_X11_held_0 N S g a0 x1 x2 x3 x4
set_option maxHeartbeats 4000000 in
set_option maxRecDepth 100000 in
theorem w_X11_held_0 (hx : p.tables.exec = Jvm.exec) (hb : c.code = cX11_held) (hml : c.maxLocals = 8) (hr : meth.sig.returnType = (some .int)) (hlk : meth.locks = false) (hown : s.vm.findClass RX11 = some m.cls) (hX : Kx D cA lo tS s) (hRf : 306 ≤ R.frames) (hRl : 18360 ≤ R.locals) {N : Nat} {rv : Int32} {g1 : Hg} {S0 S1 : Hs} {cT wT : Nat} (hRc : cT ≤ R.cells) (hRs : wT ≤ R.slots) : ∀ (H : Heap) (locs : List Loc) (ls : Array Slot) (cells slots k w : Nat) (S : Hs) (g : Hg) (a0 : Nat) (x1 : Int32) (x2 : Int32) (x3 : Int32) (x4 : Int32), Mm D cA lo S g s H locs → Ext lo S0 S → Rf lo S a0 11 → lv_has ls 8 [(0, .ref a0), (1, .int x1), (2, .int x2), (3, .int x3), (4, .int x4)] → b_X11_held_0 N S g a0 x1 x2 x3 x4 = some (rv, S1, g1, k, w) → cells + k = cT → slots + w = wT → W p l e R s m args below meth c H locs cells slots (MQ below (Qcx D cA lo S0 (some (.int rv)) S1 g1 True) args s cT wT (fun q : Nat => lo ≤ q)) (F0 m 0 ls []) := by
  intro H locs ls cells slots k w S g a0 x1 x2 x3 x4 M hE ra0 hl q hc hs
  unfold b_X11_held_0 at q
  refine lv_aload_n hx hb dX11_held_0 rfl (lv_at hl 0 rfl) ?_
  replace q := nn_s q
  obtain ⟨a_1, e_a_1, q⟩ := q
  refine x_getR hx hb hown hX M e_a_1 okX11 ra0 (by decide) rfl kw_359 dX11_held_1 (fun ra_1 => ?_)
  refine lv_iload_n hx hb dX11_held_4 rfl (lv_at hl 1 rfl) ?_
  replace q := c2_s q
  obtain ⟨o_3, g_2, qc, q⟩ := q
  refine x_callV hx hb hml hl.1 hown hX M (S1 := S) (As := [.int x1]) (rest := []) okX1 ra_1 rfl kw_732 kw_733 mok_X1_slotAt (c_X1_slotAt ra_1 qc (Nat.le_refl 1)) kw_731 rfl rfl dX11_held_5 (Nat.le_of_ble_eq_true rfl) ⟨Nat.le_trans (by decide) hRf, Nat.le_trans (by decide) hRl⟩ (hz_step hc hRc) (hz_step hs hRs) (fun H locs M hEF => ?_)
  have ro_3 := hEF.2
  refine x_astore (lv' := [(5, va_rf o_3), (0, .ref a0), (1, .int x1), (2, .int x2), (3, .int x3), (4, .int x4)]) hx hb dX11_held_8 hl (by decide) rfl (fun ls hl => ?_)
  refine lv_aload_n hx hb dX11_held_10 rfl (lv_at hl 1 rfl) ?_
  replace q := nn_s q
  obtain ⟨a_4, e_a_4, q⟩ := q
  refine x_getR hx hb hown hX M e_a_4 okX11 ra0 (by decide) rfl kw_359 dX11_held_11 (fun ra_4 => ?_)
  refine lv_iload_n hx hb dX11_held_14 rfl (lv_at hl 3 rfl) ?_
  replace q := c2_s q
  obtain ⟨o_6, g_5, qc, q⟩ := q
  refine x_callV hx hb hml hl.1 hown hX M (S1 := S) (As := [.int x2]) (rest := []) okX1 ra_4 rfl kw_495 kw_496 mok_X1_logAt (c_X1_logAt ra_4 qc (Nat.le_refl 1)) kw_494 rfl rfl dX11_held_15 (Nat.le_of_ble_eq_true rfl) ⟨Nat.le_trans (by decide) hRf, Nat.le_trans (by decide) hRl⟩ (hz_step hc hRc) (hz_step hs hRs) (fun H locs M hEF => ?_)
  have ro_6 := hEF.2
  refine x_astore (lv' := [(6, va_rf o_6), (5, va_rf o_3), (0, .ref a0), (1, .int x1), (2, .int x2), (3, .int x3), (4, .int x4)]) hx hb dX11_held_18 hl (by decide) (by cases o_3 <;> rfl) (fun ls hl => ?_)
  refine x_aload hx hb dX11_held_20 (lv_at hl 1 rfl) ?_
  refine x_ifnull (tgt := 39) hx hb dX11_held_22 (by decide) (fun c_36 => ?_) (fun a_7 c_36 => ?_)
  · replace q := on_n c_36 q
    refine lv_iconst (v := -1) hx hb dX11_held_39 (by decide) ?_
    cases q
    have hc : cells = cT := hc
    have hs : slots = wT := hs
    subst hc
    subst hs
    exact x_iret hx hb hr hlk M hE dX11_held_40
  · subst c_36
    replace q := on_s rfl q
    have ra_7 := ro_3 a_7 rfl
    have hl : lv_has ls 8 [(6, va_rf o_6), (5, .ref a_7), (0, .ref a0), (1, .int x1), (2, .int x2), (3, .int x3), (4, .int x4)] := hl
    refine x_aload hx hb dX11_held_25 (lv_at hl 0 rfl) ?_
    refine x_ifnull (tgt := 39) hx hb dX11_held_27 (by decide) (fun c_35 => ?_) (fun a_8 c_35 => ?_)
    · replace q := on_n c_35 q
      refine lv_iconst (v := -1) hx hb dX11_held_39 (by decide) ?_
      cases q
      have hc : cells = cT := hc
      have hs : slots = wT := hs
      subst hc
      subst hs
      exact x_iret hx hb hr hlk M hE dX11_held_40
    · subst c_35
      replace q := on_s rfl q
      have ra_8 := ro_6 a_8 rfl
      have hl : lv_has ls 8 [(6, .ref a_8), (5, .ref a_7), (0, .ref a0), (1, .int x1), (2, .int x2), (3, .int x3), (4, .int x4)] := hl
      refine lv_aload hx hb dX11_held_30 (lv_at hl 0 rfl) ?_
      refine lv_iload_n hx hb dX11_held_32 rfl (lv_at hl 5 rfl) ?_
      replace q := c2_s q
      obtain ⟨x_10, g_9, qc, q⟩ := q
      refine x_callV hx hb hml hl.1 hown hX M (S1 := S) (As := [.int x3]) (rest := []) okX3 ra_8 rfl kw_550 kw_551 mok_X3_reaches (c_X3_reaches ra_8 qc (Nat.le_refl 1)) kw_549 rfl rfl dX11_held_33 (Nat.le_of_ble_eq_true rfl) ⟨Nat.le_trans (by decide) hRf, Nat.le_trans (by decide) hRl⟩ (hz_step hc hRc) (hz_step hs hRs) (fun H locs M hEF => ?_)
      refine lv_if_ne (tgt := 41) hx hb dX11_held_36 (by decide) (fun c_11 => ?_) (fun c_11 => ?_)
      · replace q := if_f c_11 q
        refine lv_aload_n hx hb dX11_held_41 rfl (lv_at hl 2 rfl) ?_
        replace q := nn_s q
        obtain ⟨a_12, e_a_12, q⟩ := q
        refine x_getR hx hb hown hX M e_a_12 okX11 ra0 (by decide) rfl kw_357 dX11_held_42 (fun ra_12 => ?_)
        refine lv_aload hx hb dX11_held_45 (lv_at hl 0 rfl) ?_
        refine lv_iload_n hx hb dX11_held_47 rfl (lv_at hl 5 rfl) ?_
        replace q := c2_s q
        obtain ⟨u_14, g_13, qc, q⟩ := q
        refine x_callV hx hb hml hl.1 hown hX M (S1 := S) (As := [.ref a_8, .int x3]) (rest := []) okX4 ra_12 rfl kw_615 kw_616 mok_X4_read (c_X4_read ra_12 ra_8 qc (Nat.le_refl 3)) kw_614 rfl rfl dX11_held_48 (Nat.le_of_ble_eq_true rfl) ⟨Nat.le_trans (by decide) hRf, Nat.le_trans (by decide) hRl⟩ (hz_step hc hRc) (hz_step hs hRs) (fun H locs M hEF => ?_)
        refine lv_aload_n hx hb dX11_held_51 rfl (lv_at hl 2 rfl) ?_
        replace q := nn_s q
        obtain ⟨a_15, e_a_15, q⟩ := q
        refine x_getR hx hb hown hX M e_a_15 okX11 ra0 (by decide) rfl kw_357 dX11_held_52 (fun ra_15 => ?_)
        refine lv_aload hx hb dX11_held_55 (lv_at hl 0 rfl) ?_
        replace q := nn_s q
        obtain ⟨a_16, e_a_16, q⟩ := q
        refine x_getR hx hb hown hX M e_a_16 okX3 ra_8 (by decide) rfl kw_443 dX11_held_57 (fun ra_16 => ?_)
        refine lv_iload hx hb dX11_held_60 (lv_at hl 6 rfl) ?_
        replace q := c2_s q
        obtain ⟨x_18, g_17, qc, q⟩ := q
        refine x_callV hx hb hml hl.1 hown hX M (S1 := S) (As := [.int x4]) (rest := [.ref a_15]) okX2 ra_16 rfl kw_507 kw_508 mok_X2_find (c_X2_find ra_16 qc (Nat.le_refl 1)) kw_637 rfl rfl dX11_held_62 (Nat.le_of_ble_eq_true rfl) ⟨Nat.le_trans (by decide) hRf, Nat.le_trans (by decide) hRl⟩ (hz_step hc hRc) (hz_step hs hRs) (fun H locs M hEF => ?_)
        replace q := c2_s q
        obtain ⟨x_20, g_19, qc, q⟩ := q
        refine x_callV hx hb hml hl.1 hown hX M (S1 := S) (As := [.int x_18]) (rest := []) okX4 ra_15 rfl kw_639 kw_640 mok_X4_latestOf (c_X4_latestOf ra_15 qc (Nat.le_refl 1)) kw_638 rfl rfl dX11_held_65 (Nat.le_of_ble_eq_true rfl) ⟨Nat.le_trans (by decide) hRf, Nat.le_trans (by decide) hRl⟩ (hz_step hc hRc) (hz_step hs hRs) (fun H locs M hEF => ?_)
        refine lv_istore (lv' := [(7, .int x_20), (6, .ref a_8), (5, .ref a_7), (0, .ref a0), (1, .int x1), (2, .int x2), (3, .int x3), (4, .int x4)]) hx hb dX11_held_68 hl (by decide) rfl (fun ls hl => ?_)
        refine lv_iload hx hb dX11_held_70 (lv_at hl 0 rfl) ?_
        refine lv_iconst (v := -1) hx hb dX11_held_72 (by decide) ?_
        refine lv_icmp_ne (tgt := 78) hx hb dX11_held_73 (by decide) (fun c_21 => ?_) (fun c_21 => ?_)
        · replace q := if_f c_21 q
          refine lv_aload hx hb dX11_held_78 (lv_at hl 2 rfl) ?_
          refine lv_iconst (v := 3) hx hb dX11_held_80 (by decide) ?_
          refine lv_iload_n hx hb dX11_held_81 rfl (lv_at hl 6 rfl) ?_
          refine lv_iconst (v := 0) hx hb dX11_held_82 (by decide) ?_
          replace q := c2_s q
          obtain ⟨u_23, g_22, qc, q⟩ := q
          refine x_callV hx hb hml hl.1 hown hX M (S1 := S) (As := [.int (3 : Int32), .int x3, .int (0 : Int32)]) (rest := []) okX7 ra_7 rfl kw_736 kw_737 mok_X7_begin (c_X7_begin ra_7 qc (Nat.le_refl 1)) kw_735 rfl rfl dX11_held_83 (Nat.le_of_ble_eq_true rfl) ⟨Nat.le_trans (by decide) hRf, Nat.le_trans (by decide) hRl⟩ (hz_step hc hRc) (hz_step hs hRs) (fun H locs M hEF => ?_)
          refine lv_aload hx hb dX11_held_86 (lv_at hl 2 rfl) ?_
          refine lv_iload hx hb dX11_held_88 (lv_at hl 7 rfl) ?_
          refine x_putI hx hb hown hX M (k := 9) okX7 ra_7 (by decide) rfl (Or.inl rfl) rfl rfl kw_210 dX11_held_90 (fun H locs M => ?_)
          replace q := gen_g M q
          obtain ⟨g_24, -, M, q⟩ := q
          refine lv_aload hx hb dX11_held_93 (lv_at hl 2 rfl) ?_
          refine lv_iload hx hb dX11_held_95 (lv_at hl 0 rfl) ?_
          refine x_putI hx hb hown hX M (k := 10) okX7 ra_7 (by decide) rfl (Or.inl rfl) rfl rfl kw_213 dX11_held_97 (fun H locs M => ?_)
          replace q := gen_g M q
          obtain ⟨g_25, -, M, q⟩ := q
          refine lv_aload_n hx hb dX11_held_100 rfl (lv_at hl 3 rfl) ?_
          replace q := nn_s q
          obtain ⟨a_26, e_a_26, q⟩ := q
          refine x_getR hx hb hown hX M e_a_26 okX11 ra0 (by decide) rfl kw_357 dX11_held_101 (fun ra_26 => ?_)
          refine lv_aload hx hb dX11_held_104 (lv_at hl 1 rfl) ?_
          replace q := nn_s q
          obtain ⟨a_27, e_a_27, q⟩ := q
          refine x_getR hx hb hown hX M e_a_27 okX3 ra_8 (by decide) rfl kw_443 dX11_held_106 (fun ra_27 => ?_)
          refine lv_aload hx hb dX11_held_109 (lv_at hl 2 rfl) ?_
          replace q := c5_s q
          obtain ⟨x_29, S_30, g_28, k_31, w_32, k_33, w_34, qc, ek, ew, q⟩ := q
          refine x_callV hx hb hml hl.1 hown hX M (As := [.ref a_27, .ref a_7]) (rest := []) okX4 ra_26 rfl kw_789 kw_790 mok_X4_showWay (c_X4_showWay ra_26 ra_27 ra_7 qc (Nat.le_refl 305)) kw_788 rfl rfl dX11_held_111 (Nat.le_of_ble_eq_true rfl) ⟨Nat.le_trans (by decide) hRf, Nat.le_trans (by decide) hRl⟩ (hb_step hc ek hRc) (hb_step hs ew hRs) (fun H locs M hEF => ?_)
          replace ra0 := ra0.ext hEF.1
          replace ra_7 := ra_7.ext hEF.1
          replace ra_8 := ra_8.ext hEF.1
          replace hE := hE.tr hEF.1
          replace hc := hc_step hc ek
          replace hs := hc_step hs ew
          clear ek ew
          refine lv_pop hx hb dX11_held_114 rfl ?_
          refine lv_aload hx hb dX11_held_115 (lv_at hl 2 rfl) ?_
          refine x_getI hx hb hown hX M (k := 4) okX7 ra_7 (by decide) rfl kw_194 dX11_held_117 ?_
          cases q
          have hc : cells + k_31 = cT := hc
          have hs : slots + w_32 = wT := hs
          subst hc
          subst hs
          exact x_iret hx hb hr hlk M hE dX11_held_120
        · replace q := if_t c_21 q
          refine lv_iconst (v := -1) hx hb dX11_held_76 (by decide) ?_
          cases q
          have hc : cells = cT := hc
          have hs : slots = wT := hs
          subst hc
          subst hs
          exact x_iret hx hb hr hlk M hE dX11_held_77
      · replace q := if_t c_11 q
        refine lv_iconst (v := -1) hx hb dX11_held_39 (by decide) ?_
        cases q
        have hc : cells = cT := hc
        have hs : slots = wT := hs
        subst hc
        subst hs
        exact x_iret hx hb hr hlk M hE dX11_held_40
set_option maxRecDepth 100000 in
theorem c_X11_held {l : Launch} {D : va_G} {cA : Nat → ClassId} {lo tS N : Nat} {S S1 : Hs} {g g1 : Hg} {k w : Nat} {rv : Int32} {a0 : Nat} {x1 : Int32} {x2 : Int32} {x3 : Int32} {x4 : Int32} (ra0 : Rf lo S a0 11) (q : f_X11_held N S g a0 x1 x2 x3 x4 = some (rv, S1, g1, k, w)) {d : Nat} (hd : 306 ≤ d) : Ctr l yX11_held cX11_held 8 (some .int) D cA lo tS [.ref a0, .int x1, .int x2, .int x3, .int x4] S g d (some (.int rv)) S1 g1 True k w := by
  refine x_met (by decide) (Nat.le_of_ble_eq_true rfl) ?_
  intro p e s m below meth c ls hx hb hml hr hlk hown hnm hX M hl
  exact w_X11_held_0 hx hb hml hr hlk hown hX hd (Nat.mul_le_mul_left 60 hd) (N := N) (Nat.le_refl k) (Nat.le_refl w) _ _ _ _ _ _ _ _ _ _ _ _ _ _ M Ext.rf ra0 (lv_sub hl [0, 1, 2, 3, 4] rfl) q (Nat.zero_add k) (Nat.zero_add w)
def b_X5_isTold_2 (N : Nat) (S : Hs) (k2 : Hg → Nat → Int32 → Int32 → Option (Int32 × Hg)) (g : Hg) (a0 : Nat) (x1 : Int32) (x2 : Int32) : Option (Int32 × Hg) :=
if (rdI g a0 3) ≤ x2 then (
some ((0 : Int32), g)) else (
nn (rdR g a0 0) (fun a_2 =>
ck (inb x2 (hpL S a_2)) (
if (rdI g a_2 x2.toNatClampNeg) = x1 then (
some ((1 : Int32), g)) else (
nm (x2 + 1) (fun x_4 =>
k2 g a0 x1 x_4)))))
def n_X5_isTold_2 (N : Nat) (S : Hs) : Nat → Hg → Nat → Int32 → Int32 → Option (Int32 × Hg)
  | 0 => fun _ _ _ _ => none
  | n + 1 => fun g a0 x1 x2 => b_X5_isTold_2 N S (n_X5_isTold_2 N S n) g a0 x1 x2
def b_X5_isTold_0 (N : Nat) (S : Hs) (g : Hg) (a0 : Nat) (x1 : Int32) : Option (Int32 × Hg) :=
n_X5_isTold_2 N S N g a0 x1 (0 : Int32)
def f_X5_isTold (N : Nat) (S : Hs) (g : Hg) (a0 : Nat) (x1 : Int32) : Option (Int32 × Hg) := b_X5_isTold_0 N S g a0 x1
set_option maxHeartbeats 4000000 in
set_option maxRecDepth 100000 in
theorem w_X5_isTold_2 (hx : p.tables.exec = Jvm.exec) (hb : c.code = cX5_isTold) (hml : c.maxLocals = 3) (hr : meth.sig.returnType = (some .boolean)) (hlk : meth.locks = false) (hown : s.vm.findClass RX5 = some m.cls) (hX : Kx D cA lo tS s) (hRf : 1 ≤ R.frames) (hRl : 60 ≤ R.locals) {N : Nat} {rv : Int32} {g1 : Hg} {S : Hs} {k2 : Hg → Nat → Int32 → Int32 → Option (Int32 × Hg)} (hk2 : ∀ (H : Heap) (locs : List Loc) (ls : Array Slot) (g : Hg) (a0 : Nat) (x1 : Int32) (x2 : Int32), Mm D cA lo S g s H locs → Rf lo S a0 5 → lv_has ls 3 [(0, .ref a0), (1, .int x1), (2, .int x2)] → k2 g a0 x1 x2 = some (rv, g1) → W p l e R s m args below meth c H locs 0 0 (MQ below (Qcx D cA lo S (some (.int rv)) S g1 True) args s 0 0 (fun q : Nat => lo ≤ q)) (F0 m 2 ls [])) : ∀ (H : Heap) (locs : List Loc) (ls : Array Slot) (g : Hg) (a0 : Nat) (x1 : Int32) (x2 : Int32), Mm D cA lo S g s H locs → Rf lo S a0 5 → lv_has ls 3 [(0, .ref a0), (1, .int x1), (2, .int x2)] → b_X5_isTold_2 N S k2 g a0 x1 x2 = some (rv, g1) → W p l e R s m args below meth c H locs 0 0 (MQ below (Qcx D cA lo S (some (.int rv)) S g1 True) args s 0 0 (fun q : Nat => lo ≤ q)) (F0 m 2 ls []) := by
  intro H locs ls g a0 x1 x2 M ra0 hl q
  unfold b_X5_isTold_2 at q
  refine lv_iload_n hx hb dX5_isTold_2 rfl (lv_at hl 2 rfl) ?_
  refine lv_aload_n hx hb dX5_isTold_3 rfl (lv_at hl 0 rfl) ?_
  refine x_getI hx hb hown hX M (k := 3) okX5 ra0 (by decide) rfl kw_427 dX5_isTold_4 ?_
  refine lv_icmp_ge (tgt := 28) hx hb dX5_isTold_7 (by decide) (fun c_1 => ?_) (fun c_1 => ?_)
  · replace q := if_t c_1 q
    refine lv_iconst (v := 0) hx hb dX5_isTold_28 (by decide) ?_
    cases q
    exact x_zret hx hb hr hlk rfl M Ext.rf dX5_isTold_29
  · replace q := if_f c_1 q
    refine lv_aload_n hx hb dX5_isTold_10 rfl (lv_at hl 0 rfl) ?_
    replace q := nn_s q
    obtain ⟨a_2, e_a_2, q⟩ := q
    refine x_getR hx hb hown hX M e_a_2 okX5 ra0 (by decide) rfl kw_421 dX5_isTold_11 (fun ra_2 => ?_)
    refine lv_iload_n hx hb dX5_isTold_14 rfl (lv_at hl 2 rfl) ?_
    replace q := ck_s q
    obtain ⟨hin, q⟩ := q
    refine x_iald hx hb hX M ra_2 (inb_in hin) dX5_isTold_15 ?_
    refine lv_iload_n hx hb dX5_isTold_16 rfl (lv_at hl 1 rfl) ?_
    refine lv_icmp_ne (tgt := 22) hx hb dX5_isTold_17 (by decide) (fun c_3 => ?_) (fun c_3 => ?_)
    · replace q := if_f c_3 q
      obtain ⟨x_4, e_x_4⟩ : ∃ y : Int32, y = x2 + 1 := ⟨_, rfl⟩
      replace q := nm_s q e_x_4
      refine lv_iinc (v := x_4) (lv' := [(2, .int x_4), (0, .ref a0), (1, .int x1)]) hx hb dX5_isTold_22 hl (k := 2) rfl (by rw [e_x_4]; rfl) (by decide) rfl (fun ls hl => ?_)
      refine lv_goto (tgt := 2) hx hb dX5_isTold_25 (by decide) ?_
      exact hk2 _ _ _ _ _ _ _ M ra0 (lv_sub hl [1, 2, 0] rfl) q
    · replace q := if_t c_3 q
      refine lv_iconst (v := 1) hx hb dX5_isTold_20 (by decide) ?_
      cases q
      exact x_zret hx hb hr hlk rfl M Ext.rf dX5_isTold_21
set_option maxRecDepth 100000 in
theorem l_X5_isTold_2 (hx : p.tables.exec = Jvm.exec) (hb : c.code = cX5_isTold) (hml : c.maxLocals = 3) (hr : meth.sig.returnType = (some .boolean)) (hlk : meth.locks = false) (hown : s.vm.findClass RX5 = some m.cls) (hX : Kx D cA lo tS s) (hRf : 1 ≤ R.frames) (hRl : 60 ≤ R.locals) {N : Nat} {rv : Int32} {g1 : Hg} {S : Hs} : ∀ (n : Nat), ∀ (H : Heap) (locs : List Loc) (ls : Array Slot) (g : Hg) (a0 : Nat) (x1 : Int32) (x2 : Int32), Mm D cA lo S g s H locs → Rf lo S a0 5 → lv_has ls 3 [(0, .ref a0), (1, .int x1), (2, .int x2)] → n_X5_isTold_2 N S n g a0 x1 x2 = some (rv, g1) → W p l e R s m args below meth c H locs 0 0 (MQ below (Qcx D cA lo S (some (.int rv)) S g1 True) args s 0 0 (fun q : Nat => lo ≤ q)) (F0 m 2 ls []) := by
  intro n
  induction n with
  | zero =>
    intro H locs ls g a0 x1 x2 M ra0 hl q
    exact absurd q (by simp [n_X5_isTold_2])
  | succ n ih => exact w_X5_isTold_2 hx hb hml hr hlk hown hX hRf hRl (N := N)  ih
set_option maxHeartbeats 4000000 in
set_option maxRecDepth 100000 in
theorem w_X5_isTold_0 (hx : p.tables.exec = Jvm.exec) (hb : c.code = cX5_isTold) (hml : c.maxLocals = 3) (hr : meth.sig.returnType = (some .boolean)) (hlk : meth.locks = false) (hown : s.vm.findClass RX5 = some m.cls) (hX : Kx D cA lo tS s) (hRf : 1 ≤ R.frames) (hRl : 60 ≤ R.locals) {N : Nat} {rv : Int32} {g1 : Hg} {S : Hs} : ∀ (H : Heap) (locs : List Loc) (ls : Array Slot) (g : Hg) (a0 : Nat) (x1 : Int32), Mm D cA lo S g s H locs → Rf lo S a0 5 → lv_has ls 3 [(0, .ref a0), (1, .int x1)] → b_X5_isTold_0 N S g a0 x1 = some (rv, g1) → W p l e R s m args below meth c H locs 0 0 (MQ below (Qcx D cA lo S (some (.int rv)) S g1 True) args s 0 0 (fun q : Nat => lo ≤ q)) (F0 m 0 ls []) := by
  intro H locs ls g a0 x1 M ra0 hl q
  unfold b_X5_isTold_0 at q
  refine lv_iconst (v := 0) hx hb dX5_isTold_0 (by decide) ?_
  refine lv_istore_n (lv' := [(2, .int (0 : Int32)), (0, .ref a0), (1, .int x1)]) hx hb dX5_isTold_1 rfl hl (by decide) rfl (fun ls hl => ?_)
  exact l_X5_isTold_2 hx hb hml hr hlk hown hX hRf hRl (N := N)  N _ _ _ _ _ _ _ M ra0 (lv_sub hl [1, 2, 0] rfl) q
set_option maxRecDepth 100000 in
theorem c_X5_isTold {l : Launch} {D : va_G} {cA : Nat → ClassId} {lo tS N : Nat} {S : Hs} {g g1 : Hg} {rv : Int32} {a0 : Nat} {x1 : Int32} (ra0 : Rf lo S a0 5) (q : f_X5_isTold N S g a0 x1 = some (rv, g1)) {d : Nat} (hd : 1 ≤ d) : Ctr l yX5_isTold cX5_isTold 3 (some .boolean) D cA lo tS [.ref a0, .int x1] S g d (some (.int rv)) S g1 True 0 0 := by
  refine x_met (by decide) (Nat.le_of_ble_eq_true rfl) ?_
  intro p e s m below meth c ls hx hb hml hr hlk hown hnm hX M hl
  exact w_X5_isTold_0 hx hb hml hr hlk hown hX hd (Nat.mul_le_mul_left 60 hd) (N := N) _ _ _ _ _ _ M ra0 (lv_sub hl [0, 1] rfl) q
def b_X5_tell_0 (N : Nat) (S : Hs) (g : Hg) (a0 : Nat) (x1 : Int32) (x2 : Int32) (x3 : Int32) : Option (Int32 × Hg) :=
if (100 : Int32) ≤ (rdI g a0 3) then (
some ((0 : Int32), g)) else (
c2 (f_X5_isTold N S g a0 x1) (fun x_3 g_2 =>
if x_3 = 0 then (
nn (rdR g_2 a0 0) (fun a_5 =>
ck (inb (rdI g_2 a0 3) (hpL S a_5)) (
nm (wrI g_2 a_5 (rdI g_2 a0 3).toNatClampNeg x1) (fun g_6 =>
nn (rdR g_6 a0 1) (fun a_7 =>
ck (inb (rdI g_6 a0 3) (hpL S a_7)) (
nm (wrI g_6 a_7 (rdI g_6 a0 3).toNatClampNeg x2) (fun g_8 =>
nn (rdR g_8 a0 2) (fun a_9 =>
ck (inb (rdI g_8 a0 3) (hpL S a_9)) (
ck (zb x3) (
nm (wrI g_8 a_9 (rdI g_8 a0 3).toNatClampNeg x3) (fun g_10 =>
nm (wrI g_10 a0 3 ((rdI g_10 a0 3) + (1 : Int32))) (fun g_11 =>
some ((1 : Int32), g_11))))))))))))) else (
some ((0 : Int32), g_2))))
def f_X5_tell (N : Nat) (S : Hs) (g : Hg) (a0 : Nat) (x1 : Int32) (x2 : Int32) (x3 : Int32) : Option (Int32 × Hg) := b_X5_tell_0 N S g a0 x1 x2 x3
set_option maxHeartbeats 4000000 in
set_option maxRecDepth 100000 in
theorem w_X5_tell_0 (hx : p.tables.exec = Jvm.exec) (hb : c.code = cX5_tell) (hml : c.maxLocals = 4) (hr : meth.sig.returnType = (some .boolean)) (hlk : meth.locks = false) (hown : s.vm.findClass RX5 = some m.cls) (hX : Kx D cA lo tS s) (hRf : 2 ≤ R.frames) (hRl : 120 ≤ R.locals) {N : Nat} {rv : Int32} {g1 : Hg} {S : Hs} : ∀ (H : Heap) (locs : List Loc) (ls : Array Slot) (g : Hg) (a0 : Nat) (x1 : Int32) (x2 : Int32) (x3 : Int32), Mm D cA lo S g s H locs → Rf lo S a0 5 → lv_has ls 4 [(0, .ref a0), (1, .int x1), (2, .int x2), (3, .int x3)] → b_X5_tell_0 N S g a0 x1 x2 x3 = some (rv, g1) → W p l e R s m args below meth c H locs 0 0 (MQ below (Qcx D cA lo S (some (.int rv)) S g1 True) args s 0 0 (fun q : Nat => lo ≤ q)) (F0 m 0 ls []) := by
  intro H locs ls g a0 x1 x2 x3 M ra0 hl q
  unfold b_X5_tell_0 at q
  refine lv_aload_n hx hb dX5_tell_0 rfl (lv_at hl 0 rfl) ?_
  refine x_getI hx hb hown hX M (k := 3) okX5 ra0 (by decide) rfl kw_427 dX5_tell_1 ?_
  refine lv_bipush (v := 100) hx hb dX5_tell_4 (by decide) ?_
  refine lv_icmp_ge (tgt := 17) hx hb dX5_tell_6 (by decide) (fun c_1 => ?_) (fun c_1 => ?_)
  · replace q := if_t c_1 q
    refine lv_iconst (v := 0) hx hb dX5_tell_17 (by decide) ?_
    cases q
    exact x_zret hx hb hr hlk rfl M Ext.rf dX5_tell_18
  · replace q := if_f c_1 q
    refine lv_aload_n hx hb dX5_tell_9 rfl (lv_at hl 0 rfl) ?_
    refine lv_iload_n hx hb dX5_tell_10 rfl (lv_at hl 1 rfl) ?_
    replace q := c2_s q
    obtain ⟨x_3, g_2, qc, q⟩ := q
    refine x_callV hx hb hml hl.1 hown hX M (S1 := S) (As := [.int x1]) (rest := []) okX5 ra0 rfl kw_584 kw_4 mok_X5_isTold (c_X5_isTold ra0 qc (Nat.le_refl 1)) kw_582 rfl rfl dX5_tell_11 (Nat.le_of_ble_eq_true rfl) ⟨Nat.le_trans (by decide) hRf, Nat.le_trans (by decide) hRl⟩ (Nat.zero_le _) (Nat.zero_le _) (fun H locs M hEF => ?_)
    refine lv_if_eq (tgt := 19) hx hb dX5_tell_14 (by decide) (fun c_4 => ?_) (fun c_4 => ?_)
    · replace q := if_t c_4 q
      refine lv_aload_n hx hb dX5_tell_19 rfl (lv_at hl 0 rfl) ?_
      replace q := nn_s q
      obtain ⟨a_5, e_a_5, q⟩ := q
      refine x_getR hx hb hown hX M e_a_5 okX5 ra0 (by decide) rfl kw_421 dX5_tell_20 (fun ra_5 => ?_)
      refine lv_aload_n hx hb dX5_tell_23 rfl (lv_at hl 0 rfl) ?_
      refine x_getI hx hb hown hX M (k := 3) okX5 ra0 (by decide) rfl kw_427 dX5_tell_24 ?_
      refine lv_iload_n hx hb dX5_tell_27 rfl (lv_at hl 1 rfl) ?_
      replace q := ck_s q
      obtain ⟨hin, q⟩ := q
      refine x_iast hx hb hX M ra_5 (inb_in hin) dX5_tell_28 (fun H locs M => ?_)
      replace q := gen_g M q
      obtain ⟨g_6, -, M, q⟩ := q
      refine lv_aload_n hx hb dX5_tell_29 rfl (lv_at hl 0 rfl) ?_
      replace q := nn_s q
      obtain ⟨a_7, e_a_7, q⟩ := q
      refine x_getR hx hb hown hX M e_a_7 okX5 ra0 (by decide) rfl kw_423 dX5_tell_30 (fun ra_7 => ?_)
      refine lv_aload_n hx hb dX5_tell_33 rfl (lv_at hl 0 rfl) ?_
      refine x_getI hx hb hown hX M (k := 3) okX5 ra0 (by decide) rfl kw_427 dX5_tell_34 ?_
      refine lv_iload_n hx hb dX5_tell_37 rfl (lv_at hl 2 rfl) ?_
      replace q := ck_s q
      obtain ⟨hin, q⟩ := q
      refine x_iast hx hb hX M ra_7 (inb_in hin) dX5_tell_38 (fun H locs M => ?_)
      replace q := gen_g M q
      obtain ⟨g_8, -, M, q⟩ := q
      refine lv_aload_n hx hb dX5_tell_39 rfl (lv_at hl 0 rfl) ?_
      replace q := nn_s q
      obtain ⟨a_9, e_a_9, q⟩ := q
      refine x_getR hx hb hown hX M e_a_9 okX5 ra0 (by decide) rfl kw_425 dX5_tell_40 (fun ra_9 => ?_)
      refine lv_aload_n hx hb dX5_tell_43 rfl (lv_at hl 0 rfl) ?_
      refine x_getI hx hb hown hX M (k := 3) okX5 ra0 (by decide) rfl kw_427 dX5_tell_44 ?_
      refine lv_iload_n hx hb dX5_tell_47 rfl (lv_at hl 3 rfl) ?_
      replace q := ck_s q
      obtain ⟨hin, q⟩ := q
      replace q := ck_s q
      obtain ⟨hz, q⟩ := q
      refine x_zast hx hb hX M ra_9 (zb_nar hz) (inb_in hin) dX5_tell_48 (fun H locs M => ?_)
      replace q := gen_g M q
      obtain ⟨g_10, -, M, q⟩ := q
      refine lv_aload_n hx hb dX5_tell_49 rfl (lv_at hl 0 rfl) ?_
      refine lv_dup hx hb dX5_tell_50 rfl ?_
      refine x_getI hx hb hown hX M (k := 3) okX5 ra0 (by decide) rfl kw_427 dX5_tell_51 ?_
      refine lv_iconst (v := 1) hx hb dX5_tell_54 (by decide) ?_
      refine lv_iadd hx hb dX5_tell_55 ?_
      refine x_putI hx hb hown hX M (k := 3) okX5 ra0 (by decide) rfl (Or.inl rfl) rfl rfl kw_427 dX5_tell_56 (fun H locs M => ?_)
      replace q := gen_g M q
      obtain ⟨g_11, -, M, q⟩ := q
      refine lv_iconst (v := 1) hx hb dX5_tell_59 (by decide) ?_
      cases q
      exact x_zret hx hb hr hlk rfl M Ext.rf dX5_tell_60
    · replace q := if_f c_4 q
      refine lv_iconst (v := 0) hx hb dX5_tell_17 (by decide) ?_
      cases q
      exact x_zret hx hb hr hlk rfl M Ext.rf dX5_tell_18
set_option maxRecDepth 100000 in
theorem c_X5_tell {l : Launch} {D : va_G} {cA : Nat → ClassId} {lo tS N : Nat} {S : Hs} {g g1 : Hg} {rv : Int32} {a0 : Nat} {x1 : Int32} {x2 : Int32} {x3 : Int32} (ra0 : Rf lo S a0 5) (q : f_X5_tell N S g a0 x1 x2 x3 = some (rv, g1)) {d : Nat} (hd : 2 ≤ d) : Ctr l yX5_tell cX5_tell 4 (some .boolean) D cA lo tS [.ref a0, .int x1, .int x2, .int x3] S g d (some (.int rv)) S g1 True 0 0 := by
  refine x_met (by decide) (Nat.le_of_ble_eq_true rfl) ?_
  intro p e s m below meth c ls hx hb hml hr hlk hown hnm hX M hl
  exact w_X5_tell_0 hx hb hml hr hlk hown hX hd (Nat.mul_le_mul_left 60 hd) (N := N) _ _ _ _ _ _ _ _ M ra0 (lv_sub hl [0, 1, 2, 3] rfl) q
def b_X3_tellMark_0 (N : Nat) (S : Hs) (g : Hg) (a0 : Nat) (x1 : Int32) (x2 : Int32) : Option (Int32 × Hg) :=
nm (wrI g a0 9 (-1 : Int32)) (fun g_1 =>
nn (rdR g_1 a0 1) (fun a_2 =>
c2 (f_X5_tell N S g_1 a_2 x1 (rdI g_1 a0 7) x2) (fun x_4 g_3 =>
ck (zb x_4) (
some (x_4, g_3)))))
def f_X3_tellMark (N : Nat) (S : Hs) (g : Hg) (a0 : Nat) (x1 : Int32) (x2 : Int32) : Option (Int32 × Hg) := b_X3_tellMark_0 N S g a0 x1 x2
set_option maxHeartbeats 4000000 in
set_option maxRecDepth 100000 in
theorem w_X3_tellMark_0 (hx : p.tables.exec = Jvm.exec) (hb : c.code = cX3_tellMark) (hml : c.maxLocals = 3) (hr : meth.sig.returnType = (some .boolean)) (hlk : meth.locks = false) (hown : s.vm.findClass RX3 = some m.cls) (hX : Kx D cA lo tS s) (hRf : 3 ≤ R.frames) (hRl : 180 ≤ R.locals) {N : Nat} {rv : Int32} {g1 : Hg} {S : Hs} : ∀ (H : Heap) (locs : List Loc) (ls : Array Slot) (g : Hg) (a0 : Nat) (x1 : Int32) (x2 : Int32), Mm D cA lo S g s H locs → Rf lo S a0 3 → lv_has ls 3 [(0, .ref a0), (1, .int x1), (2, .int x2)] → b_X3_tellMark_0 N S g a0 x1 x2 = some (rv, g1) → W p l e R s m args below meth c H locs 0 0 (MQ below (Qcx D cA lo S (some (.int rv)) S g1 True) args s 0 0 (fun q : Nat => lo ≤ q)) (F0 m 0 ls []) := by
  intro H locs ls g a0 x1 x2 M ra0 hl q
  unfold b_X3_tellMark_0 at q
  refine lv_aload_n hx hb dX3_tellMark_0 rfl (lv_at hl 0 rfl) ?_
  refine lv_iconst (v := -1) hx hb dX3_tellMark_1 (by decide) ?_
  refine x_putI hx hb hown hX M (k := 9) okX3 ra0 (by decide) rfl (Or.inl rfl) rfl rfl kw_463 dX3_tellMark_2 (fun H locs M => ?_)
  replace q := gen_g M q
  obtain ⟨g_1, -, M, q⟩ := q
  refine lv_aload_n hx hb dX3_tellMark_5 rfl (lv_at hl 0 rfl) ?_
  replace q := nn_s q
  obtain ⟨a_2, e_a_2, q⟩ := q
  refine x_getR hx hb hown hX M e_a_2 okX3 ra0 (by decide) rfl kw_444 dX3_tellMark_6 (fun ra_2 => ?_)
  refine lv_iload_n hx hb dX3_tellMark_9 rfl (lv_at hl 1 rfl) ?_
  refine lv_aload_n hx hb dX3_tellMark_10 rfl (lv_at hl 0 rfl) ?_
  refine x_getI hx hb hown hX M (k := 7) okX3 ra0 (by decide) rfl kw_457 dX3_tellMark_11 ?_
  refine lv_iload_n hx hb dX3_tellMark_14 rfl (lv_at hl 2 rfl) ?_
  replace q := c2_s q
  obtain ⟨x_4, g_3, qc, q⟩ := q
  refine x_callV hx hb hml hl.1 hown hX M (S1 := S) (As := [.int x1, .int (rdI g_1 a0 7), .int x2]) (rest := []) okX5 ra_2 rfl kw_579 kw_580 mok_X5_tell (c_X5_tell ra_2 qc (Nat.le_refl 2)) kw_578 rfl rfl dX3_tellMark_15 (Nat.le_of_ble_eq_true rfl) ⟨Nat.le_trans (by decide) hRf, Nat.le_trans (by decide) hRl⟩ (Nat.zero_le _) (Nat.zero_le _) (fun H locs M hEF => ?_)
  replace q := ck_s q
  obtain ⟨hz, q⟩ := q
  cases q
  exact x_zret hx hb hr hlk (zb_nar hz) M Ext.rf dX3_tellMark_18
set_option maxRecDepth 100000 in
theorem c_X3_tellMark {l : Launch} {D : va_G} {cA : Nat → ClassId} {lo tS N : Nat} {S : Hs} {g g1 : Hg} {rv : Int32} {a0 : Nat} {x1 : Int32} {x2 : Int32} (ra0 : Rf lo S a0 3) (q : f_X3_tellMark N S g a0 x1 x2 = some (rv, g1)) {d : Nat} (hd : 3 ≤ d) : Ctr l yX3_tellMark cX3_tellMark 3 (some .boolean) D cA lo tS [.ref a0, .int x1, .int x2] S g d (some (.int rv)) S g1 True 0 0 := by
  refine x_met (by decide) (Nat.le_of_ble_eq_true rfl) ?_
  intro p e s m below meth c ls hx hb hml hr hlk hown hnm hX M hl
  exact w_X3_tellMark_0 hx hb hml hr hlk hown hX hd (Nat.mul_le_mul_left 60 hd) (N := N) _ _ _ _ _ _ _ M ra0 (lv_sub hl [0, 1, 2] rfl) q
def b_X11_hide_0 (N : Nat) (S : Hs) (g : Hg) (a0 : Nat) (x1 : Int32) (x2 : Int32) : Option (Int32 × Hg) :=
nn (rdR g a0 3) (fun a_1 =>
c2 (f_X1_logAt N S g a_1 x1) (fun o_3 g_2 =>
on o_3 (
some ((0 : Int32), g_2)) (fun a_4 =>
c2 (f_X3_tellMark N S g_2 a_4 x2 (1 : Int32)) (fun x_6 g_5 =>
if x_6 = 0 then (
some ((0 : Int32), g_5)) else (
some ((1 : Int32), g_5))))))
def f_X11_hide (N : Nat) (S : Hs) (g : Hg) (a0 : Nat) (x1 : Int32) (x2 : Int32) : Option (Int32 × Hg) := b_X11_hide_0 N S g a0 x1 x2
set_option maxHeartbeats 4000000 in
set_option maxRecDepth 100000 in
theorem w_X11_hide_0 (hx : p.tables.exec = Jvm.exec) (hb : c.code = cX11_hide) (hml : c.maxLocals = 4) (hr : meth.sig.returnType = (some .boolean)) (hlk : meth.locks = false) (hown : s.vm.findClass RX11 = some m.cls) (hX : Kx D cA lo tS s) (hRf : 4 ≤ R.frames) (hRl : 240 ≤ R.locals) {N : Nat} {rv : Int32} {g1 : Hg} {S : Hs} : ∀ (H : Heap) (locs : List Loc) (ls : Array Slot) (g : Hg) (a0 : Nat) (x1 : Int32) (x2 : Int32), Mm D cA lo S g s H locs → Rf lo S a0 11 → lv_has ls 4 [(0, .ref a0), (1, .int x1), (2, .int x2)] → b_X11_hide_0 N S g a0 x1 x2 = some (rv, g1) → W p l e R s m args below meth c H locs 0 0 (MQ below (Qcx D cA lo S (some (.int rv)) S g1 True) args s 0 0 (fun q : Nat => lo ≤ q)) (F0 m 0 ls []) := by
  intro H locs ls g a0 x1 x2 M ra0 hl q
  unfold b_X11_hide_0 at q
  refine lv_aload_n hx hb dX11_hide_0 rfl (lv_at hl 0 rfl) ?_
  replace q := nn_s q
  obtain ⟨a_1, e_a_1, q⟩ := q
  refine x_getR hx hb hown hX M e_a_1 okX11 ra0 (by decide) rfl kw_359 dX11_hide_1 (fun ra_1 => ?_)
  refine lv_iload_n hx hb dX11_hide_4 rfl (lv_at hl 1 rfl) ?_
  replace q := c2_s q
  obtain ⟨o_3, g_2, qc, q⟩ := q
  refine x_callV hx hb hml hl.1 hown hX M (S1 := S) (As := [.int x1]) (rest := []) okX1 ra_1 rfl kw_495 kw_496 mok_X1_logAt (c_X1_logAt ra_1 qc (Nat.le_refl 1)) kw_494 rfl rfl dX11_hide_5 (Nat.le_of_ble_eq_true rfl) ⟨Nat.le_trans (by decide) hRf, Nat.le_trans (by decide) hRl⟩ (Nat.zero_le _) (Nat.zero_le _) (fun H locs M hEF => ?_)
  have ro_3 := hEF.2
  refine x_astore_n (lv' := [(3, va_rf o_3), (0, .ref a0), (1, .int x1), (2, .int x2)]) hx hb dX11_hide_8 rfl hl (by decide) rfl (fun ls hl => ?_)
  refine x_aload_n hx hb dX11_hide_9 rfl (lv_at hl 0 rfl) ?_
  refine x_ifnull (tgt := 26) hx hb dX11_hide_10 (by decide) (fun c_8 => ?_) (fun a_4 c_8 => ?_)
  · replace q := on_n c_8 q
    refine lv_iconst (v := 0) hx hb dX11_hide_26 (by decide) ?_
    cases q
    exact x_zret hx hb hr hlk rfl M Ext.rf dX11_hide_27
  · subst c_8
    replace q := on_s rfl q
    have ra_4 := ro_3 a_4 rfl
    have hl : lv_has ls 4 [(3, .ref a_4), (0, .ref a0), (1, .int x1), (2, .int x2)] := hl
    refine lv_aload_n hx hb dX11_hide_13 rfl (lv_at hl 0 rfl) ?_
    refine lv_iload_n hx hb dX11_hide_14 rfl (lv_at hl 3 rfl) ?_
    refine lv_iconst (v := 1) hx hb dX11_hide_15 (by decide) ?_
    replace q := c2_s q
    obtain ⟨x_6, g_5, qc, q⟩ := q
    refine x_callV hx hb hml hl.1 hown hX M (S1 := S) (As := [.int x2, .int (1 : Int32)]) (rest := []) okX3 ra_4 rfl kw_575 kw_576 mok_X3_tellMark (c_X3_tellMark ra_4 qc (Nat.le_refl 3)) kw_574 rfl rfl dX11_hide_16 (Nat.le_of_ble_eq_true rfl) ⟨Nat.le_trans (by decide) hRf, Nat.le_trans (by decide) hRl⟩ (Nat.zero_le _) (Nat.zero_le _) (fun H locs M hEF => ?_)
    refine lv_if_eq (tgt := 26) hx hb dX11_hide_19 (by decide) (fun c_7 => ?_) (fun c_7 => ?_)
    · replace q := if_t c_7 q
      refine lv_iconst (v := 0) hx hb dX11_hide_26 (by decide) ?_
      cases q
      exact x_zret hx hb hr hlk rfl M Ext.rf dX11_hide_27
    · replace q := if_f c_7 q
      refine lv_iconst (v := 1) hx hb dX11_hide_22 (by decide) ?_
      refine lv_goto (tgt := 27) hx hb dX11_hide_23 (by decide) ?_
      cases q
      exact x_zret hx hb hr hlk rfl M Ext.rf dX11_hide_27
set_option maxRecDepth 100000 in
theorem c_X11_hide {l : Launch} {D : va_G} {cA : Nat → ClassId} {lo tS N : Nat} {S : Hs} {g g1 : Hg} {rv : Int32} {a0 : Nat} {x1 : Int32} {x2 : Int32} (ra0 : Rf lo S a0 11) (q : f_X11_hide N S g a0 x1 x2 = some (rv, g1)) {d : Nat} (hd : 4 ≤ d) : Ctr l yX11_hide cX11_hide 4 (some .boolean) D cA lo tS [.ref a0, .int x1, .int x2] S g d (some (.int rv)) S g1 True 0 0 := by
  refine x_met (by decide) (Nat.le_of_ble_eq_true rfl) ?_
  intro p e s m below meth c ls hx hb hml hr hlk hown hnm hX M hl
  exact w_X11_hide_0 hx hb hml hr hlk hown hX hd (Nat.mul_le_mul_left 60 hd) (N := N) _ _ _ _ _ _ _ M ra0 (lv_sub hl [0, 1, 2] rfl) q
def b_X10_init_0 (N : Nat) (S : Hs) (g : Hg) (a0 : Nat) : Option (Unit × Hs × Hg × Nat × Nat) :=
ck (lenok (400 : Int32)) (
al S g 20 (400 : Int32).toNatClampNeg (fun a_6 S_1 g_2 =>
nm (wrR g_2 a0 0 (some a_6)) (fun g_7 =>
some ((), S_1, g_7, 0, 0))))
def f_X10_init (N : Nat) (S : Hs) (g : Hg) (a0 : Nat) : Option (Unit × Hs × Hg × Nat × Nat) := b_X10_init_0 N S g a0
set_option maxHeartbeats 4000000 in
set_option maxRecDepth 100000 in
theorem w_X10_init_0 (hx : p.tables.exec = Jvm.exec) (hb : c.code = cX10_init) (hml : c.maxLocals = 1) (hr : meth.sig.returnType = none) (hlk : meth.locks = false) (hown : s.vm.findClass RX10 = some m.cls) (hX : Kx D cA lo tS s) (hRf : 1 ≤ R.frames) (hRl : 60 ≤ R.locals) (hnm : meth.name = "<init>") {N : Nat} {rv : Unit} {g1 : Hg} {S0 S1 : Hs} {cT wT : Nat} (hRc : cT ≤ R.cells) (hRs : wT ≤ R.slots) : ∀ (H : Heap) (locs : List Loc) (ls : Array Slot) (cells slots k w : Nat) (S : Hs) (g : Hg) (a0 : Nat), Mm D cA lo S g s H locs → Ext lo S0 S → Rf lo S a0 10 → lv_has ls 1 [(0, .ref a0)] → b_X10_init_0 N S g a0 = some (rv, S1, g1, k, w) → cells + k = cT → slots + w = wT → W p l e R s m args below meth c H locs cells slots (MQ below (Qcx D cA lo S0 none S1 g1 True) args s cT wT (fun q : Nat => lo ≤ q)) (F0 m 0 ls []) := by
  intro H locs ls cells slots k w S g a0 M hE ra0 hl q hc hs
  unfold b_X10_init_0 at q
  refine lv_aload_n hx hb dX10_init_0 rfl (lv_at hl 0 rfl) ?_
  refine x_objinit hx hb hml hl.1 hown hX (rest := []) kw_292 kw_oi kw_oc dX10_init_1 (Nat.le_of_ble_eq_true rfl) ⟨Nat.le_trans (by omega) hRf, Nat.le_trans (by omega) hRl⟩ ?_
  refine lv_aload_n hx hb dX10_init_4 rfl (lv_at hl 0 rfl) ?_
  refine lv_sipush (v := 400) hx hb dX10_init_5 (by decide) ?_
  replace q := ck_s q
  obtain ⟨hz, q⟩ := q
  replace q := al_s q
  obtain ⟨S_1, g_2, k_3, w_4, eS, eg, ek, ew, q⟩ := q
  refine x_newa20 hx hb hX M hz (hb_step hc ek hRc) (hb_step hs ew hRs) dX10_init_8 (fun H M rn_5 hE1 => ?_)
  rw [← eS, ← eg] at M
  rw [← eS] at rn_5 hE1
  clear eS eg
  replace ra0 := ra0.ext hE1
  replace hE := hE.tr hE1
  replace hc := hc_step hc ek
  replace hs := hc_step hs ew
  clear ek ew
  refine x_putR hx hb hown hX M (k := 0) (K1 := 20) okX10 ra0 (by decide) rfl rn_5 (Or.inr ⟨rfl, hnm, rfl⟩) rfl rfl kw_293 dX10_init_10 (fun H locs M => ?_)
  replace q := gen_g M q
  obtain ⟨g_7, -, M, q⟩ := q
  cases q
  have hc : cells + 1 = cT := hc
  have hs : slots + (400 : Int32).toNatClampNeg = wT := hs
  subst hc
  subst hs
  exact x_vret hx hb hr hlk M hE dX10_init_13
set_option maxRecDepth 100000 in
theorem c_X10_init {l : Launch} {D : va_G} {cA : Nat → ClassId} {lo tS N : Nat} {S S1 : Hs} {g g1 : Hg} {k w : Nat} {rv : Unit} {a0 : Nat} (ra0 : Rf lo S a0 10) (q : f_X10_init N S g a0 = some (rv, S1, g1, k, w)) {d : Nat} (hd : 1 ≤ d) : Ctr l yX10_init cX10_init 1 none D cA lo tS [.ref a0] S g d none S1 g1 True k w := by
  refine x_met (by decide) (Nat.le_of_ble_eq_true rfl) ?_
  intro p e s m below meth c ls hx hb hml hr hlk hown hnm hX M hl
  exact w_X10_init_0 hx hb hml hr hlk hown hX hd (Nat.mul_le_mul_left 60 hd) (N := N) hnm (Nat.le_refl k) (Nat.le_refl w) _ _ _ _ _ _ _ _ _ _ M Ext.rf ra0 (lv_sub hl [0] rfl) q (Nat.zero_add k) (Nat.zero_add w)
end W7
