section W8
variable {p : Program} {l : Launch} {e : Env} {R : Room} {s : State} {m : MethodId} {args : Array Value} {below : List Frame} {meth : Method} {c : Code} {D : va_G} {cA : Nat → ClassId} {lo tS : Nat}
def b_X7_init_0 (N : Nat) (S : Hs) (g : Hg) (a0 : Nat) : Option (Unit × Hs × Hg × Nat × Nat) :=
ck (lenok (40 : Int32)) (
al S g 20 (40 : Int32).toNatClampNeg (fun a_6 S_1 g_2 =>
nm (wrR g_2 a0 0 (some a_6)) (fun g_7 =>
ck (lenok (40 : Int32)) (
al S_1 g_7 21 (40 : Int32).toNatClampNeg (fun a_13 S_8 g_9 =>
nm (wrR g_9 a0 1 (some a_13)) (fun g_14 =>
ck (lenok (128 : Int32)) (
al S_8 g_14 20 (128 : Int32).toNatClampNeg (fun a_20 S_15 g_16 =>
nm (wrR g_16 a0 2 (some a_20)) (fun g_21 =>
some ((), S_15, g_21, 0, 0))))))))))
def f_X7_init (N : Nat) (S : Hs) (g : Hg) (a0 : Nat) : Option (Unit × Hs × Hg × Nat × Nat) := b_X7_init_0 N S g a0
set_option maxHeartbeats 4000000 in
set_option maxRecDepth 100000 in
theorem w_X7_init_0 (hx : p.tables.exec = Jvm.exec) (hb : c.code = cX7_init) (hml : c.maxLocals = 1) (hr : meth.sig.returnType = none) (hlk : meth.locks = false) (hown : s.vm.findClass RX7 = some m.cls) (hX : Kx D cA lo tS s) (hRf : 1 ≤ R.frames) (hRl : 60 ≤ R.locals) (hnm : meth.name = "<init>") {N : Nat} {rv : Unit} {g1 : Hg} {S0 S1 : Hs} {cT wT : Nat} (hRc : cT ≤ R.cells) (hRs : wT ≤ R.slots) : ∀ (H : Heap) (locs : List Loc) (ls : Array Slot) (cells slots k w : Nat) (S : Hs) (g : Hg) (a0 : Nat), Mm D cA lo S g s H locs → Ext lo S0 S → Rf lo S a0 7 → lv_has ls 1 [(0, .ref a0)] → b_X7_init_0 N S g a0 = some (rv, S1, g1, k, w) → cells + k = cT → slots + w = wT → W p l e R s m args below meth c H locs cells slots (MQ below (Qcx D cA lo S0 none S1 g1 True) args s cT wT (fun q : Nat => lo ≤ q)) (F0 m 0 ls []) := by
  intro H locs ls cells slots k w S g a0 M hE ra0 hl q hc hs
  unfold b_X7_init_0 at q
  refine lv_aload_n hx hb dX7_init_0 rfl (lv_at hl 0 rfl) ?_
  refine x_objinit hx hb hml hl.1 hown hX (rest := []) kw_179 kw_oi kw_oc dX7_init_1 (Nat.le_of_ble_eq_true rfl) ⟨Nat.le_trans (by omega) hRf, Nat.le_trans (by omega) hRl⟩ ?_
  refine lv_aload_n hx hb dX7_init_4 rfl (lv_at hl 0 rfl) ?_
  refine lv_bipush (v := 40) hx hb dX7_init_5 (by decide) ?_
  replace q := ck_s q
  obtain ⟨hz, q⟩ := q
  replace q := al_s q
  obtain ⟨S_1, g_2, k_3, w_4, eS, eg, ek, ew, q⟩ := q
  refine x_newa20 hx hb hX M hz (hb_step hc ek hRc) (hb_step hs ew hRs) dX7_init_7 (fun H M rn_5 hE1 => ?_)
  rw [← eS, ← eg] at M
  rw [← eS] at rn_5 hE1
  clear eS eg
  replace ra0 := ra0.ext hE1
  replace hE := hE.tr hE1
  replace hc := hc_step hc ek
  replace hs := hc_step hs ew
  clear ek ew
  refine x_putR hx hb hown hX M (k := 0) (K1 := 20) okX7 ra0 (by decide) rfl rn_5 (Or.inr ⟨rfl, hnm, rfl⟩) rfl rfl kw_180 dX7_init_9 (fun H locs M => ?_)
  replace q := gen_g M q
  obtain ⟨g_7, -, M, q⟩ := q
  refine lv_aload_n hx hb dX7_init_12 rfl (lv_at hl 0 rfl) ?_
  refine lv_bipush (v := 40) hx hb dX7_init_13 (by decide) ?_
  replace q := ck_s q
  obtain ⟨hz, q⟩ := q
  replace q := al_s q
  obtain ⟨S_8, g_9, k_10, w_11, eS, eg, ek, ew, q⟩ := q
  refine x_newa21 hx hb hX M hz (hb_step hc ek hRc) (hb_step hs ew hRs) dX7_init_15 (fun H M rn_12 hE1 => ?_)
  rw [← eS, ← eg] at M
  rw [← eS] at rn_12 hE1
  clear eS eg
  replace ra0 := ra0.ext hE1
  replace hE := hE.tr hE1
  replace hc := hc_step hc ek
  replace hs := hc_step hs ew
  clear ek ew
  refine x_putR hx hb hown hX M (k := 1) (K1 := 21) okX7 ra0 (by decide) rfl rn_12 (Or.inr ⟨rfl, hnm, rfl⟩) rfl rfl kw_183 dX7_init_17 (fun H locs M => ?_)
  replace q := gen_g M q
  obtain ⟨g_14, -, M, q⟩ := q
  refine lv_aload_n hx hb dX7_init_20 rfl (lv_at hl 0 rfl) ?_
  refine lv_sipush (v := 128) hx hb dX7_init_21 (by decide) ?_
  replace q := ck_s q
  obtain ⟨hz, q⟩ := q
  replace q := al_s q
  obtain ⟨S_15, g_16, k_17, w_18, eS, eg, ek, ew, q⟩ := q
  refine x_newa20 hx hb hX M hz (hb_step hc ek hRc) (hb_step hs ew hRs) dX7_init_24 (fun H M rn_19 hE1 => ?_)
  rw [← eS, ← eg] at M
  rw [← eS] at rn_19 hE1
  clear eS eg
  replace ra0 := ra0.ext hE1
  replace hE := hE.tr hE1
  replace hc := hc_step hc ek
  replace hs := hc_step hs ew
  clear ek ew
  refine x_putR hx hb hown hX M (k := 2) (K1 := 20) okX7 ra0 (by decide) rfl rn_19 (Or.inl rfl) rfl rfl kw_186 dX7_init_26 (fun H locs M => ?_)
  replace q := gen_g M q
  obtain ⟨g_21, -, M, q⟩ := q
  cases q
  have hc : cells + 1 + 1 + 1 = cT := hc
  have hs : slots + (40 : Int32).toNatClampNeg + (40 : Int32).toNatClampNeg + (128 : Int32).toNatClampNeg = wT := hs
  subst hc
  subst hs
  exact x_vret hx hb hr hlk M hE dX7_init_29
set_option maxRecDepth 100000 in
theorem c_X7_init {l : Launch} {D : va_G} {cA : Nat → ClassId} {lo tS N : Nat} {S S1 : Hs} {g g1 : Hg} {k w : Nat} {rv : Unit} {a0 : Nat} (ra0 : Rf lo S a0 7) (q : f_X7_init N S g a0 = some (rv, S1, g1, k, w)) {d : Nat} (hd : 1 ≤ d) : Ctr l yX7_init cX7_init 1 none D cA lo tS [.ref a0] S g d none S1 g1 True k w := by
  refine x_met (by decide) (Nat.le_of_ble_eq_true rfl) ?_
  intro p e s m below meth c ls hx hb hml hr hlk hown hnm hX M hl
  exact w_X7_init_0 hx hb hml hr hlk hown hX hd (Nat.mul_le_mul_left 60 hd) (N := N) hnm (Nat.le_refl k) (Nat.le_refl w) _ _ _ _ _ _ _ _ _ _ M Ext.rf ra0 (lv_sub hl [0] rfl) q (Nat.zero_add k) (Nat.zero_add w)
def b_X1_init_122 (N : Nat) (k122 : Hs → Hg → Nat → Int32 → Option (Unit × Hs × Hg × Nat × Nat)) (S : Hs) (g : Hg) (a0 : Nat) (x1 : Int32) : Option (Unit × Hs × Hg × Nat × Nat) :=
if (8 : Int32) ≤ x1 then (
some ((), S, g, 0, 0)) else (
nn (rdR g a0 8) (fun a_2 =>
al S g 10 7 (fun a_8 S_3 g_4 =>
c5 (f_X10_init N S_3 g_4 a_8) (fun u_10 S_11 g_9 =>
ck (inb x1 (hpL S_11 a_2)) (
nm (wrR g_9 a_2 x1.toNatClampNeg (some a_8)) (fun g_16 =>
nm (x1 + 1) (fun x_17 =>
k122 S_11 g_16 a0 x_17)))))))
def n_X1_init_122 (N : Nat) : Nat → Hs → Hg → Nat → Int32 → Option (Unit × Hs × Hg × Nat × Nat)
  | 0 => fun _ _ _ _ => none
  | n + 1 => fun S g a0 x1 => b_X1_init_122 N (n_X1_init_122 N n) S g a0 x1
def b_X1_init_95 (N : Nat) (k95 : Hs → Hg → Nat → Int32 → Option (Unit × Hs × Hg × Nat × Nat)) (S : Hs) (g : Hg) (a0 : Nat) (x1 : Int32) : Option (Unit × Hs × Hg × Nat × Nat) :=
if (12 : Int32) ≤ x1 then (
n_X1_init_122 N N S g a0 (0 : Int32)) else (
nn (rdR g a0 3) (fun a_2 =>
al S g 0 7 (fun a_8 S_3 g_4 =>
c5 (f_X0_init N S_3 g_4 a_8) (fun u_10 S_11 g_9 =>
ck (inb x1 (hpL S_11 a_2)) (
nm (wrR g_9 a_2 x1.toNatClampNeg (some a_8)) (fun g_16 =>
nm (x1 + 1) (fun x_17 =>
k95 S_11 g_16 a0 x_17)))))))
def n_X1_init_95 (N : Nat) : Nat → Hs → Hg → Nat → Int32 → Option (Unit × Hs × Hg × Nat × Nat)
  | 0 => fun _ _ _ _ => none
  | n + 1 => fun S g a0 x1 => b_X1_init_95 N (n_X1_init_95 N n) S g a0 x1
def b_X1_init_68 (N : Nat) (k68 : Hs → Hg → Nat → Int32 → Option (Unit × Hs × Hg × Nat × Nat)) (S : Hs) (g : Hg) (a0 : Nat) (x1 : Int32) : Option (Unit × Hs × Hg × Nat × Nat) :=
if (16 : Int32) ≤ x1 then (
n_X1_init_95 N N S g a0 (0 : Int32)) else (
nn (rdR g a0 2) (fun a_2 =>
al S g 7 12 (fun a_8 S_3 g_4 =>
c5 (f_X7_init N S_3 g_4 a_8) (fun u_10 S_11 g_9 =>
ck (inb x1 (hpL S_11 a_2)) (
nm (wrR g_9 a_2 x1.toNatClampNeg (some a_8)) (fun g_16 =>
nm (x1 + 1) (fun x_17 =>
k68 S_11 g_16 a0 x_17)))))))
def n_X1_init_68 (N : Nat) : Nat → Hs → Hg → Nat → Int32 → Option (Unit × Hs × Hg × Nat × Nat)
  | 0 => fun _ _ _ _ => none
  | n + 1 => fun S g a0 x1 => b_X1_init_68 N (n_X1_init_68 N n) S g a0 x1
def b_X1_init_0 (N : Nat) (S : Hs) (g : Hg) (a0 : Nat) : Option (Unit × Hs × Hg × Nat × Nat) :=
ck (lenok (6 : Int32)) (
al S g 23 (6 : Int32).toNatClampNeg (fun a_6 S_1 g_2 =>
nm (wrR g_2 a0 0 (some a_6)) (fun g_7 =>
ck (lenok (16 : Int32)) (
al S_1 g_7 24 (16 : Int32).toNatClampNeg (fun a_13 S_8 g_9 =>
nm (wrR g_9 a0 2 (some a_13)) (fun g_14 =>
ck (lenok (12 : Int32)) (
al S_8 g_14 25 (12 : Int32).toNatClampNeg (fun a_20 S_15 g_16 =>
nm (wrR g_16 a0 3 (some a_20)) (fun g_21 =>
ck (lenok (12 : Int32)) (
al S_15 g_21 20 (12 : Int32).toNatClampNeg (fun a_27 S_22 g_23 =>
nm (wrR g_23 a0 4 (some a_27)) (fun g_28 =>
ck (lenok (60 : Int32)) (
al S_22 g_28 25 (60 : Int32).toNatClampNeg (fun a_34 S_29 g_30 =>
nm (wrR g_30 a0 5 (some a_34)) (fun g_35 =>
ck (lenok (60 : Int32)) (
al S_29 g_35 25 (60 : Int32).toNatClampNeg (fun a_41 S_36 g_37 =>
nm (wrR g_37 a0 6 (some a_41)) (fun g_42 =>
ck (lenok (8 : Int32)) (
al S_36 g_42 26 (8 : Int32).toNatClampNeg (fun a_48 S_43 g_44 =>
nm (wrR g_44 a0 8 (some a_48)) (fun g_49 =>
n_X1_init_68 N N S_43 g_49 a0 (0 : Int32))))))))))))))))))))))
def f_X1_init (N : Nat) (S : Hs) (g : Hg) (a0 : Nat) : Option (Unit × Hs × Hg × Nat × Nat) := b_X1_init_0 N S g a0
set_option maxHeartbeats 4000000 in
set_option maxRecDepth 100000 in
theorem w_X1_init_122 (hx : p.tables.exec = Jvm.exec) (hb : c.code = cX1_init) (hml : c.maxLocals = 2) (hr : meth.sig.returnType = none) (hlk : meth.locks = false) (hown : s.vm.findClass RX1 = some m.cls) (hX : Kx D cA lo tS s) (hRf : 2 ≤ R.frames) (hRl : 120 ≤ R.locals) (hnm : meth.name = "<init>") {N : Nat} {rv : Unit} {g1 : Hg} {S0 S1 : Hs} {cT wT : Nat} (hRc : cT ≤ R.cells) (hRs : wT ≤ R.slots) {k122 : Hs → Hg → Nat → Int32 → Option (Unit × Hs × Hg × Nat × Nat)} (hk122 : ∀ (H : Heap) (locs : List Loc) (ls : Array Slot) (cells slots k w : Nat) (S : Hs) (g : Hg) (a0 : Nat) (x1 : Int32), Mm D cA lo S g s H locs → Ext lo S0 S → Rf lo S a0 1 → lv_has ls 2 [(0, .ref a0), (1, .int x1)] → k122 S g a0 x1 = some (rv, S1, g1, k, w) → cells + k = cT → slots + w = wT → W p l e R s m args below meth c H locs cells slots (MQ below (Qcx D cA lo S0 none S1 g1 True) args s cT wT (fun q : Nat => lo ≤ q)) (F0 m 122 ls [])) : ∀ (H : Heap) (locs : List Loc) (ls : Array Slot) (cells slots k w : Nat) (S : Hs) (g : Hg) (a0 : Nat) (x1 : Int32), Mm D cA lo S g s H locs → Ext lo S0 S → Rf lo S a0 1 → lv_has ls 2 [(0, .ref a0), (1, .int x1)] → b_X1_init_122 N k122 S g a0 x1 = some (rv, S1, g1, k, w) → cells + k = cT → slots + w = wT → W p l e R s m args below meth c H locs cells slots (MQ below (Qcx D cA lo S0 none S1 g1 True) args s cT wT (fun q : Nat => lo ≤ q)) (F0 m 122 ls []) := by
  intro H locs ls cells slots k w S g a0 x1 M hE ra0 hl q hc hs
  unfold b_X1_init_122 at q
  refine lv_iload_n hx hb dX1_init_122 rfl (lv_at hl 1 rfl) ?_
  refine lv_bipush (v := 8) hx hb dX1_init_123 (by decide) ?_
  refine lv_icmp_ge (tgt := 147) hx hb dX1_init_125 (by decide) (fun c_1 => ?_) (fun c_1 => ?_)
  · replace q := if_t c_1 q
    cases q
    have hc : cells = cT := hc
    have hs : slots = wT := hs
    subst hc
    subst hs
    exact x_vret hx hb hr hlk M hE dX1_init_147
  · replace q := if_f c_1 q
    refine lv_aload_n hx hb dX1_init_128 rfl (lv_at hl 0 rfl) ?_
    replace q := nn_s q
    obtain ⟨a_2, e_a_2, q⟩ := q
    refine x_getR hx hb hown hX M e_a_2 okX1 ra0 (by decide) rfl kw_331 dX1_init_129 (fun ra_2 => ?_)
    refine lv_iload_n hx hb dX1_init_132 rfl (lv_at hl 1 rfl) ?_
    replace q := al_s q
    obtain ⟨S_3, g_4, k_5, w_6, eS, eg, ek, ew, q⟩ := q
    refine x_new hx hb hown hX M okX10 kw_173 kw_288 kw_61 dfX10 (hb_step hc ek hRc) (hb_step hs ew hRs) dX1_init_133 (fun H M rn_7 hE1 => ?_)
    rw [← eS, ← eg] at M
    rw [← eS] at rn_7 hE1
    clear eS eg
    replace ra0 := ra0.ext hE1
    replace ra_2 := ra_2.ext hE1
    replace hE := hE.tr hE1
    replace hc := hc_step hc ek
    replace hs := hc_step hs ew
    clear ek ew
    refine lv_dup hx hb dX1_init_136 rfl ?_
    replace q := c5_s q
    obtain ⟨u_10, S_11, g_9, k_12, w_13, k_14, w_15, qc, ek, ew, q⟩ := q
    refine x_callIN hx hb hml hl.1 hown hX M (As := []) (rest := [.ref (hpN S), .int x1, .ref a_2]) kw_290 rfl mok_X10_init (c_X10_init rn_7 qc (Nat.le_refl 1)) kw_289 rfl rfl dX1_init_137 (Nat.le_of_ble_eq_true rfl) ⟨Nat.le_trans (by decide) hRf, Nat.le_trans (by decide) hRl⟩ (hb_step hc ek hRc) (hb_step hs ew hRs) (fun H locs M hEF => ?_)
    replace ra0 := ra0.ext hEF.1
    replace ra_2 := ra_2.ext hEF.1
    replace rn_7 := rn_7.ext hEF.1
    replace hE := hE.tr hEF.1
    replace hc := hc_step hc ek
    replace hs := hc_step hs ew
    clear ek ew
    replace q := ck_s q
    obtain ⟨hin, q⟩ := q
    refine x_aast26 hx hb hX M ra_2 rn_7 (inb_in hin) dX1_init_140 (fun H locs M => ?_)
    replace q := gen_g M q
    obtain ⟨g_16, -, M, q⟩ := q
    obtain ⟨x_17, e_x_17⟩ : ∃ y : Int32, y = x1 + 1 := ⟨_, rfl⟩
    replace q := nm_s q e_x_17
    refine lv_iinc (v := x_17) (lv' := [(1, .int x_17), (0, .ref a0)]) hx hb dX1_init_141 hl (k := 1) rfl (by rw [e_x_17]; rfl) (by decide) rfl (fun ls hl => ?_)
    refine lv_goto (tgt := 122) hx hb dX1_init_144 (by decide) ?_
    exact hk122 _ _ _ _ _ _ _ _ _ _ _ M hE ra0 (lv_sub hl [1, 0] rfl) q hc hs
set_option maxRecDepth 100000 in
theorem l_X1_init_122 (hx : p.tables.exec = Jvm.exec) (hb : c.code = cX1_init) (hml : c.maxLocals = 2) (hr : meth.sig.returnType = none) (hlk : meth.locks = false) (hown : s.vm.findClass RX1 = some m.cls) (hX : Kx D cA lo tS s) (hRf : 2 ≤ R.frames) (hRl : 120 ≤ R.locals) (hnm : meth.name = "<init>") {N : Nat} {rv : Unit} {g1 : Hg} {S0 S1 : Hs} {cT wT : Nat} (hRc : cT ≤ R.cells) (hRs : wT ≤ R.slots) : ∀ (n : Nat), ∀ (H : Heap) (locs : List Loc) (ls : Array Slot) (cells slots k w : Nat) (S : Hs) (g : Hg) (a0 : Nat) (x1 : Int32), Mm D cA lo S g s H locs → Ext lo S0 S → Rf lo S a0 1 → lv_has ls 2 [(0, .ref a0), (1, .int x1)] → n_X1_init_122 N n S g a0 x1 = some (rv, S1, g1, k, w) → cells + k = cT → slots + w = wT → W p l e R s m args below meth c H locs cells slots (MQ below (Qcx D cA lo S0 none S1 g1 True) args s cT wT (fun q : Nat => lo ≤ q)) (F0 m 122 ls []) := by
  intro n
  induction n with
  | zero =>
    intro H locs ls cells slots k w S g a0 x1 M hE ra0 hl q hc hs
    exact absurd q (by simp [n_X1_init_122])
  | succ n ih => exact w_X1_init_122 hx hb hml hr hlk hown hX hRf hRl (N := N) hnm hRc hRs  ih
set_option maxHeartbeats 4000000 in
set_option maxRecDepth 100000 in
theorem w_X1_init_95 (hx : p.tables.exec = Jvm.exec) (hb : c.code = cX1_init) (hml : c.maxLocals = 2) (hr : meth.sig.returnType = none) (hlk : meth.locks = false) (hown : s.vm.findClass RX1 = some m.cls) (hX : Kx D cA lo tS s) (hRf : 2 ≤ R.frames) (hRl : 120 ≤ R.locals) (hnm : meth.name = "<init>") {N : Nat} {rv : Unit} {g1 : Hg} {S0 S1 : Hs} {cT wT : Nat} (hRc : cT ≤ R.cells) (hRs : wT ≤ R.slots) {k95 : Hs → Hg → Nat → Int32 → Option (Unit × Hs × Hg × Nat × Nat)} (hk95 : ∀ (H : Heap) (locs : List Loc) (ls : Array Slot) (cells slots k w : Nat) (S : Hs) (g : Hg) (a0 : Nat) (x1 : Int32), Mm D cA lo S g s H locs → Ext lo S0 S → Rf lo S a0 1 → lv_has ls 2 [(0, .ref a0), (1, .int x1)] → k95 S g a0 x1 = some (rv, S1, g1, k, w) → cells + k = cT → slots + w = wT → W p l e R s m args below meth c H locs cells slots (MQ below (Qcx D cA lo S0 none S1 g1 True) args s cT wT (fun q : Nat => lo ≤ q)) (F0 m 95 ls [])) : ∀ (H : Heap) (locs : List Loc) (ls : Array Slot) (cells slots k w : Nat) (S : Hs) (g : Hg) (a0 : Nat) (x1 : Int32), Mm D cA lo S g s H locs → Ext lo S0 S → Rf lo S a0 1 → lv_has ls 2 [(0, .ref a0), (1, .int x1)] → b_X1_init_95 N k95 S g a0 x1 = some (rv, S1, g1, k, w) → cells + k = cT → slots + w = wT → W p l e R s m args below meth c H locs cells slots (MQ below (Qcx D cA lo S0 none S1 g1 True) args s cT wT (fun q : Nat => lo ≤ q)) (F0 m 95 ls []) := by
  intro H locs ls cells slots k w S g a0 x1 M hE ra0 hl q hc hs
  unfold b_X1_init_95 at q
  refine lv_iload_n hx hb dX1_init_95 rfl (lv_at hl 1 rfl) ?_
  refine lv_bipush (v := 12) hx hb dX1_init_96 (by decide) ?_
  refine lv_icmp_ge (tgt := 120) hx hb dX1_init_98 (by decide) (fun c_1 => ?_) (fun c_1 => ?_)
  · replace q := if_t c_1 q
    refine lv_iconst (v := 0) hx hb dX1_init_120 (by decide) ?_
    refine lv_istore_n (lv' := [(1, .int (0 : Int32)), (0, .ref a0)]) hx hb dX1_init_121 rfl hl (by decide) rfl (fun ls hl => ?_)
    exact l_X1_init_122 hx hb hml hr hlk hown hX hRf hRl (N := N) hnm hRc hRs  N _ _ _ _ _ _ _ _ _ _ _ M hE ra0 (lv_sub hl [1, 0] rfl) q hc hs
  · replace q := if_f c_1 q
    refine lv_aload_n hx hb dX1_init_101 rfl (lv_at hl 0 rfl) ?_
    replace q := nn_s q
    obtain ⟨a_2, e_a_2, q⟩ := q
    refine x_getR hx hb hown hX M e_a_2 okX1 ra0 (by decide) rfl kw_323 dX1_init_102 (fun ra_2 => ?_)
    refine lv_iload_n hx hb dX1_init_105 rfl (lv_at hl 1 rfl) ?_
    replace q := al_s q
    obtain ⟨S_3, g_4, k_5, w_6, eS, eg, ek, ew, q⟩ := q
    refine x_new hx hb hown hX M okX0 kw_171 kw_243 kw_60 dfX0 (hb_step hc ek hRc) (hb_step hs ew hRs) dX1_init_106 (fun H M rn_7 hE1 => ?_)
    rw [← eS, ← eg] at M
    rw [← eS] at rn_7 hE1
    clear eS eg
    replace ra0 := ra0.ext hE1
    replace ra_2 := ra_2.ext hE1
    replace hE := hE.tr hE1
    replace hc := hc_step hc ek
    replace hs := hc_step hs ew
    clear ek ew
    refine lv_dup hx hb dX1_init_109 rfl ?_
    replace q := c5_s q
    obtain ⟨u_10, S_11, g_9, k_12, w_13, k_14, w_15, qc, ek, ew, q⟩ := q
    refine x_callIN hx hb hml hl.1 hown hX M (As := []) (rest := [.ref (hpN S), .int x1, .ref a_2]) kw_245 rfl mok_X0_init (c_X0_init rn_7 qc (Nat.le_refl 1)) kw_244 rfl rfl dX1_init_110 (Nat.le_of_ble_eq_true rfl) ⟨Nat.le_trans (by decide) hRf, Nat.le_trans (by decide) hRl⟩ (hb_step hc ek hRc) (hb_step hs ew hRs) (fun H locs M hEF => ?_)
    replace ra0 := ra0.ext hEF.1
    replace ra_2 := ra_2.ext hEF.1
    replace rn_7 := rn_7.ext hEF.1
    replace hE := hE.tr hEF.1
    replace hc := hc_step hc ek
    replace hs := hc_step hs ew
    clear ek ew
    replace q := ck_s q
    obtain ⟨hin, q⟩ := q
    refine x_aast25 hx hb hX M ra_2 rn_7 (inb_in hin) dX1_init_113 (fun H locs M => ?_)
    replace q := gen_g M q
    obtain ⟨g_16, -, M, q⟩ := q
    obtain ⟨x_17, e_x_17⟩ : ∃ y : Int32, y = x1 + 1 := ⟨_, rfl⟩
    replace q := nm_s q e_x_17
    refine lv_iinc (v := x_17) (lv' := [(1, .int x_17), (0, .ref a0)]) hx hb dX1_init_114 hl (k := 1) rfl (by rw [e_x_17]; rfl) (by decide) rfl (fun ls hl => ?_)
    refine lv_goto (tgt := 95) hx hb dX1_init_117 (by decide) ?_
    exact hk95 _ _ _ _ _ _ _ _ _ _ _ M hE ra0 (lv_sub hl [1, 0] rfl) q hc hs
set_option maxRecDepth 100000 in
theorem l_X1_init_95 (hx : p.tables.exec = Jvm.exec) (hb : c.code = cX1_init) (hml : c.maxLocals = 2) (hr : meth.sig.returnType = none) (hlk : meth.locks = false) (hown : s.vm.findClass RX1 = some m.cls) (hX : Kx D cA lo tS s) (hRf : 2 ≤ R.frames) (hRl : 120 ≤ R.locals) (hnm : meth.name = "<init>") {N : Nat} {rv : Unit} {g1 : Hg} {S0 S1 : Hs} {cT wT : Nat} (hRc : cT ≤ R.cells) (hRs : wT ≤ R.slots) : ∀ (n : Nat), ∀ (H : Heap) (locs : List Loc) (ls : Array Slot) (cells slots k w : Nat) (S : Hs) (g : Hg) (a0 : Nat) (x1 : Int32), Mm D cA lo S g s H locs → Ext lo S0 S → Rf lo S a0 1 → lv_has ls 2 [(0, .ref a0), (1, .int x1)] → n_X1_init_95 N n S g a0 x1 = some (rv, S1, g1, k, w) → cells + k = cT → slots + w = wT → W p l e R s m args below meth c H locs cells slots (MQ below (Qcx D cA lo S0 none S1 g1 True) args s cT wT (fun q : Nat => lo ≤ q)) (F0 m 95 ls []) := by
  intro n
  induction n with
  | zero =>
    intro H locs ls cells slots k w S g a0 x1 M hE ra0 hl q hc hs
    exact absurd q (by simp [n_X1_init_95])
  | succ n ih => exact w_X1_init_95 hx hb hml hr hlk hown hX hRf hRl (N := N) hnm hRc hRs  ih
set_option maxHeartbeats 4000000 in
set_option maxRecDepth 100000 in
theorem w_X1_init_68 (hx : p.tables.exec = Jvm.exec) (hb : c.code = cX1_init) (hml : c.maxLocals = 2) (hr : meth.sig.returnType = none) (hlk : meth.locks = false) (hown : s.vm.findClass RX1 = some m.cls) (hX : Kx D cA lo tS s) (hRf : 2 ≤ R.frames) (hRl : 120 ≤ R.locals) (hnm : meth.name = "<init>") {N : Nat} {rv : Unit} {g1 : Hg} {S0 S1 : Hs} {cT wT : Nat} (hRc : cT ≤ R.cells) (hRs : wT ≤ R.slots) {k68 : Hs → Hg → Nat → Int32 → Option (Unit × Hs × Hg × Nat × Nat)} (hk68 : ∀ (H : Heap) (locs : List Loc) (ls : Array Slot) (cells slots k w : Nat) (S : Hs) (g : Hg) (a0 : Nat) (x1 : Int32), Mm D cA lo S g s H locs → Ext lo S0 S → Rf lo S a0 1 → lv_has ls 2 [(0, .ref a0), (1, .int x1)] → k68 S g a0 x1 = some (rv, S1, g1, k, w) → cells + k = cT → slots + w = wT → W p l e R s m args below meth c H locs cells slots (MQ below (Qcx D cA lo S0 none S1 g1 True) args s cT wT (fun q : Nat => lo ≤ q)) (F0 m 68 ls [])) : ∀ (H : Heap) (locs : List Loc) (ls : Array Slot) (cells slots k w : Nat) (S : Hs) (g : Hg) (a0 : Nat) (x1 : Int32), Mm D cA lo S g s H locs → Ext lo S0 S → Rf lo S a0 1 → lv_has ls 2 [(0, .ref a0), (1, .int x1)] → b_X1_init_68 N k68 S g a0 x1 = some (rv, S1, g1, k, w) → cells + k = cT → slots + w = wT → W p l e R s m args below meth c H locs cells slots (MQ below (Qcx D cA lo S0 none S1 g1 True) args s cT wT (fun q : Nat => lo ≤ q)) (F0 m 68 ls []) := by
  intro H locs ls cells slots k w S g a0 x1 M hE ra0 hl q hc hs
  unfold b_X1_init_68 at q
  refine lv_iload_n hx hb dX1_init_68 rfl (lv_at hl 1 rfl) ?_
  refine lv_bipush (v := 16) hx hb dX1_init_69 (by decide) ?_
  refine lv_icmp_ge (tgt := 93) hx hb dX1_init_71 (by decide) (fun c_1 => ?_) (fun c_1 => ?_)
  · replace q := if_t c_1 q
    refine lv_iconst (v := 0) hx hb dX1_init_93 (by decide) ?_
    refine lv_istore_n (lv' := [(1, .int (0 : Int32)), (0, .ref a0)]) hx hb dX1_init_94 rfl hl (by decide) rfl (fun ls hl => ?_)
    exact l_X1_init_95 hx hb hml hr hlk hown hX hRf hRl (N := N) hnm hRc hRs  N _ _ _ _ _ _ _ _ _ _ _ M hE ra0 (lv_sub hl [1, 0] rfl) q hc hs
  · replace q := if_f c_1 q
    refine lv_aload_n hx hb dX1_init_74 rfl (lv_at hl 0 rfl) ?_
    replace q := nn_s q
    obtain ⟨a_2, e_a_2, q⟩ := q
    refine x_getR hx hb hown hX M e_a_2 okX1 ra0 (by decide) rfl kw_322 dX1_init_75 (fun ra_2 => ?_)
    refine lv_iload_n hx hb dX1_init_78 rfl (lv_at hl 1 rfl) ?_
    replace q := al_s q
    obtain ⟨S_3, g_4, k_5, w_6, eS, eg, ek, ew, q⟩ := q
    refine x_new hx hb hown hX M okX7 kw_169 kw_175 kw_59 dfX7 (hb_step hc ek hRc) (hb_step hs ew hRs) dX1_init_79 (fun H M rn_7 hE1 => ?_)
    rw [← eS, ← eg] at M
    rw [← eS] at rn_7 hE1
    clear eS eg
    replace ra0 := ra0.ext hE1
    replace ra_2 := ra_2.ext hE1
    replace hE := hE.tr hE1
    replace hc := hc_step hc ek
    replace hs := hc_step hs ew
    clear ek ew
    refine lv_dup hx hb dX1_init_82 rfl ?_
    replace q := c5_s q
    obtain ⟨u_10, S_11, g_9, k_12, w_13, k_14, w_15, qc, ek, ew, q⟩ := q
    refine x_callIN hx hb hml hl.1 hown hX M (As := []) (rest := [.ref (hpN S), .int x1, .ref a_2]) kw_177 rfl mok_X7_init (c_X7_init rn_7 qc (Nat.le_refl 1)) kw_176 rfl rfl dX1_init_83 (Nat.le_of_ble_eq_true rfl) ⟨Nat.le_trans (by decide) hRf, Nat.le_trans (by decide) hRl⟩ (hb_step hc ek hRc) (hb_step hs ew hRs) (fun H locs M hEF => ?_)
    replace ra0 := ra0.ext hEF.1
    replace ra_2 := ra_2.ext hEF.1
    replace rn_7 := rn_7.ext hEF.1
    replace hE := hE.tr hEF.1
    replace hc := hc_step hc ek
    replace hs := hc_step hs ew
    clear ek ew
    replace q := ck_s q
    obtain ⟨hin, q⟩ := q
    refine x_aast24 hx hb hX M ra_2 rn_7 (inb_in hin) dX1_init_86 (fun H locs M => ?_)
    replace q := gen_g M q
    obtain ⟨g_16, -, M, q⟩ := q
    obtain ⟨x_17, e_x_17⟩ : ∃ y : Int32, y = x1 + 1 := ⟨_, rfl⟩
    replace q := nm_s q e_x_17
    refine lv_iinc (v := x_17) (lv' := [(1, .int x_17), (0, .ref a0)]) hx hb dX1_init_87 hl (k := 1) rfl (by rw [e_x_17]; rfl) (by decide) rfl (fun ls hl => ?_)
    refine lv_goto (tgt := 68) hx hb dX1_init_90 (by decide) ?_
    exact hk68 _ _ _ _ _ _ _ _ _ _ _ M hE ra0 (lv_sub hl [1, 0] rfl) q hc hs
set_option maxRecDepth 100000 in
theorem l_X1_init_68 (hx : p.tables.exec = Jvm.exec) (hb : c.code = cX1_init) (hml : c.maxLocals = 2) (hr : meth.sig.returnType = none) (hlk : meth.locks = false) (hown : s.vm.findClass RX1 = some m.cls) (hX : Kx D cA lo tS s) (hRf : 2 ≤ R.frames) (hRl : 120 ≤ R.locals) (hnm : meth.name = "<init>") {N : Nat} {rv : Unit} {g1 : Hg} {S0 S1 : Hs} {cT wT : Nat} (hRc : cT ≤ R.cells) (hRs : wT ≤ R.slots) : ∀ (n : Nat), ∀ (H : Heap) (locs : List Loc) (ls : Array Slot) (cells slots k w : Nat) (S : Hs) (g : Hg) (a0 : Nat) (x1 : Int32), Mm D cA lo S g s H locs → Ext lo S0 S → Rf lo S a0 1 → lv_has ls 2 [(0, .ref a0), (1, .int x1)] → n_X1_init_68 N n S g a0 x1 = some (rv, S1, g1, k, w) → cells + k = cT → slots + w = wT → W p l e R s m args below meth c H locs cells slots (MQ below (Qcx D cA lo S0 none S1 g1 True) args s cT wT (fun q : Nat => lo ≤ q)) (F0 m 68 ls []) := by
  intro n
  induction n with
  | zero =>
    intro H locs ls cells slots k w S g a0 x1 M hE ra0 hl q hc hs
    exact absurd q (by simp [n_X1_init_68])
  | succ n ih => exact w_X1_init_68 hx hb hml hr hlk hown hX hRf hRl (N := N) hnm hRc hRs  ih
set_option maxHeartbeats 4000000 in
set_option maxRecDepth 100000 in
theorem w_X1_init_0 (hx : p.tables.exec = Jvm.exec) (hb : c.code = cX1_init) (hml : c.maxLocals = 2) (hr : meth.sig.returnType = none) (hlk : meth.locks = false) (hown : s.vm.findClass RX1 = some m.cls) (hX : Kx D cA lo tS s) (hRf : 2 ≤ R.frames) (hRl : 120 ≤ R.locals) (hnm : meth.name = "<init>") {N : Nat} {rv : Unit} {g1 : Hg} {S0 S1 : Hs} {cT wT : Nat} (hRc : cT ≤ R.cells) (hRs : wT ≤ R.slots) : ∀ (H : Heap) (locs : List Loc) (ls : Array Slot) (cells slots k w : Nat) (S : Hs) (g : Hg) (a0 : Nat), Mm D cA lo S g s H locs → Ext lo S0 S → Rf lo S a0 1 → lv_has ls 2 [(0, .ref a0)] → b_X1_init_0 N S g a0 = some (rv, S1, g1, k, w) → cells + k = cT → slots + w = wT → W p l e R s m args below meth c H locs cells slots (MQ below (Qcx D cA lo S0 none S1 g1 True) args s cT wT (fun q : Nat => lo ≤ q)) (F0 m 0 ls []) := by
  intro H locs ls cells slots k w S g a0 M hE ra0 hl q hc hs
  unfold b_X1_init_0 at q
  refine lv_aload_n hx hb dX1_init_0 rfl (lv_at hl 0 rfl) ?_
  refine x_objinit hx hb hml hl.1 hown hX (rest := []) kw_166 kw_oi kw_oc dX1_init_1 (Nat.le_of_ble_eq_true rfl) ⟨Nat.le_trans (by omega) hRf, Nat.le_trans (by omega) hRl⟩ ?_
  refine lv_aload_n hx hb dX1_init_4 rfl (lv_at hl 0 rfl) ?_
  refine lv_bipush (v := 6) hx hb dX1_init_5 (by decide) ?_
  replace q := ck_s q
  obtain ⟨hz, q⟩ := q
  replace q := al_s q
  obtain ⟨S_1, g_2, k_3, w_4, eS, eg, ek, ew, q⟩ := q
  refine x_anew23 hx hb hown hX M kw_167 hz (hb_step hc ek hRc) (hb_step hs ew hRs) dX1_init_7 (fun H M rn_5 hE1 => ?_)
  rw [← eS, ← eg] at M
  rw [← eS] at rn_5 hE1
  clear eS eg
  replace ra0 := ra0.ext hE1
  replace hE := hE.tr hE1
  replace hc := hc_step hc ek
  replace hs := hc_step hs ew
  clear ek ew
  refine x_putR hx hb hown hX M (k := 0) (K1 := 23) okX1 ra0 (by decide) rfl rn_5 (Or.inr ⟨rfl, hnm, rfl⟩) rfl rfl kw_319 dX1_init_10 (fun H locs M => ?_)
  replace q := gen_g M q
  obtain ⟨g_7, -, M, q⟩ := q
  refine lv_aload_n hx hb dX1_init_13 rfl (lv_at hl 0 rfl) ?_
  refine lv_bipush (v := 16) hx hb dX1_init_14 (by decide) ?_
  replace q := ck_s q
  obtain ⟨hz, q⟩ := q
  replace q := al_s q
  obtain ⟨S_8, g_9, k_10, w_11, eS, eg, ek, ew, q⟩ := q
  refine x_anew24 hx hb hown hX M kw_169 hz (hb_step hc ek hRc) (hb_step hs ew hRs) dX1_init_16 (fun H M rn_12 hE1 => ?_)
  rw [← eS, ← eg] at M
  rw [← eS] at rn_12 hE1
  clear eS eg
  replace ra0 := ra0.ext hE1
  replace hE := hE.tr hE1
  replace hc := hc_step hc ek
  replace hs := hc_step hs ew
  clear ek ew
  refine x_putR hx hb hown hX M (k := 2) (K1 := 24) okX1 ra0 (by decide) rfl rn_12 (Or.inr ⟨rfl, hnm, rfl⟩) rfl rfl kw_322 dX1_init_19 (fun H locs M => ?_)
  replace q := gen_g M q
  obtain ⟨g_14, -, M, q⟩ := q
  refine lv_aload_n hx hb dX1_init_22 rfl (lv_at hl 0 rfl) ?_
  refine lv_bipush (v := 12) hx hb dX1_init_23 (by decide) ?_
  replace q := ck_s q
  obtain ⟨hz, q⟩ := q
  replace q := al_s q
  obtain ⟨S_15, g_16, k_17, w_18, eS, eg, ek, ew, q⟩ := q
  refine x_anew25 hx hb hown hX M kw_171 hz (hb_step hc ek hRc) (hb_step hs ew hRs) dX1_init_25 (fun H M rn_19 hE1 => ?_)
  rw [← eS, ← eg] at M
  rw [← eS] at rn_19 hE1
  clear eS eg
  replace ra0 := ra0.ext hE1
  replace hE := hE.tr hE1
  replace hc := hc_step hc ek
  replace hs := hc_step hs ew
  clear ek ew
  refine x_putR hx hb hown hX M (k := 3) (K1 := 25) okX1 ra0 (by decide) rfl rn_19 (Or.inr ⟨rfl, hnm, rfl⟩) rfl rfl kw_323 dX1_init_28 (fun H locs M => ?_)
  replace q := gen_g M q
  obtain ⟨g_21, -, M, q⟩ := q
  refine lv_aload_n hx hb dX1_init_31 rfl (lv_at hl 0 rfl) ?_
  refine lv_bipush (v := 12) hx hb dX1_init_32 (by decide) ?_
  replace q := ck_s q
  obtain ⟨hz, q⟩ := q
  replace q := al_s q
  obtain ⟨S_22, g_23, k_24, w_25, eS, eg, ek, ew, q⟩ := q
  refine x_newa20 hx hb hX M hz (hb_step hc ek hRc) (hb_step hs ew hRs) dX1_init_34 (fun H M rn_26 hE1 => ?_)
  rw [← eS, ← eg] at M
  rw [← eS] at rn_26 hE1
  clear eS eg
  replace ra0 := ra0.ext hE1
  replace hE := hE.tr hE1
  replace hc := hc_step hc ek
  replace hs := hc_step hs ew
  clear ek ew
  refine x_putR hx hb hown hX M (k := 4) (K1 := 20) okX1 ra0 (by decide) rfl rn_26 (Or.inr ⟨rfl, hnm, rfl⟩) rfl rfl kw_325 dX1_init_36 (fun H locs M => ?_)
  replace q := gen_g M q
  obtain ⟨g_28, -, M, q⟩ := q
  refine lv_aload_n hx hb dX1_init_39 rfl (lv_at hl 0 rfl) ?_
  refine lv_bipush (v := 60) hx hb dX1_init_40 (by decide) ?_
  replace q := ck_s q
  obtain ⟨hz, q⟩ := q
  replace q := al_s q
  obtain ⟨S_29, g_30, k_31, w_32, eS, eg, ek, ew, q⟩ := q
  refine x_anew25 hx hb hown hX M kw_171 hz (hb_step hc ek hRc) (hb_step hs ew hRs) dX1_init_42 (fun H M rn_33 hE1 => ?_)
  rw [← eS, ← eg] at M
  rw [← eS] at rn_33 hE1
  clear eS eg
  replace ra0 := ra0.ext hE1
  replace hE := hE.tr hE1
  replace hc := hc_step hc ek
  replace hs := hc_step hs ew
  clear ek ew
  refine x_putR hx hb hown hX M (k := 5) (K1 := 25) okX1 ra0 (by decide) rfl rn_33 (Or.inr ⟨rfl, hnm, rfl⟩) rfl rfl kw_327 dX1_init_45 (fun H locs M => ?_)
  replace q := gen_g M q
  obtain ⟨g_35, -, M, q⟩ := q
  refine lv_aload_n hx hb dX1_init_48 rfl (lv_at hl 0 rfl) ?_
  refine lv_bipush (v := 60) hx hb dX1_init_49 (by decide) ?_
  replace q := ck_s q
  obtain ⟨hz, q⟩ := q
  replace q := al_s q
  obtain ⟨S_36, g_37, k_38, w_39, eS, eg, ek, ew, q⟩ := q
  refine x_anew25 hx hb hown hX M kw_171 hz (hb_step hc ek hRc) (hb_step hs ew hRs) dX1_init_51 (fun H M rn_40 hE1 => ?_)
  rw [← eS, ← eg] at M
  rw [← eS] at rn_40 hE1
  clear eS eg
  replace ra0 := ra0.ext hE1
  replace hE := hE.tr hE1
  replace hc := hc_step hc ek
  replace hs := hc_step hs ew
  clear ek ew
  refine x_putR hx hb hown hX M (k := 6) (K1 := 25) okX1 ra0 (by decide) rfl rn_40 (Or.inr ⟨rfl, hnm, rfl⟩) rfl rfl kw_328 dX1_init_54 (fun H locs M => ?_)
  replace q := gen_g M q
  obtain ⟨g_42, -, M, q⟩ := q
  refine lv_aload_n hx hb dX1_init_57 rfl (lv_at hl 0 rfl) ?_
  refine lv_bipush (v := 8) hx hb dX1_init_58 (by decide) ?_
  replace q := ck_s q
  obtain ⟨hz, q⟩ := q
  replace q := al_s q
  obtain ⟨S_43, g_44, k_45, w_46, eS, eg, ek, ew, q⟩ := q
  refine x_anew26 hx hb hown hX M kw_173 hz (hb_step hc ek hRc) (hb_step hs ew hRs) dX1_init_60 (fun H M rn_47 hE1 => ?_)
  rw [← eS, ← eg] at M
  rw [← eS] at rn_47 hE1
  clear eS eg
  replace ra0 := ra0.ext hE1
  replace hE := hE.tr hE1
  replace hc := hc_step hc ek
  replace hs := hc_step hs ew
  clear ek ew
  refine x_putR hx hb hown hX M (k := 8) (K1 := 26) okX1 ra0 (by decide) rfl rn_47 (Or.inr ⟨rfl, hnm, rfl⟩) rfl rfl kw_331 dX1_init_63 (fun H locs M => ?_)
  replace q := gen_g M q
  obtain ⟨g_49, -, M, q⟩ := q
  refine lv_iconst (v := 0) hx hb dX1_init_66 (by decide) ?_
  refine lv_istore_n (lv' := [(1, .int (0 : Int32)), (0, .ref a0)]) hx hb dX1_init_67 rfl hl (by decide) rfl (fun ls hl => ?_)
  exact l_X1_init_68 hx hb hml hr hlk hown hX hRf hRl (N := N) hnm hRc hRs  N _ _ _ _ _ _ _ _ _ _ _ M hE ra0 (lv_sub hl [1, 0] rfl) q hc hs
set_option maxRecDepth 100000 in
theorem c_X1_init {l : Launch} {D : va_G} {cA : Nat → ClassId} {lo tS N : Nat} {S S1 : Hs} {g g1 : Hg} {k w : Nat} {rv : Unit} {a0 : Nat} (ra0 : Rf lo S a0 1) (q : f_X1_init N S g a0 = some (rv, S1, g1, k, w)) {d : Nat} (hd : 2 ≤ d) : Ctr l yX1_init cX1_init 2 none D cA lo tS [.ref a0] S g d none S1 g1 True k w := by
  refine x_met (by decide) (Nat.le_of_ble_eq_true rfl) ?_
  intro p e s m below meth c ls hx hb hml hr hlk hown hnm hX M hl
  exact w_X1_init_0 hx hb hml hr hlk hown hX hd (Nat.mul_le_mul_left 60 hd) (N := N) hnm (Nat.le_refl k) (Nat.le_refl w) _ _ _ _ _ _ _ _ _ _ M Ext.rf ra0 (lv_sub hl [0] rfl) q (Nat.zero_add k) (Nat.zero_add w)
def b_X11_image_18 (N : Nat) (S : Hs) (g : Hg) (a0 : Nat) : Option (Int32 × Hs × Hg × Nat × Nat) :=
nn (rdR g a0 6) (fun a_1 =>
nn (rdR g a0 3) (fun a_2 =>
c5 (f_X1_copy N S g a_1 a_2) (fun u_4 S_5 g_3 =>
some ((1 : Int32), S_5, g_3, 0, 0))))
def b_X11_image_0 (N : Nat) (S : Hs) (g : Hg) (a0 : Nat) : Option (Int32 × Hs × Hg × Nat × Nat) :=
nm (rdR g a0 6) (fun o_2 =>
on o_2 (
al S g 1 9 (fun a_9 S_4 g_5 =>
c5 (f_X1_init N S_4 g_5 a_9) (fun u_11 S_12 g_10 =>
nm (wrR g_10 a0 6 (some a_9)) (fun g_17 =>
b_X11_image_18 N S_12 g_17 a0)))) (fun a_3 =>
b_X11_image_18 N S g a0))
def f_X11_image (N : Nat) (S : Hs) (g : Hg) (a0 : Nat) : Option (Int32 × Hs × Hg × Nat × Nat) := b_X11_image_0 N S g a0
set_option maxHeartbeats 4000000 in
set_option maxRecDepth 100000 in
theorem w_X11_image_18 (hx : p.tables.exec = Jvm.exec) (hb : c.code = cX11_image) (hml : c.maxLocals = 1) (hr : meth.sig.returnType = (some .boolean)) (hlk : meth.locks = false) (hown : s.vm.findClass RX11 = some m.cls) (hX : Kx D cA lo tS s) (hRf : 6 ≤ R.frames) (hRl : 360 ≤ R.locals) {N : Nat} {rv : Int32} {g1 : Hg} {S0 S1 : Hs} {cT wT : Nat} (hRc : cT ≤ R.cells) (hRs : wT ≤ R.slots) : ∀ (H : Heap) (locs : List Loc) (ls : Array Slot) (cells slots k w : Nat) (S : Hs) (g : Hg) (a0 : Nat), Mm D cA lo S g s H locs → Ext lo S0 S → Rf lo S a0 11 → lv_has ls 1 [(0, .ref a0)] → b_X11_image_18 N S g a0 = some (rv, S1, g1, k, w) → cells + k = cT → slots + w = wT → W p l e R s m args below meth c H locs cells slots (MQ below (Qcx D cA lo S0 (some (.int rv)) S1 g1 True) args s cT wT (fun q : Nat => lo ≤ q)) (F0 m 18 ls []) := by
  intro H locs ls cells slots k w S g a0 M hE ra0 hl q hc hs
  unfold b_X11_image_18 at q
  refine lv_aload_n hx hb dX11_image_18 rfl (lv_at hl 0 rfl) ?_
  replace q := nn_s q
  obtain ⟨a_1, e_a_1, q⟩ := q
  refine x_getR hx hb hown hX M e_a_1 okX11 ra0 (by decide) rfl kw_362 dX11_image_19 (fun ra_1 => ?_)
  refine lv_aload_n hx hb dX11_image_22 rfl (lv_at hl 0 rfl) ?_
  replace q := nn_s q
  obtain ⟨a_2, e_a_2, q⟩ := q
  refine x_getR hx hb hown hX M e_a_2 okX11 ra0 (by decide) rfl kw_359 dX11_image_23 (fun ra_2 => ?_)
  replace q := c5_s q
  obtain ⟨u_4, S_5, g_3, k_6, w_7, k_8, w_9, qc, ek, ew, q⟩ := q
  refine x_callV hx hb hml hl.1 hown hX M (As := [.ref a_2]) (rest := []) okX1 ra_1 rfl kw_981 kw_982 mok_X1_copy (c_X1_copy ra_1 ra_2 qc (Nat.le_refl 5)) kw_980 rfl rfl dX11_image_26 (Nat.le_of_ble_eq_true rfl) ⟨Nat.le_trans (by decide) hRf, Nat.le_trans (by decide) hRl⟩ (hb_step hc ek hRc) (hb_step hs ew hRs) (fun H locs M hEF => ?_)
  replace ra0 := ra0.ext hEF.1
  replace hE := hE.tr hEF.1
  replace hc := hc_step hc ek
  replace hs := hc_step hs ew
  clear ek ew
  refine lv_iconst (v := 1) hx hb dX11_image_29 (by decide) ?_
  cases q
  have hc : cells + k_6 = cT := hc
  have hs : slots + w_7 = wT := hs
  subst hc
  subst hs
  exact x_zret hx hb hr hlk rfl M hE dX11_image_30
set_option maxHeartbeats 4000000 in
set_option maxRecDepth 100000 in
theorem w_X11_image_0 (hx : p.tables.exec = Jvm.exec) (hb : c.code = cX11_image) (hml : c.maxLocals = 1) (hr : meth.sig.returnType = (some .boolean)) (hlk : meth.locks = false) (hown : s.vm.findClass RX11 = some m.cls) (hX : Kx D cA lo tS s) (hRf : 6 ≤ R.frames) (hRl : 360 ≤ R.locals) {N : Nat} {rv : Int32} {g1 : Hg} {S0 S1 : Hs} {cT wT : Nat} (hRc : cT ≤ R.cells) (hRs : wT ≤ R.slots) : ∀ (H : Heap) (locs : List Loc) (ls : Array Slot) (cells slots k w : Nat) (S : Hs) (g : Hg) (a0 : Nat), Mm D cA lo S g s H locs → Ext lo S0 S → Rf lo S a0 11 → lv_has ls 1 [(0, .ref a0)] → b_X11_image_0 N S g a0 = some (rv, S1, g1, k, w) → cells + k = cT → slots + w = wT → W p l e R s m args below meth c H locs cells slots (MQ below (Qcx D cA lo S0 (some (.int rv)) S1 g1 True) args s cT wT (fun q : Nat => lo ≤ q)) (F0 m 0 ls []) := by
  intro H locs ls cells slots k w S g a0 M hE ra0 hl q hc hs
  unfold b_X11_image_0 at q
  refine lv_aload_n hx hb dX11_image_0 rfl (lv_at hl 0 rfl) ?_
  refine x_getO hx hb hown hX M (k := 6) okX11 ra0 (by decide) rfl kw_362 dX11_image_1 (fun rf_1 => ?_)
  refine x_topo (fun o_2 e_o_2 => ?_)
  replace q := nm_s q e_o_2
  rw [← e_o_2] at rf_1
  refine x_ifnonnull (tgt := 18) hx hb dX11_image_4 (by decide) (fun a_3 c_18 => ?_) (fun c_18 => ?_)
  · subst c_18
    replace q := on_s rfl q
    have ra_3 := rf_1 a_3 rfl
    have hl : lv_has ls 1 [(0, .ref a0)] := hl
    exact w_X11_image_18 hx hb hml hr hlk hown hX hRf hRl (N := N) hRc hRs  _ _ _ _ _ _ _ _ _ _ M hE ra0 (lv_sub hl [0] rfl) q hc hs
  · replace q := on_n c_18 q
    refine lv_aload_n hx hb dX11_image_7 rfl (lv_at hl 0 rfl) ?_
    replace q := al_s q
    obtain ⟨S_4, g_5, k_6, w_7, eS, eg, ek, ew, q⟩ := q
    refine x_new hx hb hown hX M okX1 kw_161 kw_162 kw_58 dfX1 (hb_step hc ek hRc) (hb_step hs ew hRs) dX11_image_8 (fun H M rn_8 hE1 => ?_)
    rw [← eS, ← eg] at M
    rw [← eS] at rn_8 hE1
    clear eS eg
    replace ra0 := ra0.ext hE1
    replace hE := hE.tr hE1
    replace hc := hc_step hc ek
    replace hs := hc_step hs ew
    clear ek ew
    refine lv_dup hx hb dX11_image_11 rfl ?_
    replace q := c5_s q
    obtain ⟨u_11, S_12, g_10, k_13, w_14, k_15, w_16, qc, ek, ew, q⟩ := q
    refine x_callI hx hb hml hl.1 hown hX M (As := []) (rest := [.ref (hpN S), .ref a0]) kw_164 rfl mok_X1_init (c_X1_init rn_8 qc (Nat.le_refl 2)) kw_163 rfl rfl dX11_image_12 (Nat.le_of_ble_eq_true rfl) ⟨Nat.le_trans (by decide) hRf, Nat.le_trans (by decide) hRl⟩ (hb_step hc ek hRc) (hb_step hs ew hRs) (fun H locs M hEF => ?_)
    replace ra0 := ra0.ext hEF.1
    replace rn_8 := rn_8.ext hEF.1
    replace hE := hE.tr hEF.1
    replace hc := hc_step hc ek
    replace hs := hc_step hs ew
    clear ek ew
    refine x_putR hx hb hown hX M (k := 6) (K1 := 1) okX11 ra0 (by decide) rfl rn_8 (Or.inl rfl) rfl rfl kw_362 dX11_image_15 (fun H locs M => ?_)
    replace q := gen_g M q
    obtain ⟨g_17, -, M, q⟩ := q
    exact w_X11_image_18 hx hb hml hr hlk hown hX hRf hRl (N := N) hRc hRs  _ _ _ _ _ _ _ _ _ _ M hE ra0 (lv_sub hl [0] rfl) q hc hs
set_option maxRecDepth 100000 in
theorem c_X11_image {l : Launch} {D : va_G} {cA : Nat → ClassId} {lo tS N : Nat} {S S1 : Hs} {g g1 : Hg} {k w : Nat} {rv : Int32} {a0 : Nat} (ra0 : Rf lo S a0 11) (q : f_X11_image N S g a0 = some (rv, S1, g1, k, w)) {d : Nat} (hd : 6 ≤ d) : Ctr l yX11_image cX11_image 1 (some .boolean) D cA lo tS [.ref a0] S g d (some (.int rv)) S1 g1 True k w := by
  refine x_met (by decide) (Nat.le_of_ble_eq_true rfl) ?_
  intro p e s m below meth c ls hx hb hml hr hlk hown hnm hX M hl
  exact w_X11_image_0 hx hb hml hr hlk hown hX hd (Nat.mul_le_mul_left 60 hd) (N := N) (Nat.le_refl k) (Nat.le_refl w) _ _ _ _ _ _ _ _ _ _ M Ext.rf ra0 (lv_sub hl [0] rfl) q (Nat.zero_add k) (Nat.zero_add w)
def b_X4_init_0 (N : Nat) (S : Hs) (g : Hg) (a0 : Nat) (a1 : Nat) : Option (Unit × Hs × Hg × Nat × Nat) :=
ck (lenok (400 : Int32)) (
al S g 20 (400 : Int32).toNatClampNeg (fun a_6 S_1 g_2 =>
nm (wrR g_2 a0 1 (some a_6)) (fun g_7 =>
ck (lenok (400 : Int32)) (
al S_1 g_7 20 (400 : Int32).toNatClampNeg (fun a_13 S_8 g_9 =>
nm (wrR g_9 a0 2 (some a_13)) (fun g_14 =>
ck (lenok (2064 : Int32)) (
al S_8 g_14 20 (2064 : Int32).toNatClampNeg (fun a_20 S_15 g_16 =>
nm (wrR g_16 a0 3 (some a_20)) (fun g_21 =>
ck (lenok (8 : Int32)) (
al S_15 g_21 20 (8 : Int32).toNatClampNeg (fun a_27 S_22 g_23 =>
nm (wrR g_23 a0 4 (some a_27)) (fun g_28 =>
nm (wrR g_28 a0 0 (some a1)) (fun g_29 =>
some ((), S_22, g_29, 0, 0))))))))))))))
def f_X4_init (N : Nat) (S : Hs) (g : Hg) (a0 : Nat) (a1 : Nat) : Option (Unit × Hs × Hg × Nat × Nat) := b_X4_init_0 N S g a0 a1
set_option maxHeartbeats 4000000 in
set_option maxRecDepth 100000 in
theorem w_X4_init_0 (hx : p.tables.exec = Jvm.exec) (hb : c.code = cX4_init) (hml : c.maxLocals = 2) (hr : meth.sig.returnType = none) (hlk : meth.locks = false) (hown : s.vm.findClass RX4 = some m.cls) (hX : Kx D cA lo tS s) (hRf : 1 ≤ R.frames) (hRl : 60 ≤ R.locals) (hnm : meth.name = "<init>") {N : Nat} {rv : Unit} {g1 : Hg} {S0 S1 : Hs} {cT wT : Nat} (hRc : cT ≤ R.cells) (hRs : wT ≤ R.slots) : ∀ (H : Heap) (locs : List Loc) (ls : Array Slot) (cells slots k w : Nat) (S : Hs) (g : Hg) (a0 : Nat) (a1 : Nat), Mm D cA lo S g s H locs → Ext lo S0 S → Rf lo S a0 4 → Rf lo S a1 6 → lv_has ls 2 [(0, .ref a0), (1, .ref a1)] → b_X4_init_0 N S g a0 a1 = some (rv, S1, g1, k, w) → cells + k = cT → slots + w = wT → W p l e R s m args below meth c H locs cells slots (MQ below (Qcx D cA lo S0 none S1 g1 True) args s cT wT (fun q : Nat => lo ≤ q)) (F0 m 0 ls []) := by
  intro H locs ls cells slots k w S g a0 a1 M hE ra0 ra1 hl q hc hs
  unfold b_X4_init_0 at q
  refine lv_aload_n hx hb dX4_init_0 rfl (lv_at hl 0 rfl) ?_
  refine x_objinit hx hb hml hl.1 hown hX (rest := []) kw_96 kw_oi kw_oc dX4_init_1 (Nat.le_of_ble_eq_true rfl) ⟨Nat.le_trans (by omega) hRf, Nat.le_trans (by omega) hRl⟩ ?_
  refine lv_aload_n hx hb dX4_init_4 rfl (lv_at hl 0 rfl) ?_
  refine lv_sipush (v := 400) hx hb dX4_init_5 (by decide) ?_
  replace q := ck_s q
  obtain ⟨hz, q⟩ := q
  replace q := al_s q
  obtain ⟨S_1, g_2, k_3, w_4, eS, eg, ek, ew, q⟩ := q
  refine x_newa20 hx hb hX M hz (hb_step hc ek hRc) (hb_step hs ew hRs) dX4_init_8 (fun H M rn_5 hE1 => ?_)
  rw [← eS, ← eg] at M
  rw [← eS] at rn_5 hE1
  clear eS eg
  replace ra0 := ra0.ext hE1
  replace ra1 := ra1.ext hE1
  replace hE := hE.tr hE1
  replace hc := hc_step hc ek
  replace hs := hc_step hs ew
  clear ek ew
  refine x_putR hx hb hown hX M (k := 1) (K1 := 20) okX4 ra0 (by decide) rfl rn_5 (Or.inr ⟨rfl, hnm, rfl⟩) rfl rfl kw_98 dX4_init_10 (fun H locs M => ?_)
  replace q := gen_g M q
  obtain ⟨g_7, -, M, q⟩ := q
  refine lv_aload_n hx hb dX4_init_13 rfl (lv_at hl 0 rfl) ?_
  refine lv_sipush (v := 400) hx hb dX4_init_14 (by decide) ?_
  replace q := ck_s q
  obtain ⟨hz, q⟩ := q
  replace q := al_s q
  obtain ⟨S_8, g_9, k_10, w_11, eS, eg, ek, ew, q⟩ := q
  refine x_newa20 hx hb hX M hz (hb_step hc ek hRc) (hb_step hs ew hRs) dX4_init_17 (fun H M rn_12 hE1 => ?_)
  rw [← eS, ← eg] at M
  rw [← eS] at rn_12 hE1
  clear eS eg
  replace ra0 := ra0.ext hE1
  replace ra1 := ra1.ext hE1
  replace hE := hE.tr hE1
  replace hc := hc_step hc ek
  replace hs := hc_step hs ew
  clear ek ew
  refine x_putR hx hb hown hX M (k := 2) (K1 := 20) okX4 ra0 (by decide) rfl rn_12 (Or.inr ⟨rfl, hnm, rfl⟩) rfl rfl kw_99 dX4_init_19 (fun H locs M => ?_)
  replace q := gen_g M q
  obtain ⟨g_14, -, M, q⟩ := q
  refine lv_aload_n hx hb dX4_init_22 rfl (lv_at hl 0 rfl) ?_
  refine lv_sipush (v := 2064) hx hb dX4_init_23 (by decide) ?_
  replace q := ck_s q
  obtain ⟨hz, q⟩ := q
  replace q := al_s q
  obtain ⟨S_15, g_16, k_17, w_18, eS, eg, ek, ew, q⟩ := q
  refine x_newa20 hx hb hX M hz (hb_step hc ek hRc) (hb_step hs ew hRs) dX4_init_26 (fun H M rn_19 hE1 => ?_)
  rw [← eS, ← eg] at M
  rw [← eS] at rn_19 hE1
  clear eS eg
  replace ra0 := ra0.ext hE1
  replace ra1 := ra1.ext hE1
  replace hE := hE.tr hE1
  replace hc := hc_step hc ek
  replace hs := hc_step hs ew
  clear ek ew
  refine x_putR hx hb hown hX M (k := 3) (K1 := 20) okX4 ra0 (by decide) rfl rn_19 (Or.inr ⟨rfl, hnm, rfl⟩) rfl rfl kw_100 dX4_init_28 (fun H locs M => ?_)
  replace q := gen_g M q
  obtain ⟨g_21, -, M, q⟩ := q
  refine lv_aload_n hx hb dX4_init_31 rfl (lv_at hl 0 rfl) ?_
  refine lv_bipush (v := 8) hx hb dX4_init_32 (by decide) ?_
  replace q := ck_s q
  obtain ⟨hz, q⟩ := q
  replace q := al_s q
  obtain ⟨S_22, g_23, k_24, w_25, eS, eg, ek, ew, q⟩ := q
  refine x_newa20 hx hb hX M hz (hb_step hc ek hRc) (hb_step hs ew hRs) dX4_init_34 (fun H M rn_26 hE1 => ?_)
  rw [← eS, ← eg] at M
  rw [← eS] at rn_26 hE1
  clear eS eg
  replace ra0 := ra0.ext hE1
  replace ra1 := ra1.ext hE1
  replace hE := hE.tr hE1
  replace hc := hc_step hc ek
  replace hs := hc_step hs ew
  clear ek ew
  refine x_putR hx hb hown hX M (k := 4) (K1 := 20) okX4 ra0 (by decide) rfl rn_26 (Or.inr ⟨rfl, hnm, rfl⟩) rfl rfl kw_101 dX4_init_36 (fun H locs M => ?_)
  replace q := gen_g M q
  obtain ⟨g_28, -, M, q⟩ := q
  refine lv_aload_n hx hb dX4_init_39 rfl (lv_at hl 0 rfl) ?_
  refine lv_aload_n hx hb dX4_init_40 rfl (lv_at hl 1 rfl) ?_
  refine x_putR hx hb hown hX M (k := 0) (K1 := 6) okX4 ra0 (by decide) rfl ra1 (Or.inr ⟨rfl, hnm, rfl⟩) rfl rfl kw_97 dX4_init_41 (fun H locs M => ?_)
  replace q := gen_g M q
  obtain ⟨g_29, -, M, q⟩ := q
  cases q
  have hc : cells + 1 + 1 + 1 + 1 = cT := hc
  have hs : slots + (400 : Int32).toNatClampNeg + (400 : Int32).toNatClampNeg + (2064 : Int32).toNatClampNeg + (8 : Int32).toNatClampNeg = wT := hs
  subst hc
  subst hs
  exact x_vret hx hb hr hlk M hE dX4_init_44
set_option maxRecDepth 100000 in
theorem c_X4_init {l : Launch} {D : va_G} {cA : Nat → ClassId} {lo tS N : Nat} {S S1 : Hs} {g g1 : Hg} {k w : Nat} {rv : Unit} {a0 : Nat} {a1 : Nat} (ra0 : Rf lo S a0 4) (ra1 : Rf lo S a1 6) (q : f_X4_init N S g a0 a1 = some (rv, S1, g1, k, w)) {d : Nat} (hd : 1 ≤ d) : Ctr l yX4_init cX4_init 2 none D cA lo tS [.ref a0, .ref a1] S g d none S1 g1 True k w := by
  refine x_met (by decide) (Nat.le_of_ble_eq_true rfl) ?_
  intro p e s m below meth c ls hx hb hml hr hlk hown hnm hX M hl
  exact w_X4_init_0 hx hb hml hr hlk hown hX hd (Nat.mul_le_mul_left 60 hd) (N := N) hnm (Nat.le_refl k) (Nat.le_refl w) _ _ _ _ _ _ _ _ _ _ _ M Ext.rf ra0 ra1 (lv_sub hl [0, 1] rfl) q (Nat.zero_add k) (Nat.zero_add w)
def b_X6_init_0 (N : Nat) (S : Hs) (g : Hg) (a0 : Nat) : Option (Unit × Hs × Hg × Nat × Nat) :=
ck (lenok (20 : Int32)) (
al S g 20 (20 : Int32).toNatClampNeg (fun a_6 S_1 g_2 =>
nm (wrR g_2 a0 0 (some a_6)) (fun g_7 =>
ck (lenok (8 : Int32)) (
al S_1 g_7 20 (8 : Int32).toNatClampNeg (fun a_13 S_8 g_9 =>
nm (wrR g_9 a0 1 (some a_13)) (fun g_14 =>
some ((), S_8, g_14, 0, 0)))))))
def f_X6_init (N : Nat) (S : Hs) (g : Hg) (a0 : Nat) : Option (Unit × Hs × Hg × Nat × Nat) := b_X6_init_0 N S g a0
set_option maxHeartbeats 4000000 in
set_option maxRecDepth 100000 in
theorem w_X6_init_0 (hx : p.tables.exec = Jvm.exec) (hb : c.code = cX6_init) (hml : c.maxLocals = 1) (hr : meth.sig.returnType = none) (hlk : meth.locks = false) (hown : s.vm.findClass RX6 = some m.cls) (hX : Kx D cA lo tS s) (hRf : 1 ≤ R.frames) (hRl : 60 ≤ R.locals) (hnm : meth.name = "<init>") {N : Nat} {rv : Unit} {g1 : Hg} {S0 S1 : Hs} {cT wT : Nat} (hRc : cT ≤ R.cells) (hRs : wT ≤ R.slots) : ∀ (H : Heap) (locs : List Loc) (ls : Array Slot) (cells slots k w : Nat) (S : Hs) (g : Hg) (a0 : Nat), Mm D cA lo S g s H locs → Ext lo S0 S → Rf lo S a0 6 → lv_has ls 1 [(0, .ref a0)] → b_X6_init_0 N S g a0 = some (rv, S1, g1, k, w) → cells + k = cT → slots + w = wT → W p l e R s m args below meth c H locs cells slots (MQ below (Qcx D cA lo S0 none S1 g1 True) args s cT wT (fun q : Nat => lo ≤ q)) (F0 m 0 ls []) := by
  intro H locs ls cells slots k w S g a0 M hE ra0 hl q hc hs
  unfold b_X6_init_0 at q
  refine lv_aload_n hx hb dX6_init_0 rfl (lv_at hl 0 rfl) ?_
  refine x_objinit hx hb hml hl.1 hown hX (rest := []) kw_82 kw_oi kw_oc dX6_init_1 (Nat.le_of_ble_eq_true rfl) ⟨Nat.le_trans (by omega) hRf, Nat.le_trans (by omega) hRl⟩ ?_
  refine lv_aload_n hx hb dX6_init_4 rfl (lv_at hl 0 rfl) ?_
  refine lv_bipush (v := 20) hx hb dX6_init_5 (by decide) ?_
  replace q := ck_s q
  obtain ⟨hz, q⟩ := q
  replace q := al_s q
  obtain ⟨S_1, g_2, k_3, w_4, eS, eg, ek, ew, q⟩ := q
  refine x_newa20 hx hb hX M hz (hb_step hc ek hRc) (hb_step hs ew hRs) dX6_init_7 (fun H M rn_5 hE1 => ?_)
  rw [← eS, ← eg] at M
  rw [← eS] at rn_5 hE1
  clear eS eg
  replace ra0 := ra0.ext hE1
  replace hE := hE.tr hE1
  replace hc := hc_step hc ek
  replace hs := hc_step hs ew
  clear ek ew
  refine x_putR hx hb hown hX M (k := 0) (K1 := 20) okX6 ra0 (by decide) rfl rn_5 (Or.inr ⟨rfl, hnm, rfl⟩) rfl rfl kw_83 dX6_init_9 (fun H locs M => ?_)
  replace q := gen_g M q
  obtain ⟨g_7, -, M, q⟩ := q
  refine lv_aload_n hx hb dX6_init_12 rfl (lv_at hl 0 rfl) ?_
  refine lv_bipush (v := 8) hx hb dX6_init_13 (by decide) ?_
  replace q := ck_s q
  obtain ⟨hz, q⟩ := q
  replace q := al_s q
  obtain ⟨S_8, g_9, k_10, w_11, eS, eg, ek, ew, q⟩ := q
  refine x_newa20 hx hb hX M hz (hb_step hc ek hRc) (hb_step hs ew hRs) dX6_init_15 (fun H M rn_12 hE1 => ?_)
  rw [← eS, ← eg] at M
  rw [← eS] at rn_12 hE1
  clear eS eg
  replace ra0 := ra0.ext hE1
  replace hE := hE.tr hE1
  replace hc := hc_step hc ek
  replace hs := hc_step hs ew
  clear ek ew
  refine x_putR hx hb hown hX M (k := 1) (K1 := 20) okX6 ra0 (by decide) rfl rn_12 (Or.inr ⟨rfl, hnm, rfl⟩) rfl rfl kw_84 dX6_init_17 (fun H locs M => ?_)
  replace q := gen_g M q
  obtain ⟨g_14, -, M, q⟩ := q
  cases q
  have hc : cells + 1 + 1 = cT := hc
  have hs : slots + (20 : Int32).toNatClampNeg + (8 : Int32).toNatClampNeg = wT := hs
  subst hc
  subst hs
  exact x_vret hx hb hr hlk M hE dX6_init_20
set_option maxRecDepth 100000 in
theorem c_X6_init {l : Launch} {D : va_G} {cA : Nat → ClassId} {lo tS N : Nat} {S S1 : Hs} {g g1 : Hg} {k w : Nat} {rv : Unit} {a0 : Nat} (ra0 : Rf lo S a0 6) (q : f_X6_init N S g a0 = some (rv, S1, g1, k, w)) {d : Nat} (hd : 1 ≤ d) : Ctr l yX6_init cX6_init 1 none D cA lo tS [.ref a0] S g d none S1 g1 True k w := by
  refine x_met (by decide) (Nat.le_of_ble_eq_true rfl) ?_
  intro p e s m below meth c ls hx hb hml hr hlk hown hnm hX M hl
  exact w_X6_init_0 hx hb hml hr hlk hown hX hd (Nat.mul_le_mul_left 60 hd) (N := N) hnm (Nat.le_refl k) (Nat.le_refl w) _ _ _ _ _ _ _ _ _ _ M Ext.rf ra0 (lv_sub hl [0] rfl) q (Nat.zero_add k) (Nat.zero_add w)
def b_X9_init_0 (N : Nat) (S : Hs) (g : Hg) (a0 : Nat) (a1 : Nat) : Option (Unit × Hs × Hg × Nat × Nat) :=
ck (lenok (12 : Int32)) (
al S g 20 (12 : Int32).toNatClampNeg (fun a_6 S_1 g_2 =>
nm (wrR g_2 a0 1 (some a_6)) (fun g_7 =>
ck (lenok (12 : Int32)) (
al S_1 g_7 20 (12 : Int32).toNatClampNeg (fun a_13 S_8 g_9 =>
nm (wrR g_9 a0 2 (some a_13)) (fun g_14 =>
ck (lenok (96 : Int32)) (
al S_8 g_14 20 (96 : Int32).toNatClampNeg (fun a_20 S_15 g_16 =>
nm (wrR g_16 a0 3 (some a_20)) (fun g_21 =>
nm (wrR g_21 a0 0 (some a1)) (fun g_22 =>
some ((), S_15, g_22, 0, 0)))))))))))
def f_X9_init (N : Nat) (S : Hs) (g : Hg) (a0 : Nat) (a1 : Nat) : Option (Unit × Hs × Hg × Nat × Nat) := b_X9_init_0 N S g a0 a1
set_option maxHeartbeats 4000000 in
set_option maxRecDepth 100000 in
theorem w_X9_init_0 (hx : p.tables.exec = Jvm.exec) (hb : c.code = cX9_init) (hml : c.maxLocals = 2) (hr : meth.sig.returnType = none) (hlk : meth.locks = false) (hown : s.vm.findClass RX9 = some m.cls) (hX : Kx D cA lo tS s) (hRf : 1 ≤ R.frames) (hRl : 60 ≤ R.locals) (hnm : meth.name = "<init>") {N : Nat} {rv : Unit} {g1 : Hg} {S0 S1 : Hs} {cT wT : Nat} (hRc : cT ≤ R.cells) (hRs : wT ≤ R.slots) : ∀ (H : Heap) (locs : List Loc) (ls : Array Slot) (cells slots k w : Nat) (S : Hs) (g : Hg) (a0 : Nat) (a1 : Nat), Mm D cA lo S g s H locs → Ext lo S0 S → Rf lo S a0 9 → Rf lo S a1 6 → lv_has ls 2 [(0, .ref a0), (1, .ref a1)] → b_X9_init_0 N S g a0 a1 = some (rv, S1, g1, k, w) → cells + k = cT → slots + w = wT → W p l e R s m args below meth c H locs cells slots (MQ below (Qcx D cA lo S0 none S1 g1 True) args s cT wT (fun q : Nat => lo ≤ q)) (F0 m 0 ls []) := by
  intro H locs ls cells slots k w S g a0 a1 M hE ra0 ra1 hl q hc hs
  unfold b_X9_init_0 at q
  refine lv_aload_n hx hb dX9_init_0 rfl (lv_at hl 0 rfl) ?_
  refine x_objinit hx hb hml hl.1 hown hX (rest := []) kw_128 kw_oi kw_oc dX9_init_1 (Nat.le_of_ble_eq_true rfl) ⟨Nat.le_trans (by omega) hRf, Nat.le_trans (by omega) hRl⟩ ?_
  refine lv_aload_n hx hb dX9_init_4 rfl (lv_at hl 0 rfl) ?_
  refine lv_bipush (v := 12) hx hb dX9_init_5 (by decide) ?_
  replace q := ck_s q
  obtain ⟨hz, q⟩ := q
  replace q := al_s q
  obtain ⟨S_1, g_2, k_3, w_4, eS, eg, ek, ew, q⟩ := q
  refine x_newa20 hx hb hX M hz (hb_step hc ek hRc) (hb_step hs ew hRs) dX9_init_7 (fun H M rn_5 hE1 => ?_)
  rw [← eS, ← eg] at M
  rw [← eS] at rn_5 hE1
  clear eS eg
  replace ra0 := ra0.ext hE1
  replace ra1 := ra1.ext hE1
  replace hE := hE.tr hE1
  replace hc := hc_step hc ek
  replace hs := hc_step hs ew
  clear ek ew
  refine x_putR hx hb hown hX M (k := 1) (K1 := 20) okX9 ra0 (by decide) rfl rn_5 (Or.inr ⟨rfl, hnm, rfl⟩) rfl rfl kw_130 dX9_init_9 (fun H locs M => ?_)
  replace q := gen_g M q
  obtain ⟨g_7, -, M, q⟩ := q
  refine lv_aload_n hx hb dX9_init_12 rfl (lv_at hl 0 rfl) ?_
  refine lv_bipush (v := 12) hx hb dX9_init_13 (by decide) ?_
  replace q := ck_s q
  obtain ⟨hz, q⟩ := q
  replace q := al_s q
  obtain ⟨S_8, g_9, k_10, w_11, eS, eg, ek, ew, q⟩ := q
  refine x_newa20 hx hb hX M hz (hb_step hc ek hRc) (hb_step hs ew hRs) dX9_init_15 (fun H M rn_12 hE1 => ?_)
  rw [← eS, ← eg] at M
  rw [← eS] at rn_12 hE1
  clear eS eg
  replace ra0 := ra0.ext hE1
  replace ra1 := ra1.ext hE1
  replace hE := hE.tr hE1
  replace hc := hc_step hc ek
  replace hs := hc_step hs ew
  clear ek ew
  refine x_putR hx hb hown hX M (k := 2) (K1 := 20) okX9 ra0 (by decide) rfl rn_12 (Or.inr ⟨rfl, hnm, rfl⟩) rfl rfl kw_131 dX9_init_17 (fun H locs M => ?_)
  replace q := gen_g M q
  obtain ⟨g_14, -, M, q⟩ := q
  refine lv_aload_n hx hb dX9_init_20 rfl (lv_at hl 0 rfl) ?_
  refine lv_bipush (v := 96) hx hb dX9_init_21 (by decide) ?_
  replace q := ck_s q
  obtain ⟨hz, q⟩ := q
  replace q := al_s q
  obtain ⟨S_15, g_16, k_17, w_18, eS, eg, ek, ew, q⟩ := q
  refine x_newa20 hx hb hX M hz (hb_step hc ek hRc) (hb_step hs ew hRs) dX9_init_23 (fun H M rn_19 hE1 => ?_)
  rw [← eS, ← eg] at M
  rw [← eS] at rn_19 hE1
  clear eS eg
  replace ra0 := ra0.ext hE1
  replace ra1 := ra1.ext hE1
  replace hE := hE.tr hE1
  replace hc := hc_step hc ek
  replace hs := hc_step hs ew
  clear ek ew
  refine x_putR hx hb hown hX M (k := 3) (K1 := 20) okX9 ra0 (by decide) rfl rn_19 (Or.inr ⟨rfl, hnm, rfl⟩) rfl rfl kw_132 dX9_init_25 (fun H locs M => ?_)
  replace q := gen_g M q
  obtain ⟨g_21, -, M, q⟩ := q
  refine lv_aload_n hx hb dX9_init_28 rfl (lv_at hl 0 rfl) ?_
  refine lv_aload_n hx hb dX9_init_29 rfl (lv_at hl 1 rfl) ?_
  refine x_putR hx hb hown hX M (k := 0) (K1 := 6) okX9 ra0 (by decide) rfl ra1 (Or.inr ⟨rfl, hnm, rfl⟩) rfl rfl kw_129 dX9_init_30 (fun H locs M => ?_)
  replace q := gen_g M q
  obtain ⟨g_22, -, M, q⟩ := q
  cases q
  have hc : cells + 1 + 1 + 1 = cT := hc
  have hs : slots + (12 : Int32).toNatClampNeg + (12 : Int32).toNatClampNeg + (96 : Int32).toNatClampNeg = wT := hs
  subst hc
  subst hs
  exact x_vret hx hb hr hlk M hE dX9_init_33
set_option maxRecDepth 100000 in
theorem c_X9_init {l : Launch} {D : va_G} {cA : Nat → ClassId} {lo tS N : Nat} {S S1 : Hs} {g g1 : Hg} {k w : Nat} {rv : Unit} {a0 : Nat} {a1 : Nat} (ra0 : Rf lo S a0 9) (ra1 : Rf lo S a1 6) (q : f_X9_init N S g a0 a1 = some (rv, S1, g1, k, w)) {d : Nat} (hd : 1 ≤ d) : Ctr l yX9_init cX9_init 2 none D cA lo tS [.ref a0, .ref a1] S g d none S1 g1 True k w := by
  refine x_met (by decide) (Nat.le_of_ble_eq_true rfl) ?_
  intro p e s m below meth c ls hx hb hml hr hlk hown hnm hX M hl
  exact w_X9_init_0 hx hb hml hr hlk hown hX hd (Nat.mul_le_mul_left 60 hd) (N := N) hnm (Nat.le_refl k) (Nat.le_refl w) _ _ _ _ _ _ _ _ _ _ _ M Ext.rf ra0 ra1 (lv_sub hl [0, 1] rfl) q (Nat.zero_add k) (Nat.zero_add w)
def b_X8_init_0 (N : Nat) (S : Hs) (g : Hg) (a0 : Nat) (a1 : Nat) (a2 : Nat) : Option (Unit × Hs × Hg × Nat × Nat) :=
ck (lenok (8 : Int32)) (
al S g 20 (8 : Int32).toNatClampNeg (fun a_6 S_1 g_2 =>
nm (wrR g_2 a0 3 (some a_6)) (fun g_7 =>
ck (lenok (8 : Int32)) (
al S_1 g_7 20 (8 : Int32).toNatClampNeg (fun a_13 S_8 g_9 =>
nm (wrR g_9 a0 4 (some a_13)) (fun g_14 =>
nm (wrR g_14 a0 0 (some a1)) (fun g_15 =>
nm (wrR g_15 a0 1 (some a2)) (fun g_16 =>
al S_8 g_16 9 5 (fun a_22 S_17 g_18 =>
c5 (f_X9_init N S_17 g_18 a_22 a1) (fun u_24 S_25 g_23 =>
nm (wrR g_23 a0 2 (some a_22)) (fun g_30 =>
some ((), S_25, g_30, 0, 0))))))))))))
def f_X8_init (N : Nat) (S : Hs) (g : Hg) (a0 : Nat) (a1 : Nat) (a2 : Nat) : Option (Unit × Hs × Hg × Nat × Nat) := b_X8_init_0 N S g a0 a1 a2
set_option maxHeartbeats 4000000 in
set_option maxRecDepth 100000 in
theorem w_X8_init_0 (hx : p.tables.exec = Jvm.exec) (hb : c.code = cX8_init) (hml : c.maxLocals = 3) (hr : meth.sig.returnType = none) (hlk : meth.locks = false) (hown : s.vm.findClass RX8 = some m.cls) (hX : Kx D cA lo tS s) (hRf : 2 ≤ R.frames) (hRl : 120 ≤ R.locals) (hnm : meth.name = "<init>") {N : Nat} {rv : Unit} {g1 : Hg} {S0 S1 : Hs} {cT wT : Nat} (hRc : cT ≤ R.cells) (hRs : wT ≤ R.slots) : ∀ (H : Heap) (locs : List Loc) (ls : Array Slot) (cells slots k w : Nat) (S : Hs) (g : Hg) (a0 : Nat) (a1 : Nat) (a2 : Nat), Mm D cA lo S g s H locs → Ext lo S0 S → Rf lo S a0 8 → Rf lo S a1 6 → Rf lo S a2 4 → lv_has ls 3 [(0, .ref a0), (1, .ref a1), (2, .ref a2)] → b_X8_init_0 N S g a0 a1 a2 = some (rv, S1, g1, k, w) → cells + k = cT → slots + w = wT → W p l e R s m args below meth c H locs cells slots (MQ below (Qcx D cA lo S0 none S1 g1 True) args s cT wT (fun q : Nat => lo ≤ q)) (F0 m 0 ls []) := by
  intro H locs ls cells slots k w S g a0 a1 a2 M hE ra0 ra1 ra2 hl q hc hs
  unfold b_X8_init_0 at q
  refine lv_aload_n hx hb dX8_init_0 rfl (lv_at hl 0 rfl) ?_
  refine x_objinit hx hb hml hl.1 hown hX (rest := []) kw_122 kw_oi kw_oc dX8_init_1 (Nat.le_of_ble_eq_true rfl) ⟨Nat.le_trans (by omega) hRf, Nat.le_trans (by omega) hRl⟩ ?_
  refine lv_aload_n hx hb dX8_init_4 rfl (lv_at hl 0 rfl) ?_
  refine lv_bipush (v := 8) hx hb dX8_init_5 (by decide) ?_
  replace q := ck_s q
  obtain ⟨hz, q⟩ := q
  replace q := al_s q
  obtain ⟨S_1, g_2, k_3, w_4, eS, eg, ek, ew, q⟩ := q
  refine x_newa20 hx hb hX M hz (hb_step hc ek hRc) (hb_step hs ew hRs) dX8_init_7 (fun H M rn_5 hE1 => ?_)
  rw [← eS, ← eg] at M
  rw [← eS] at rn_5 hE1
  clear eS eg
  replace ra0 := ra0.ext hE1
  replace ra1 := ra1.ext hE1
  replace ra2 := ra2.ext hE1
  replace hE := hE.tr hE1
  replace hc := hc_step hc ek
  replace hs := hc_step hs ew
  clear ek ew
  refine x_putR hx hb hown hX M (k := 3) (K1 := 20) okX8 ra0 (by decide) rfl rn_5 (Or.inr ⟨rfl, hnm, rfl⟩) rfl rfl kw_148 dX8_init_9 (fun H locs M => ?_)
  replace q := gen_g M q
  obtain ⟨g_7, -, M, q⟩ := q
  refine lv_aload_n hx hb dX8_init_12 rfl (lv_at hl 0 rfl) ?_
  refine lv_bipush (v := 8) hx hb dX8_init_13 (by decide) ?_
  replace q := ck_s q
  obtain ⟨hz, q⟩ := q
  replace q := al_s q
  obtain ⟨S_8, g_9, k_10, w_11, eS, eg, ek, ew, q⟩ := q
  refine x_newa20 hx hb hX M hz (hb_step hc ek hRc) (hb_step hs ew hRs) dX8_init_15 (fun H M rn_12 hE1 => ?_)
  rw [← eS, ← eg] at M
  rw [← eS] at rn_12 hE1
  clear eS eg
  replace ra0 := ra0.ext hE1
  replace ra1 := ra1.ext hE1
  replace ra2 := ra2.ext hE1
  replace hE := hE.tr hE1
  replace hc := hc_step hc ek
  replace hs := hc_step hs ew
  clear ek ew
  refine x_putR hx hb hown hX M (k := 4) (K1 := 20) okX8 ra0 (by decide) rfl rn_12 (Or.inr ⟨rfl, hnm, rfl⟩) rfl rfl kw_149 dX8_init_17 (fun H locs M => ?_)
  replace q := gen_g M q
  obtain ⟨g_14, -, M, q⟩ := q
  refine lv_aload_n hx hb dX8_init_20 rfl (lv_at hl 0 rfl) ?_
  refine lv_aload_n hx hb dX8_init_21 rfl (lv_at hl 1 rfl) ?_
  refine x_putR hx hb hown hX M (k := 0) (K1 := 6) okX8 ra0 (by decide) rfl ra1 (Or.inr ⟨rfl, hnm, rfl⟩) rfl rfl kw_145 dX8_init_22 (fun H locs M => ?_)
  replace q := gen_g M q
  obtain ⟨g_15, -, M, q⟩ := q
  refine lv_aload_n hx hb dX8_init_25 rfl (lv_at hl 0 rfl) ?_
  refine lv_aload_n hx hb dX8_init_26 rfl (lv_at hl 2 rfl) ?_
  refine x_putR hx hb hown hX M (k := 1) (K1 := 4) okX8 ra0 (by decide) rfl ra2 (Or.inr ⟨rfl, hnm, rfl⟩) rfl rfl kw_146 dX8_init_27 (fun H locs M => ?_)
  replace q := gen_g M q
  obtain ⟨g_16, -, M, q⟩ := q
  refine lv_aload_n hx hb dX8_init_30 rfl (lv_at hl 0 rfl) ?_
  replace q := al_s q
  obtain ⟨S_17, g_18, k_19, w_20, eS, eg, ek, ew, q⟩ := q
  refine x_new hx hb hown hX M okX9 kw_123 kw_124 kw_57 dfX9 (hb_step hc ek hRc) (hb_step hs ew hRs) dX8_init_31 (fun H M rn_21 hE1 => ?_)
  rw [← eS, ← eg] at M
  rw [← eS] at rn_21 hE1
  clear eS eg
  replace ra0 := ra0.ext hE1
  replace ra1 := ra1.ext hE1
  replace ra2 := ra2.ext hE1
  replace hE := hE.tr hE1
  replace hc := hc_step hc ek
  replace hs := hc_step hs ew
  clear ek ew
  refine lv_dup hx hb dX8_init_34 rfl ?_
  refine lv_aload_n hx hb dX8_init_35 rfl (lv_at hl 1 rfl) ?_
  replace q := c5_s q
  obtain ⟨u_24, S_25, g_23, k_26, w_27, k_28, w_29, qc, ek, ew, q⟩ := q
  refine x_callI hx hb hml hl.1 hown hX M (As := [.ref a1]) (rest := [.ref (hpN S_8), .ref a0]) kw_126 rfl mok_X9_init (c_X9_init rn_21 ra1 qc (Nat.le_refl 1)) kw_125 rfl rfl dX8_init_36 (Nat.le_of_ble_eq_true rfl) ⟨Nat.le_trans (by decide) hRf, Nat.le_trans (by decide) hRl⟩ (hb_step hc ek hRc) (hb_step hs ew hRs) (fun H locs M hEF => ?_)
  replace ra0 := ra0.ext hEF.1
  replace ra1 := ra1.ext hEF.1
  replace ra2 := ra2.ext hEF.1
  replace rn_21 := rn_21.ext hEF.1
  replace hE := hE.tr hEF.1
  replace hc := hc_step hc ek
  replace hs := hc_step hs ew
  clear ek ew
  refine x_putR hx hb hown hX M (k := 2) (K1 := 9) okX8 ra0 (by decide) rfl rn_21 (Or.inr ⟨rfl, hnm, rfl⟩) rfl rfl kw_147 dX8_init_39 (fun H locs M => ?_)
  replace q := gen_g M q
  obtain ⟨g_30, -, M, q⟩ := q
  cases q
  have hc : cells + 1 + 1 + 1 + k_26 = cT := hc
  have hs : slots + (8 : Int32).toNatClampNeg + (8 : Int32).toNatClampNeg + 5 + w_27 = wT := hs
  subst hc
  subst hs
  exact x_vret hx hb hr hlk M hE dX8_init_42
set_option maxRecDepth 100000 in
theorem c_X8_init {l : Launch} {D : va_G} {cA : Nat → ClassId} {lo tS N : Nat} {S S1 : Hs} {g g1 : Hg} {k w : Nat} {rv : Unit} {a0 : Nat} {a1 : Nat} {a2 : Nat} (ra0 : Rf lo S a0 8) (ra1 : Rf lo S a1 6) (ra2 : Rf lo S a2 4) (q : f_X8_init N S g a0 a1 a2 = some (rv, S1, g1, k, w)) {d : Nat} (hd : 2 ≤ d) : Ctr l yX8_init cX8_init 3 none D cA lo tS [.ref a0, .ref a1, .ref a2] S g d none S1 g1 True k w := by
  refine x_met (by decide) (Nat.le_of_ble_eq_true rfl) ?_
  intro p e s m below meth c ls hx hb hml hr hlk hown hnm hX M hl
  exact w_X8_init_0 hx hb hml hr hlk hown hX hd (Nat.mul_le_mul_left 60 hd) (N := N) hnm (Nat.le_refl k) (Nat.le_refl w) _ _ _ _ _ _ _ _ _ _ _ _ M Ext.rf ra0 ra1 ra2 (lv_sub hl [0, 1, 2] rfl) q (Nat.zero_add k) (Nat.zero_add w)
def b_X11_init_0 (N : Nat) (S : Hs) (g : Hg) (a0 : Nat) : Option (Unit × Hs × Hg × Nat × Nat) :=
al S g 6 2 (fun a_6 S_1 g_2 =>
c5 (f_X6_init N S_1 g_2 a_6) (fun u_8 S_9 g_7 =>
nm (wrR g_7 a0 0 (some a_6)) (fun g_14 =>
al S_9 g_14 4 6 (fun a_20 S_15 g_16 =>
nn (rdR g_16 a0 0) (fun a_21 =>
c5 (f_X4_init N S_15 g_16 a_20 a_21) (fun u_23 S_24 g_22 =>
nm (wrR g_22 a0 1 (some a_20)) (fun g_29 =>
al S_24 g_29 8 5 (fun a_35 S_30 g_31 =>
nn (rdR g_31 a0 0) (fun a_36 =>
nn (rdR g_31 a0 1) (fun a_37 =>
c5 (f_X8_init N S_30 g_31 a_35 a_36 a_37) (fun u_39 S_40 g_38 =>
nm (wrR g_38 a0 2 (some a_35)) (fun g_45 =>
al S_40 g_45 1 9 (fun a_51 S_46 g_47 =>
c5 (f_X1_init N S_46 g_47 a_51) (fun u_53 S_54 g_52 =>
nm (wrR g_52 a0 3 (some a_51)) (fun g_59 =>
al S_54 g_59 0 7 (fun a_65 S_60 g_61 =>
c5 (f_X0_init N S_60 g_61 a_65) (fun u_67 S_68 g_66 =>
nm (wrR g_66 a0 4 (some a_65)) (fun g_73 =>
al S_68 g_73 7 12 (fun a_79 S_74 g_75 =>
c5 (f_X7_init N S_74 g_75 a_79) (fun u_81 S_82 g_80 =>
nm (wrR g_80 a0 5 (some a_79)) (fun g_87 =>
some ((), S_82, g_87, 0, 0))))))))))))))))))))))
def f_X11_init (N : Nat) (S : Hs) (g : Hg) (a0 : Nat) : Option (Unit × Hs × Hg × Nat × Nat) := b_X11_init_0 N S g a0
set_option maxHeartbeats 4000000 in
set_option maxRecDepth 100000 in
theorem w_X11_init_0 (hx : p.tables.exec = Jvm.exec) (hb : c.code = cX11_init) (hml : c.maxLocals = 1) (hr : meth.sig.returnType = none) (hlk : meth.locks = false) (hown : s.vm.findClass RX11 = some m.cls) (hX : Kx D cA lo tS s) (hRf : 3 ≤ R.frames) (hRl : 180 ≤ R.locals) (hnm : meth.name = "<init>") {N : Nat} {rv : Unit} {g1 : Hg} {S0 S1 : Hs} {cT wT : Nat} (hRc : cT ≤ R.cells) (hRs : wT ≤ R.slots) : ∀ (H : Heap) (locs : List Loc) (ls : Array Slot) (cells slots k w : Nat) (S : Hs) (g : Hg) (a0 : Nat), Mm D cA lo S g s H locs → Ext lo S0 S → Rf lo S a0 11 → lv_has ls 1 [(0, .ref a0)] → b_X11_init_0 N S g a0 = some (rv, S1, g1, k, w) → cells + k = cT → slots + w = wT → W p l e R s m args below meth c H locs cells slots (MQ below (Qcx D cA lo S0 none S1 g1 True) args s cT wT (fun q : Nat => lo ≤ q)) (F0 m 0 ls []) := by
  intro H locs ls cells slots k w S g a0 M hE ra0 hl q hc hs
  unfold b_X11_init_0 at q
  refine lv_aload_n hx hb dX11_init_0 rfl (lv_at hl 0 rfl) ?_
  refine x_objinit hx hb hml hl.1 hown hX (rest := []) kw_74 kw_oi kw_oc dX11_init_1 (Nat.le_of_ble_eq_true rfl) ⟨Nat.le_trans (by omega) hRf, Nat.le_trans (by omega) hRl⟩ ?_
  refine lv_aload_n hx hb dX11_init_4 rfl (lv_at hl 0 rfl) ?_
  replace q := al_s q
  obtain ⟨S_1, g_2, k_3, w_4, eS, eg, ek, ew, q⟩ := q
  refine x_new hx hb hown hX M okX6 kw_77 kw_78 kw_54 dfX6 (hb_step hc ek hRc) (hb_step hs ew hRs) dX11_init_5 (fun H M rn_5 hE1 => ?_)
  rw [← eS, ← eg] at M
  rw [← eS] at rn_5 hE1
  clear eS eg
  replace ra0 := ra0.ext hE1
  replace hE := hE.tr hE1
  replace hc := hc_step hc ek
  replace hs := hc_step hs ew
  clear ek ew
  refine lv_dup hx hb dX11_init_8 rfl ?_
  replace q := c5_s q
  obtain ⟨u_8, S_9, g_7, k_10, w_11, k_12, w_13, qc, ek, ew, q⟩ := q
  refine x_callIN hx hb hml hl.1 hown hX M (As := []) (rest := [.ref (hpN S), .ref a0]) kw_80 rfl mok_X6_init (c_X6_init rn_5 qc (Nat.le_refl 1)) kw_79 rfl rfl dX11_init_9 (Nat.le_of_ble_eq_true rfl) ⟨Nat.le_trans (by decide) hRf, Nat.le_trans (by decide) hRl⟩ (hb_step hc ek hRc) (hb_step hs ew hRs) (fun H locs M hEF => ?_)
  replace ra0 := ra0.ext hEF.1
  replace rn_5 := rn_5.ext hEF.1
  replace hE := hE.tr hEF.1
  replace hc := hc_step hc ek
  replace hs := hc_step hs ew
  clear ek ew
  refine x_putR hx hb hown hX M (k := 0) (K1 := 6) okX11 ra0 (by decide) rfl rn_5 (Or.inr ⟨rfl, hnm, rfl⟩) rfl rfl kw_356 dX11_init_12 (fun H locs M => ?_)
  replace q := gen_g M q
  obtain ⟨g_14, -, M, q⟩ := q
  refine lv_aload_n hx hb dX11_init_15 rfl (lv_at hl 0 rfl) ?_
  replace q := al_s q
  obtain ⟨S_15, g_16, k_17, w_18, eS, eg, ek, ew, q⟩ := q
  refine x_new hx hb hown hX M okX4 kw_91 kw_92 kw_55 dfX4 (hb_step hc ek hRc) (hb_step hs ew hRs) dX11_init_16 (fun H M rn_19 hE1 => ?_)
  rw [← eS, ← eg] at M
  rw [← eS] at rn_19 hE1
  clear eS eg
  replace ra0 := ra0.ext hE1
  replace hE := hE.tr hE1
  replace hc := hc_step hc ek
  replace hs := hc_step hs ew
  clear ek ew
  refine lv_dup hx hb dX11_init_19 rfl ?_
  refine lv_aload_n hx hb dX11_init_20 rfl (lv_at hl 0 rfl) ?_
  replace q := nn_s q
  obtain ⟨a_21, e_a_21, q⟩ := q
  refine x_getR hx hb hown hX M e_a_21 okX11 ra0 (by decide) rfl kw_356 dX11_init_21 (fun ra_21 => ?_)
  replace q := c5_s q
  obtain ⟨u_23, S_24, g_22, k_25, w_26, k_27, w_28, qc, ek, ew, q⟩ := q
  refine x_callI hx hb hml hl.1 hown hX M (As := [.ref a_21]) (rest := [.ref (hpN S_9), .ref a0]) kw_94 rfl mok_X4_init (c_X4_init rn_19 ra_21 qc (Nat.le_refl 1)) kw_93 rfl rfl dX11_init_24 (Nat.le_of_ble_eq_true rfl) ⟨Nat.le_trans (by decide) hRf, Nat.le_trans (by decide) hRl⟩ (hb_step hc ek hRc) (hb_step hs ew hRs) (fun H locs M hEF => ?_)
  replace ra0 := ra0.ext hEF.1
  replace rn_19 := rn_19.ext hEF.1
  replace hE := hE.tr hEF.1
  replace hc := hc_step hc ek
  replace hs := hc_step hs ew
  clear ek ew
  refine x_putR hx hb hown hX M (k := 1) (K1 := 4) okX11 ra0 (by decide) rfl rn_19 (Or.inr ⟨rfl, hnm, rfl⟩) rfl rfl kw_357 dX11_init_27 (fun H locs M => ?_)
  replace q := gen_g M q
  obtain ⟨g_29, -, M, q⟩ := q
  refine lv_aload_n hx hb dX11_init_30 rfl (lv_at hl 0 rfl) ?_
  replace q := al_s q
  obtain ⟨S_30, g_31, k_32, w_33, eS, eg, ek, ew, q⟩ := q
  refine x_new hx hb hown hX M okX8 kw_117 kw_118 kw_56 dfX8 (hb_step hc ek hRc) (hb_step hs ew hRs) dX11_init_31 (fun H M rn_34 hE1 => ?_)
  rw [← eS, ← eg] at M
  rw [← eS] at rn_34 hE1
  clear eS eg
  replace ra0 := ra0.ext hE1
  replace hE := hE.tr hE1
  replace hc := hc_step hc ek
  replace hs := hc_step hs ew
  clear ek ew
  refine lv_dup hx hb dX11_init_34 rfl ?_
  refine lv_aload_n hx hb dX11_init_35 rfl (lv_at hl 0 rfl) ?_
  replace q := nn_s q
  obtain ⟨a_36, e_a_36, q⟩ := q
  refine x_getR hx hb hown hX M e_a_36 okX11 ra0 (by decide) rfl kw_356 dX11_init_36 (fun ra_36 => ?_)
  refine lv_aload_n hx hb dX11_init_39 rfl (lv_at hl 0 rfl) ?_
  replace q := nn_s q
  obtain ⟨a_37, e_a_37, q⟩ := q
  refine x_getR hx hb hown hX M e_a_37 okX11 ra0 (by decide) rfl kw_357 dX11_init_40 (fun ra_37 => ?_)
  replace q := c5_s q
  obtain ⟨u_39, S_40, g_38, k_41, w_42, k_43, w_44, qc, ek, ew, q⟩ := q
  refine x_callI hx hb hml hl.1 hown hX M (As := [.ref a_36, .ref a_37]) (rest := [.ref (hpN S_24), .ref a0]) kw_120 rfl mok_X8_init (c_X8_init rn_34 ra_36 ra_37 qc (Nat.le_refl 2)) kw_119 rfl rfl dX11_init_43 (Nat.le_of_ble_eq_true rfl) ⟨Nat.le_trans (by decide) hRf, Nat.le_trans (by decide) hRl⟩ (hb_step hc ek hRc) (hb_step hs ew hRs) (fun H locs M hEF => ?_)
  replace ra0 := ra0.ext hEF.1
  replace rn_34 := rn_34.ext hEF.1
  replace hE := hE.tr hEF.1
  replace hc := hc_step hc ek
  replace hs := hc_step hs ew
  clear ek ew
  refine x_putR hx hb hown hX M (k := 2) (K1 := 8) okX11 ra0 (by decide) rfl rn_34 (Or.inr ⟨rfl, hnm, rfl⟩) rfl rfl kw_358 dX11_init_46 (fun H locs M => ?_)
  replace q := gen_g M q
  obtain ⟨g_45, -, M, q⟩ := q
  refine lv_aload_n hx hb dX11_init_49 rfl (lv_at hl 0 rfl) ?_
  replace q := al_s q
  obtain ⟨S_46, g_47, k_48, w_49, eS, eg, ek, ew, q⟩ := q
  refine x_new hx hb hown hX M okX1 kw_161 kw_162 kw_58 dfX1 (hb_step hc ek hRc) (hb_step hs ew hRs) dX11_init_50 (fun H M rn_50 hE1 => ?_)
  rw [← eS, ← eg] at M
  rw [← eS] at rn_50 hE1
  clear eS eg
  replace ra0 := ra0.ext hE1
  replace hE := hE.tr hE1
  replace hc := hc_step hc ek
  replace hs := hc_step hs ew
  clear ek ew
  refine lv_dup hx hb dX11_init_53 rfl ?_
  replace q := c5_s q
  obtain ⟨u_53, S_54, g_52, k_55, w_56, k_57, w_58, qc, ek, ew, q⟩ := q
  refine x_callI hx hb hml hl.1 hown hX M (As := []) (rest := [.ref (hpN S_40), .ref a0]) kw_164 rfl mok_X1_init (c_X1_init rn_50 qc (Nat.le_refl 2)) kw_163 rfl rfl dX11_init_54 (Nat.le_of_ble_eq_true rfl) ⟨Nat.le_trans (by decide) hRf, Nat.le_trans (by decide) hRl⟩ (hb_step hc ek hRc) (hb_step hs ew hRs) (fun H locs M hEF => ?_)
  replace ra0 := ra0.ext hEF.1
  replace rn_50 := rn_50.ext hEF.1
  replace hE := hE.tr hEF.1
  replace hc := hc_step hc ek
  replace hs := hc_step hs ew
  clear ek ew
  refine x_putR hx hb hown hX M (k := 3) (K1 := 1) okX11 ra0 (by decide) rfl rn_50 (Or.inr ⟨rfl, hnm, rfl⟩) rfl rfl kw_359 dX11_init_57 (fun H locs M => ?_)
  replace q := gen_g M q
  obtain ⟨g_59, -, M, q⟩ := q
  refine lv_aload_n hx hb dX11_init_60 rfl (lv_at hl 0 rfl) ?_
  replace q := al_s q
  obtain ⟨S_60, g_61, k_62, w_63, eS, eg, ek, ew, q⟩ := q
  refine x_new hx hb hown hX M okX0 kw_352 kw_243 kw_60 dfX0 (hb_step hc ek hRc) (hb_step hs ew hRs) dX11_init_61 (fun H M rn_64 hE1 => ?_)
  rw [← eS, ← eg] at M
  rw [← eS] at rn_64 hE1
  clear eS eg
  replace ra0 := ra0.ext hE1
  replace hE := hE.tr hE1
  replace hc := hc_step hc ek
  replace hs := hc_step hs ew
  clear ek ew
  refine lv_dup hx hb dX11_init_64 rfl ?_
  replace q := c5_s q
  obtain ⟨u_67, S_68, g_66, k_69, w_70, k_71, w_72, qc, ek, ew, q⟩ := q
  refine x_callIN hx hb hml hl.1 hown hX M (As := []) (rest := [.ref (hpN S_54), .ref a0]) kw_245 rfl mok_X0_init (c_X0_init rn_64 qc (Nat.le_refl 1)) kw_353 rfl rfl dX11_init_65 (Nat.le_of_ble_eq_true rfl) ⟨Nat.le_trans (by decide) hRf, Nat.le_trans (by decide) hRl⟩ (hb_step hc ek hRc) (hb_step hs ew hRs) (fun H locs M hEF => ?_)
  replace ra0 := ra0.ext hEF.1
  replace rn_64 := rn_64.ext hEF.1
  replace hE := hE.tr hEF.1
  replace hc := hc_step hc ek
  replace hs := hc_step hs ew
  clear ek ew
  refine x_putR hx hb hown hX M (k := 4) (K1 := 0) okX11 ra0 (by decide) rfl rn_64 (Or.inr ⟨rfl, hnm, rfl⟩) rfl rfl kw_360 dX11_init_68 (fun H locs M => ?_)
  replace q := gen_g M q
  obtain ⟨g_73, -, M, q⟩ := q
  refine lv_aload_n hx hb dX11_init_71 rfl (lv_at hl 0 rfl) ?_
  replace q := al_s q
  obtain ⟨S_74, g_75, k_76, w_77, eS, eg, ek, ew, q⟩ := q
  refine x_new hx hb hown hX M okX7 kw_354 kw_175 kw_59 dfX7 (hb_step hc ek hRc) (hb_step hs ew hRs) dX11_init_72 (fun H M rn_78 hE1 => ?_)
  rw [← eS, ← eg] at M
  rw [← eS] at rn_78 hE1
  clear eS eg
  replace ra0 := ra0.ext hE1
  replace hE := hE.tr hE1
  replace hc := hc_step hc ek
  replace hs := hc_step hs ew
  clear ek ew
  refine lv_dup hx hb dX11_init_75 rfl ?_
  replace q := c5_s q
  obtain ⟨u_81, S_82, g_80, k_83, w_84, k_85, w_86, qc, ek, ew, q⟩ := q
  refine x_callIN hx hb hml hl.1 hown hX M (As := []) (rest := [.ref (hpN S_68), .ref a0]) kw_177 rfl mok_X7_init (c_X7_init rn_78 qc (Nat.le_refl 1)) kw_355 rfl rfl dX11_init_76 (Nat.le_of_ble_eq_true rfl) ⟨Nat.le_trans (by decide) hRf, Nat.le_trans (by decide) hRl⟩ (hb_step hc ek hRc) (hb_step hs ew hRs) (fun H locs M hEF => ?_)
  replace ra0 := ra0.ext hEF.1
  replace rn_78 := rn_78.ext hEF.1
  replace hE := hE.tr hEF.1
  replace hc := hc_step hc ek
  replace hs := hc_step hs ew
  clear ek ew
  refine x_putR hx hb hown hX M (k := 5) (K1 := 7) okX11 ra0 (by decide) rfl rn_78 (Or.inr ⟨rfl, hnm, rfl⟩) rfl rfl kw_361 dX11_init_79 (fun H locs M => ?_)
  replace q := gen_g M q
  obtain ⟨g_87, -, M, q⟩ := q
  cases q
  have hc : cells + 1 + k_10 + 1 + k_25 + 1 + k_41 + 1 + k_55 + 1 + k_69 + 1 + k_83 = cT := hc
  have hs : slots + 2 + w_11 + 6 + w_26 + 5 + w_42 + 9 + w_56 + 7 + w_70 + 12 + w_84 = wT := hs
  subst hc
  subst hs
  exact x_vret hx hb hr hlk M hE dX11_init_82
set_option maxRecDepth 100000 in
theorem c_X11_init {l : Launch} {D : va_G} {cA : Nat → ClassId} {lo tS N : Nat} {S S1 : Hs} {g g1 : Hg} {k w : Nat} {rv : Unit} {a0 : Nat} (ra0 : Rf lo S a0 11) (q : f_X11_init N S g a0 = some (rv, S1, g1, k, w)) {d : Nat} (hd : 3 ≤ d) : Ctr l yX11_init cX11_init 1 none D cA lo tS [.ref a0] S g d none S1 g1 True k w := by
  refine x_met (by decide) (Nat.le_of_ble_eq_true rfl) ?_
  intro p e s m below meth c ls hx hb hml hr hlk hown hnm hX M hl
  exact w_X11_init_0 hx hb hml hr hlk hown hX hd (Nat.mul_le_mul_left 60 hd) (N := N) hnm (Nat.le_refl k) (Nat.le_refl w) _ _ _ _ _ _ _ _ _ _ M Ext.rf ra0 (lv_sub hl [0] rfl) q (Nat.zero_add k) (Nat.zero_add w)
def b_X3_shows_0 (N : Nat) (S : Hs) (g : Hg) (a0 : Nat) (x1 : Int32) : Option (Int32 × Hg) :=
if x1 < 0 then (
some ((0 : Int32), g)) else (
if (rdI g a0 7) ≤ x1 then (
some ((0 : Int32), g)) else (
nn (rdR g a0 3) (fun a_3 =>
ck (inb x1 (hpL S a_3)) (
if (rdI g a_3 x1.toNatClampNeg) = (2 : Int32) then (
some ((0 : Int32), g)) else (
some ((1 : Int32), g))))))
def f_X3_shows (N : Nat) (S : Hs) (g : Hg) (a0 : Nat) (x1 : Int32) : Option (Int32 × Hg) := b_X3_shows_0 N S g a0 x1
set_option maxHeartbeats 4000000 in
set_option maxRecDepth 100000 in
theorem w_X3_shows_0 (hx : p.tables.exec = Jvm.exec) (hb : c.code = cX3_shows) (hml : c.maxLocals = 2) (hr : meth.sig.returnType = (some .boolean)) (hlk : meth.locks = false) (hown : s.vm.findClass RX3 = some m.cls) (hX : Kx D cA lo tS s) (hRf : 1 ≤ R.frames) (hRl : 60 ≤ R.locals) {N : Nat} {rv : Int32} {g1 : Hg} {S : Hs} : ∀ (H : Heap) (locs : List Loc) (ls : Array Slot) (g : Hg) (a0 : Nat) (x1 : Int32), Mm D cA lo S g s H locs → Rf lo S a0 3 → lv_has ls 2 [(0, .ref a0), (1, .int x1)] → b_X3_shows_0 N S g a0 x1 = some (rv, g1) → W p l e R s m args below meth c H locs 0 0 (MQ below (Qcx D cA lo S (some (.int rv)) S g1 True) args s 0 0 (fun q : Nat => lo ≤ q)) (F0 m 0 ls []) := by
  intro H locs ls g a0 x1 M ra0 hl q
  unfold b_X3_shows_0 at q
  refine lv_iload_n hx hb dX3_shows_0 rfl (lv_at hl 1 rfl) ?_
  refine lv_if_lt (tgt := 26) hx hb dX3_shows_1 (by decide) (fun c_1 => ?_) (fun c_1 => ?_)
  · replace q := if_t c_1 q
    refine lv_iconst (v := 0) hx hb dX3_shows_26 (by decide) ?_
    cases q
    exact x_zret hx hb hr hlk rfl M Ext.rf dX3_shows_27
  · replace q := if_f c_1 q
    refine lv_iload_n hx hb dX3_shows_4 rfl (lv_at hl 1 rfl) ?_
    refine lv_aload_n hx hb dX3_shows_5 rfl (lv_at hl 0 rfl) ?_
    refine x_getI hx hb hown hX M (k := 7) okX3 ra0 (by decide) rfl kw_457 dX3_shows_6 ?_
    refine lv_icmp_ge (tgt := 26) hx hb dX3_shows_9 (by decide) (fun c_2 => ?_) (fun c_2 => ?_)
    · replace q := if_t c_2 q
      refine lv_iconst (v := 0) hx hb dX3_shows_26 (by decide) ?_
      cases q
      exact x_zret hx hb hr hlk rfl M Ext.rf dX3_shows_27
    · replace q := if_f c_2 q
      refine lv_aload_n hx hb dX3_shows_12 rfl (lv_at hl 0 rfl) ?_
      replace q := nn_s q
      obtain ⟨a_3, e_a_3, q⟩ := q
      refine x_getR hx hb hown hX M e_a_3 okX3 ra0 (by decide) rfl kw_450 dX3_shows_13 (fun ra_3 => ?_)
      refine lv_iload_n hx hb dX3_shows_16 rfl (lv_at hl 1 rfl) ?_
      replace q := ck_s q
      obtain ⟨hin, q⟩ := q
      refine x_iald hx hb hX M ra_3 (inb_in hin) dX3_shows_17 ?_
      refine lv_iconst (v := 2) hx hb dX3_shows_18 (by decide) ?_
      refine lv_icmp_eq (tgt := 26) hx hb dX3_shows_19 (by decide) (fun c_4 => ?_) (fun c_4 => ?_)
      · replace q := if_t c_4 q
        refine lv_iconst (v := 0) hx hb dX3_shows_26 (by decide) ?_
        cases q
        exact x_zret hx hb hr hlk rfl M Ext.rf dX3_shows_27
      · replace q := if_f c_4 q
        refine lv_iconst (v := 1) hx hb dX3_shows_22 (by decide) ?_
        refine lv_goto (tgt := 27) hx hb dX3_shows_23 (by decide) ?_
        cases q
        exact x_zret hx hb hr hlk rfl M Ext.rf dX3_shows_27
set_option maxRecDepth 100000 in
theorem c_X3_shows {l : Launch} {D : va_G} {cA : Nat → ClassId} {lo tS N : Nat} {S : Hs} {g g1 : Hg} {rv : Int32} {a0 : Nat} {x1 : Int32} (ra0 : Rf lo S a0 3) (q : f_X3_shows N S g a0 x1 = some (rv, g1)) {d : Nat} (hd : 1 ≤ d) : Ctr l yX3_shows cX3_shows 2 (some .boolean) D cA lo tS [.ref a0, .int x1] S g d (some (.int rv)) S g1 True 0 0 := by
  refine x_met (by decide) (Nat.le_of_ble_eq_true rfl) ?_
  intro p e s m below meth c ls hx hb hml hr hlk hown hnm hX M hl
  exact w_X3_shows_0 hx hb hml hr hlk hown hX hd (Nat.mul_le_mul_left 60 hd) (N := N) _ _ _ _ _ _ M ra0 (lv_sub hl [0, 1] rfl) q
def b_X11_keep_0 (N : Nat) (S : Hs) (g : Hg) (a0 : Nat) (x1 : Int32) (x2 : Int32) : Option (Int32 × Hg) :=
nn (rdR g a0 3) (fun a_1 =>
c2 (f_X1_logAt N S g a_1 x1) (fun o_3 g_2 =>
on o_3 (
some ((0 : Int32), g_2)) (fun a_4 =>
c2 (f_X3_shows N S g_2 a_4 x2) (fun x_6 g_5 =>
if x_6 = 0 then (
some ((0 : Int32), g_5)) else (
nn (rdR g_5 a_4 3) (fun a_8 =>
ck (inb x2 (hpL S a_8)) (
nm (wrI g_5 a_8 x2.toNatClampNeg (1 : Int32)) (fun g_9 =>
some ((1 : Int32), g_9)))))))))
def f_X11_keep (N : Nat) (S : Hs) (g : Hg) (a0 : Nat) (x1 : Int32) (x2 : Int32) : Option (Int32 × Hg) := b_X11_keep_0 N S g a0 x1 x2
set_option maxHeartbeats 4000000 in
set_option maxRecDepth 100000 in
theorem w_X11_keep_0 (hx : p.tables.exec = Jvm.exec) (hb : c.code = cX11_keep) (hml : c.maxLocals = 4) (hr : meth.sig.returnType = (some .boolean)) (hlk : meth.locks = false) (hown : s.vm.findClass RX11 = some m.cls) (hX : Kx D cA lo tS s) (hRf : 2 ≤ R.frames) (hRl : 120 ≤ R.locals) {N : Nat} {rv : Int32} {g1 : Hg} {S : Hs} : ∀ (H : Heap) (locs : List Loc) (ls : Array Slot) (g : Hg) (a0 : Nat) (x1 : Int32) (x2 : Int32), Mm D cA lo S g s H locs → Rf lo S a0 11 → lv_has ls 4 [(0, .ref a0), (1, .int x1), (2, .int x2)] → b_X11_keep_0 N S g a0 x1 x2 = some (rv, g1) → W p l e R s m args below meth c H locs 0 0 (MQ below (Qcx D cA lo S (some (.int rv)) S g1 True) args s 0 0 (fun q : Nat => lo ≤ q)) (F0 m 0 ls []) := by
  intro H locs ls g a0 x1 x2 M ra0 hl q
  unfold b_X11_keep_0 at q
  refine lv_aload_n hx hb dX11_keep_0 rfl (lv_at hl 0 rfl) ?_
  replace q := nn_s q
  obtain ⟨a_1, e_a_1, q⟩ := q
  refine x_getR hx hb hown hX M e_a_1 okX11 ra0 (by decide) rfl kw_359 dX11_keep_1 (fun ra_1 => ?_)
  refine lv_iload_n hx hb dX11_keep_4 rfl (lv_at hl 1 rfl) ?_
  replace q := c2_s q
  obtain ⟨o_3, g_2, qc, q⟩ := q
  refine x_callV hx hb hml hl.1 hown hX M (S1 := S) (As := [.int x1]) (rest := []) okX1 ra_1 rfl kw_495 kw_496 mok_X1_logAt (c_X1_logAt ra_1 qc (Nat.le_refl 1)) kw_494 rfl rfl dX11_keep_5 (Nat.le_of_ble_eq_true rfl) ⟨Nat.le_trans (by decide) hRf, Nat.le_trans (by decide) hRl⟩ (Nat.zero_le _) (Nat.zero_le _) (fun H locs M hEF => ?_)
  have ro_3 := hEF.2
  refine x_astore_n (lv' := [(3, va_rf o_3), (0, .ref a0), (1, .int x1), (2, .int x2)]) hx hb dX11_keep_8 rfl hl (by decide) rfl (fun ls hl => ?_)
  refine x_aload_n hx hb dX11_keep_9 rfl (lv_at hl 0 rfl) ?_
  refine x_ifnull (tgt := 21) hx hb dX11_keep_10 (by decide) (fun c_10 => ?_) (fun a_4 c_10 => ?_)
  · replace q := on_n c_10 q
    refine lv_iconst (v := 0) hx hb dX11_keep_21 (by decide) ?_
    cases q
    exact x_zret hx hb hr hlk rfl M Ext.rf dX11_keep_22
  · subst c_10
    replace q := on_s rfl q
    have ra_4 := ro_3 a_4 rfl
    have hl : lv_has ls 4 [(3, .ref a_4), (0, .ref a0), (1, .int x1), (2, .int x2)] := hl
    refine lv_aload_n hx hb dX11_keep_13 rfl (lv_at hl 0 rfl) ?_
    refine lv_iload_n hx hb dX11_keep_14 rfl (lv_at hl 3 rfl) ?_
    replace q := c2_s q
    obtain ⟨x_6, g_5, qc, q⟩ := q
    refine x_callV hx hb hml hl.1 hown hX M (S1 := S) (As := [.int x2]) (rest := []) okX3 ra_4 rfl kw_603 kw_604 mok_X3_shows (c_X3_shows ra_4 qc (Nat.le_refl 1)) kw_602 rfl rfl dX11_keep_15 (Nat.le_of_ble_eq_true rfl) ⟨Nat.le_trans (by decide) hRf, Nat.le_trans (by decide) hRl⟩ (Nat.zero_le _) (Nat.zero_le _) (fun H locs M hEF => ?_)
    refine lv_if_ne (tgt := 23) hx hb dX11_keep_18 (by decide) (fun c_7 => ?_) (fun c_7 => ?_)
    · replace q := if_f c_7 q
      refine lv_aload_n hx hb dX11_keep_23 rfl (lv_at hl 0 rfl) ?_
      replace q := nn_s q
      obtain ⟨a_8, e_a_8, q⟩ := q
      refine x_getR hx hb hown hX M e_a_8 okX3 ra_4 (by decide) rfl kw_451 dX11_keep_24 (fun ra_8 => ?_)
      refine lv_iload_n hx hb dX11_keep_27 rfl (lv_at hl 3 rfl) ?_
      refine lv_iconst (v := 1) hx hb dX11_keep_28 (by decide) ?_
      replace q := ck_s q
      obtain ⟨hin, q⟩ := q
      refine x_iast hx hb hX M ra_8 (inb_in hin) dX11_keep_29 (fun H locs M => ?_)
      replace q := gen_g M q
      obtain ⟨g_9, -, M, q⟩ := q
      refine lv_iconst (v := 1) hx hb dX11_keep_30 (by decide) ?_
      cases q
      exact x_zret hx hb hr hlk rfl M Ext.rf dX11_keep_31
    · replace q := if_t c_7 q
      refine lv_iconst (v := 0) hx hb dX11_keep_21 (by decide) ?_
      cases q
      exact x_zret hx hb hr hlk rfl M Ext.rf dX11_keep_22
set_option maxRecDepth 100000 in
theorem c_X11_keep {l : Launch} {D : va_G} {cA : Nat → ClassId} {lo tS N : Nat} {S : Hs} {g g1 : Hg} {rv : Int32} {a0 : Nat} {x1 : Int32} {x2 : Int32} (ra0 : Rf lo S a0 11) (q : f_X11_keep N S g a0 x1 x2 = some (rv, g1)) {d : Nat} (hd : 2 ≤ d) : Ctr l yX11_keep cX11_keep 4 (some .boolean) D cA lo tS [.ref a0, .int x1, .int x2] S g d (some (.int rv)) S g1 True 0 0 := by
  refine x_met (by decide) (Nat.le_of_ble_eq_true rfl) ?_
  intro p e s m below meth c ls hx hb hml hr hlk hown hnm hX M hl
  exact w_X11_keep_0 hx hb hml hr hlk hown hX hd (Nat.mul_le_mul_left 60 hd) (N := N) _ _ _ _ _ _ _ M ra0 (lv_sub hl [0, 1, 2] rfl) q
def b_X11_lag_0 (N : Nat) (S : Hs) (g : Hg) (a0 : Nat) (x1 : Int32) (x2 : Int32) : Option (Int32 × Hg) :=
nn (rdR g a0 3) (fun a_1 =>
c2 (f_X1_logAt N S g a_1 x1) (fun o_3 g_2 =>
on o_3 (
some ((0 : Int32), g_2)) (fun a_4 =>
c2 (f_X3_tellMark N S g_2 a_4 x2 (0 : Int32)) (fun x_6 g_5 =>
if x_6 = 0 then (
some ((0 : Int32), g_5)) else (
some ((1 : Int32), g_5))))))
def f_X11_lag (N : Nat) (S : Hs) (g : Hg) (a0 : Nat) (x1 : Int32) (x2 : Int32) : Option (Int32 × Hg) := b_X11_lag_0 N S g a0 x1 x2
set_option maxHeartbeats 4000000 in
set_option maxRecDepth 100000 in
theorem w_X11_lag_0 (hx : p.tables.exec = Jvm.exec) (hb : c.code = cX11_lag) (hml : c.maxLocals = 4) (hr : meth.sig.returnType = (some .boolean)) (hlk : meth.locks = false) (hown : s.vm.findClass RX11 = some m.cls) (hX : Kx D cA lo tS s) (hRf : 4 ≤ R.frames) (hRl : 240 ≤ R.locals) {N : Nat} {rv : Int32} {g1 : Hg} {S : Hs} : ∀ (H : Heap) (locs : List Loc) (ls : Array Slot) (g : Hg) (a0 : Nat) (x1 : Int32) (x2 : Int32), Mm D cA lo S g s H locs → Rf lo S a0 11 → lv_has ls 4 [(0, .ref a0), (1, .int x1), (2, .int x2)] → b_X11_lag_0 N S g a0 x1 x2 = some (rv, g1) → W p l e R s m args below meth c H locs 0 0 (MQ below (Qcx D cA lo S (some (.int rv)) S g1 True) args s 0 0 (fun q : Nat => lo ≤ q)) (F0 m 0 ls []) := by
  intro H locs ls g a0 x1 x2 M ra0 hl q
  unfold b_X11_lag_0 at q
  refine lv_aload_n hx hb dX11_lag_0 rfl (lv_at hl 0 rfl) ?_
  replace q := nn_s q
  obtain ⟨a_1, e_a_1, q⟩ := q
  refine x_getR hx hb hown hX M e_a_1 okX11 ra0 (by decide) rfl kw_359 dX11_lag_1 (fun ra_1 => ?_)
  refine lv_iload_n hx hb dX11_lag_4 rfl (lv_at hl 1 rfl) ?_
  replace q := c2_s q
  obtain ⟨o_3, g_2, qc, q⟩ := q
  refine x_callV hx hb hml hl.1 hown hX M (S1 := S) (As := [.int x1]) (rest := []) okX1 ra_1 rfl kw_495 kw_496 mok_X1_logAt (c_X1_logAt ra_1 qc (Nat.le_refl 1)) kw_494 rfl rfl dX11_lag_5 (Nat.le_of_ble_eq_true rfl) ⟨Nat.le_trans (by decide) hRf, Nat.le_trans (by decide) hRl⟩ (Nat.zero_le _) (Nat.zero_le _) (fun H locs M hEF => ?_)
  have ro_3 := hEF.2
  refine x_astore_n (lv' := [(3, va_rf o_3), (0, .ref a0), (1, .int x1), (2, .int x2)]) hx hb dX11_lag_8 rfl hl (by decide) rfl (fun ls hl => ?_)
  refine x_aload_n hx hb dX11_lag_9 rfl (lv_at hl 0 rfl) ?_
  refine x_ifnull (tgt := 26) hx hb dX11_lag_10 (by decide) (fun c_8 => ?_) (fun a_4 c_8 => ?_)
  · replace q := on_n c_8 q
    refine lv_iconst (v := 0) hx hb dX11_lag_26 (by decide) ?_
    cases q
    exact x_zret hx hb hr hlk rfl M Ext.rf dX11_lag_27
  · subst c_8
    replace q := on_s rfl q
    have ra_4 := ro_3 a_4 rfl
    have hl : lv_has ls 4 [(3, .ref a_4), (0, .ref a0), (1, .int x1), (2, .int x2)] := hl
    refine lv_aload_n hx hb dX11_lag_13 rfl (lv_at hl 0 rfl) ?_
    refine lv_iload_n hx hb dX11_lag_14 rfl (lv_at hl 3 rfl) ?_
    refine lv_iconst (v := 0) hx hb dX11_lag_15 (by decide) ?_
    replace q := c2_s q
    obtain ⟨x_6, g_5, qc, q⟩ := q
    refine x_callV hx hb hml hl.1 hown hX M (S1 := S) (As := [.int x2, .int (0 : Int32)]) (rest := []) okX3 ra_4 rfl kw_575 kw_576 mok_X3_tellMark (c_X3_tellMark ra_4 qc (Nat.le_refl 3)) kw_574 rfl rfl dX11_lag_16 (Nat.le_of_ble_eq_true rfl) ⟨Nat.le_trans (by decide) hRf, Nat.le_trans (by decide) hRl⟩ (Nat.zero_le _) (Nat.zero_le _) (fun H locs M hEF => ?_)
    refine lv_if_eq (tgt := 26) hx hb dX11_lag_19 (by decide) (fun c_7 => ?_) (fun c_7 => ?_)
    · replace q := if_t c_7 q
      refine lv_iconst (v := 0) hx hb dX11_lag_26 (by decide) ?_
      cases q
      exact x_zret hx hb hr hlk rfl M Ext.rf dX11_lag_27
    · replace q := if_f c_7 q
      refine lv_iconst (v := 1) hx hb dX11_lag_22 (by decide) ?_
      refine lv_goto (tgt := 27) hx hb dX11_lag_23 (by decide) ?_
      cases q
      exact x_zret hx hb hr hlk rfl M Ext.rf dX11_lag_27
set_option maxRecDepth 100000 in
theorem c_X11_lag {l : Launch} {D : va_G} {cA : Nat → ClassId} {lo tS N : Nat} {S : Hs} {g g1 : Hg} {rv : Int32} {a0 : Nat} {x1 : Int32} {x2 : Int32} (ra0 : Rf lo S a0 11) (q : f_X11_lag N S g a0 x1 x2 = some (rv, g1)) {d : Nat} (hd : 4 ≤ d) : Ctr l yX11_lag cX11_lag 4 (some .boolean) D cA lo tS [.ref a0, .int x1, .int x2] S g d (some (.int rv)) S g1 True 0 0 := by
  refine x_met (by decide) (Nat.le_of_ble_eq_true rfl) ?_
  intro p e s m below meth c ls hx hb hml hr hlk hown hnm hX M hl
  exact w_X11_lag_0 hx hb hml hr hlk hown hX hd (Nat.mul_le_mul_left 60 hd) (N := N) _ _ _ _ _ _ _ M ra0 (lv_sub hl [0, 1, 2] rfl) q
def b_X11_latest_0 (N : Nat) (S : Hs) (g : Hg) (a0 : Nat) (x1 : Int32) (x2 : Int32) (x3 : Int32) : Option (Int32 × Hg) :=
nn (rdR g a0 3) (fun a_1 =>
c2 (f_X1_logAt N S g a_1 x1) (fun o_3 g_2 =>
on o_3 (
some ((-1 : Int32), g_2)) (fun a_4 =>
c2 (f_X3_reaches N S g_2 a_4 x2) (fun x_6 g_5 =>
if x_6 = 0 then (
some ((-1 : Int32), g_5)) else (
nn (rdR g_5 a0 1) (fun a_8 =>
c2 (f_X4_read N S g_5 a_8 a_4 x2) (fun u_10 g_9 =>
nn (rdR g_9 a0 1) (fun a_11 =>
nn (rdR g_9 a_4 0) (fun a_12 =>
c2 (f_X2_find N S g_9 a_12 x3) (fun x_14 g_13 =>
c2 (f_X4_latestOf N S g_13 a_11 x_14) (fun x_16 g_15 =>
some (x_16, g_15))))))))))))
def f_X11_latest (N : Nat) (S : Hs) (g : Hg) (a0 : Nat) (x1 : Int32) (x2 : Int32) (x3 : Int32) : Option (Int32 × Hg) := b_X11_latest_0 N S g a0 x1 x2 x3
set_option maxHeartbeats 4000000 in
set_option maxRecDepth 100000 in
theorem w_X11_latest_0 (hx : p.tables.exec = Jvm.exec) (hb : c.code = cX11_latest) (hml : c.maxLocals = 5) (hr : meth.sig.returnType = (some .int)) (hlk : meth.locks = false) (hown : s.vm.findClass RX11 = some m.cls) (hX : Kx D cA lo tS s) (hRf : 4 ≤ R.frames) (hRl : 240 ≤ R.locals) {N : Nat} {rv : Int32} {g1 : Hg} {S : Hs} : ∀ (H : Heap) (locs : List Loc) (ls : Array Slot) (g : Hg) (a0 : Nat) (x1 : Int32) (x2 : Int32) (x3 : Int32), Mm D cA lo S g s H locs → Rf lo S a0 11 → lv_has ls 5 [(0, .ref a0), (1, .int x1), (2, .int x2), (3, .int x3)] → b_X11_latest_0 N S g a0 x1 x2 x3 = some (rv, g1) → W p l e R s m args below meth c H locs 0 0 (MQ below (Qcx D cA lo S (some (.int rv)) S g1 True) args s 0 0 (fun q : Nat => lo ≤ q)) (F0 m 0 ls []) := by
  intro H locs ls g a0 x1 x2 x3 M ra0 hl q
  unfold b_X11_latest_0 at q
  refine lv_aload_n hx hb dX11_latest_0 rfl (lv_at hl 0 rfl) ?_
  replace q := nn_s q
  obtain ⟨a_1, e_a_1, q⟩ := q
  refine x_getR hx hb hown hX M e_a_1 okX11 ra0 (by decide) rfl kw_359 dX11_latest_1 (fun ra_1 => ?_)
  refine lv_iload_n hx hb dX11_latest_4 rfl (lv_at hl 1 rfl) ?_
  replace q := c2_s q
  obtain ⟨o_3, g_2, qc, q⟩ := q
  refine x_callV hx hb hml hl.1 hown hX M (S1 := S) (As := [.int x1]) (rest := []) okX1 ra_1 rfl kw_495 kw_496 mok_X1_logAt (c_X1_logAt ra_1 qc (Nat.le_refl 1)) kw_494 rfl rfl dX11_latest_5 (Nat.le_of_ble_eq_true rfl) ⟨Nat.le_trans (by decide) hRf, Nat.le_trans (by decide) hRl⟩ (Nat.zero_le _) (Nat.zero_le _) (fun H locs M hEF => ?_)
  have ro_3 := hEF.2
  refine x_astore (lv' := [(4, va_rf o_3), (0, .ref a0), (1, .int x1), (2, .int x2), (3, .int x3)]) hx hb dX11_latest_8 hl (by decide) rfl (fun ls hl => ?_)
  refine x_aload hx hb dX11_latest_10 (lv_at hl 0 rfl) ?_
  refine x_ifnull (tgt := 24) hx hb dX11_latest_12 (by decide) (fun c_17 => ?_) (fun a_4 c_17 => ?_)
  · replace q := on_n c_17 q
    refine lv_iconst (v := -1) hx hb dX11_latest_24 (by decide) ?_
    cases q
    exact x_iret hx hb hr hlk M Ext.rf dX11_latest_25
  · subst c_17
    replace q := on_s rfl q
    have ra_4 := ro_3 a_4 rfl
    have hl : lv_has ls 5 [(4, .ref a_4), (0, .ref a0), (1, .int x1), (2, .int x2), (3, .int x3)] := hl
    refine lv_aload hx hb dX11_latest_15 (lv_at hl 0 rfl) ?_
    refine lv_iload_n hx hb dX11_latest_17 rfl (lv_at hl 3 rfl) ?_
    replace q := c2_s q
    obtain ⟨x_6, g_5, qc, q⟩ := q
    refine x_callV hx hb hml hl.1 hown hX M (S1 := S) (As := [.int x2]) (rest := []) okX3 ra_4 rfl kw_550 kw_551 mok_X3_reaches (c_X3_reaches ra_4 qc (Nat.le_refl 1)) kw_549 rfl rfl dX11_latest_18 (Nat.le_of_ble_eq_true rfl) ⟨Nat.le_trans (by decide) hRf, Nat.le_trans (by decide) hRl⟩ (Nat.zero_le _) (Nat.zero_le _) (fun H locs M hEF => ?_)
    refine lv_if_ne (tgt := 26) hx hb dX11_latest_21 (by decide) (fun c_7 => ?_) (fun c_7 => ?_)
    · replace q := if_f c_7 q
      refine lv_aload_n hx hb dX11_latest_26 rfl (lv_at hl 1 rfl) ?_
      replace q := nn_s q
      obtain ⟨a_8, e_a_8, q⟩ := q
      refine x_getR hx hb hown hX M e_a_8 okX11 ra0 (by decide) rfl kw_357 dX11_latest_27 (fun ra_8 => ?_)
      refine lv_aload hx hb dX11_latest_30 (lv_at hl 0 rfl) ?_
      refine lv_iload_n hx hb dX11_latest_32 rfl (lv_at hl 3 rfl) ?_
      replace q := c2_s q
      obtain ⟨u_10, g_9, qc, q⟩ := q
      refine x_callV hx hb hml hl.1 hown hX M (S1 := S) (As := [.ref a_4, .int x2]) (rest := []) okX4 ra_8 rfl kw_615 kw_616 mok_X4_read (c_X4_read ra_8 ra_4 qc (Nat.le_refl 3)) kw_614 rfl rfl dX11_latest_33 (Nat.le_of_ble_eq_true rfl) ⟨Nat.le_trans (by decide) hRf, Nat.le_trans (by decide) hRl⟩ (Nat.zero_le _) (Nat.zero_le _) (fun H locs M hEF => ?_)
      refine lv_aload_n hx hb dX11_latest_36 rfl (lv_at hl 1 rfl) ?_
      replace q := nn_s q
      obtain ⟨a_11, e_a_11, q⟩ := q
      refine x_getR hx hb hown hX M e_a_11 okX11 ra0 (by decide) rfl kw_357 dX11_latest_37 (fun ra_11 => ?_)
      refine lv_aload hx hb dX11_latest_40 (lv_at hl 0 rfl) ?_
      replace q := nn_s q
      obtain ⟨a_12, e_a_12, q⟩ := q
      refine x_getR hx hb hown hX M e_a_12 okX3 ra_4 (by decide) rfl kw_443 dX11_latest_42 (fun ra_12 => ?_)
      refine lv_iload_n hx hb dX11_latest_45 rfl (lv_at hl 4 rfl) ?_
      replace q := c2_s q
      obtain ⟨x_14, g_13, qc, q⟩ := q
      refine x_callV hx hb hml hl.1 hown hX M (S1 := S) (As := [.int x3]) (rest := [.ref a_11]) okX2 ra_12 rfl kw_507 kw_508 mok_X2_find (c_X2_find ra_12 qc (Nat.le_refl 1)) kw_637 rfl rfl dX11_latest_46 (Nat.le_of_ble_eq_true rfl) ⟨Nat.le_trans (by decide) hRf, Nat.le_trans (by decide) hRl⟩ (Nat.zero_le _) (Nat.zero_le _) (fun H locs M hEF => ?_)
      replace q := c2_s q
      obtain ⟨x_16, g_15, qc, q⟩ := q
      refine x_callV hx hb hml hl.1 hown hX M (S1 := S) (As := [.int x_14]) (rest := []) okX4 ra_11 rfl kw_639 kw_640 mok_X4_latestOf (c_X4_latestOf ra_11 qc (Nat.le_refl 1)) kw_638 rfl rfl dX11_latest_49 (Nat.le_of_ble_eq_true rfl) ⟨Nat.le_trans (by decide) hRf, Nat.le_trans (by decide) hRl⟩ (Nat.zero_le _) (Nat.zero_le _) (fun H locs M hEF => ?_)
      cases q
      exact x_iret hx hb hr hlk M Ext.rf dX11_latest_52
    · replace q := if_t c_7 q
      refine lv_iconst (v := -1) hx hb dX11_latest_24 (by decide) ?_
      cases q
      exact x_iret hx hb hr hlk M Ext.rf dX11_latest_25
set_option maxRecDepth 100000 in
theorem c_X11_latest {l : Launch} {D : va_G} {cA : Nat → ClassId} {lo tS N : Nat} {S : Hs} {g g1 : Hg} {rv : Int32} {a0 : Nat} {x1 : Int32} {x2 : Int32} {x3 : Int32} (ra0 : Rf lo S a0 11) (q : f_X11_latest N S g a0 x1 x2 x3 = some (rv, g1)) {d : Nat} (hd : 4 ≤ d) : Ctr l yX11_latest cX11_latest 5 (some .int) D cA lo tS [.ref a0, .int x1, .int x2, .int x3] S g d (some (.int rv)) S g1 True 0 0 := by
  refine x_met (by decide) (Nat.le_of_ble_eq_true rfl) ?_
  intro p e s m below meth c ls hx hb hml hr hlk hown hnm hX M hl
  exact w_X11_latest_0 hx hb hml hr hlk hown hX hd (Nat.mul_le_mul_left 60 hd) (N := N) _ _ _ _ _ _ _ _ M ra0 (lv_sub hl [0, 1, 2, 3] rfl) q
def b_X3_clear_0 (N : Nat) (S : Hs) (g : Hg) (a0 : Nat) (x1 : Int32) : Option (Unit × Hg) :=
nm (wrI g a0 6 x1) (fun g_1 =>
nm (wrI g_1 a0 7 (0 : Int32)) (fun g_2 =>
nn (rdR g_2 a0 0) (fun a_3 =>
nm (wrI g_2 a_3 3 (0 : Int32)) (fun g_4 =>
nn (rdR g_4 a0 1) (fun a_5 =>
nm (wrI g_4 a_5 3 (0 : Int32)) (fun g_6 =>
nm (wrI g_6 a0 9 (-1 : Int32)) (fun g_7 =>
some ((), g_7))))))))
def f_X3_clear (N : Nat) (S : Hs) (g : Hg) (a0 : Nat) (x1 : Int32) : Option (Unit × Hg) := b_X3_clear_0 N S g a0 x1
set_option maxHeartbeats 4000000 in
set_option maxRecDepth 100000 in
theorem w_X3_clear_0 (hx : p.tables.exec = Jvm.exec) (hb : c.code = cX3_clear) (hml : c.maxLocals = 2) (hr : meth.sig.returnType = none) (hlk : meth.locks = false) (hown : s.vm.findClass RX3 = some m.cls) (hX : Kx D cA lo tS s) (hRf : 1 ≤ R.frames) (hRl : 60 ≤ R.locals) {N : Nat} {rv : Unit} {g1 : Hg} {S : Hs} : ∀ (H : Heap) (locs : List Loc) (ls : Array Slot) (g : Hg) (a0 : Nat) (x1 : Int32), Mm D cA lo S g s H locs → Rf lo S a0 3 → lv_has ls 2 [(0, .ref a0), (1, .int x1)] → b_X3_clear_0 N S g a0 x1 = some (rv, g1) → W p l e R s m args below meth c H locs 0 0 (MQ below (Qcx D cA lo S none S g1 True) args s 0 0 (fun q : Nat => lo ≤ q)) (F0 m 0 ls []) := by
  intro H locs ls g a0 x1 M ra0 hl q
  unfold b_X3_clear_0 at q
  refine lv_aload_n hx hb dX3_clear_0 rfl (lv_at hl 0 rfl) ?_
  refine lv_iload_n hx hb dX3_clear_1 rfl (lv_at hl 1 rfl) ?_
  refine x_putI hx hb hown hX M (k := 6) okX3 ra0 (by decide) rfl (Or.inl rfl) rfl rfl kw_454 dX3_clear_2 (fun H locs M => ?_)
  replace q := gen_g M q
  obtain ⟨g_1, -, M, q⟩ := q
  refine lv_aload_n hx hb dX3_clear_5 rfl (lv_at hl 0 rfl) ?_
  refine lv_iconst (v := 0) hx hb dX3_clear_6 (by decide) ?_
  refine x_putI hx hb hown hX M (k := 7) okX3 ra0 (by decide) rfl (Or.inl rfl) rfl rfl kw_457 dX3_clear_7 (fun H locs M => ?_)
  replace q := gen_g M q
  obtain ⟨g_2, -, M, q⟩ := q
  refine lv_aload_n hx hb dX3_clear_10 rfl (lv_at hl 0 rfl) ?_
  replace q := nn_s q
  obtain ⟨a_3, e_a_3, q⟩ := q
  refine x_getR hx hb hown hX M e_a_3 okX3 ra0 (by decide) rfl kw_440 dX3_clear_11 (fun ra_3 => ?_)
  refine lv_iconst (v := 0) hx hb dX3_clear_14 (by decide) ?_
  refine x_putI hx hb hown hX M (k := 3) okX2 ra_3 (by decide) rfl (Or.inl rfl) rfl rfl kw_404 dX3_clear_15 (fun H locs M => ?_)
  replace q := gen_g M q
  obtain ⟨g_4, -, M, q⟩ := q
  refine lv_aload_n hx hb dX3_clear_18 rfl (lv_at hl 0 rfl) ?_
  replace q := nn_s q
  obtain ⟨a_5, e_a_5, q⟩ := q
  refine x_getR hx hb hown hX M e_a_5 okX3 ra0 (by decide) rfl kw_444 dX3_clear_19 (fun ra_5 => ?_)
  refine lv_iconst (v := 0) hx hb dX3_clear_22 (by decide) ?_
  refine x_putI hx hb hown hX M (k := 3) okX5 ra_5 (by decide) rfl (Or.inl rfl) rfl rfl kw_428 dX3_clear_23 (fun H locs M => ?_)
  replace q := gen_g M q
  obtain ⟨g_6, -, M, q⟩ := q
  refine lv_aload_n hx hb dX3_clear_26 rfl (lv_at hl 0 rfl) ?_
  refine lv_iconst (v := -1) hx hb dX3_clear_27 (by decide) ?_
  refine x_putI hx hb hown hX M (k := 9) okX3 ra0 (by decide) rfl (Or.inl rfl) rfl rfl kw_463 dX3_clear_28 (fun H locs M => ?_)
  replace q := gen_g M q
  obtain ⟨g_7, -, M, q⟩ := q
  cases q
  exact x_vret hx hb hr hlk M Ext.rf dX3_clear_31
set_option maxRecDepth 100000 in
theorem c_X3_clear {l : Launch} {D : va_G} {cA : Nat → ClassId} {lo tS N : Nat} {S : Hs} {g g1 : Hg} {rv : Unit} {a0 : Nat} {x1 : Int32} (ra0 : Rf lo S a0 3) (q : f_X3_clear N S g a0 x1 = some (rv, g1)) {d : Nat} (hd : 1 ≤ d) : Ctr l yX3_clear cX3_clear 2 none D cA lo tS [.ref a0, .int x1] S g d none S g1 True 0 0 := by
  refine x_met (by decide) (Nat.le_of_ble_eq_true rfl) ?_
  intro p e s m below meth c ls hx hb hml hr hlk hown hnm hX M hl
  exact w_X3_clear_0 hx hb hml hr hlk hown hX hd (Nat.mul_le_mul_left 60 hd) (N := N) _ _ _ _ _ _ M ra0 (lv_sub hl [0, 1] rfl) q
def b_X11_open_0 (N : Nat) (S : Hs) (g : Hg) (a0 : Nat) (x1 : Int32) : Option (Int32 × Hs × Hg × Nat × Nat) :=
if x1 < 0 then (
some ((-1 : Int32), S, g, 0, 0)) else (
if x1 < (4 : Int32) then (
nn (rdR g a0 3) (fun a_3 =>
c5 (f_X1_nextLog N S g a_3) (fun o_5 S_6 g_4 =>
on o_5 (
some ((-1 : Int32), S_6, g_4, 0, 0)) (fun a_11 =>
c2 (f_X3_clear N S_6 g_4 a_11 x1) (fun u_13 g_12 =>
nn (rdR g_12 a0 3) (fun a_14 =>
some (((rdI g_12 a_14 1) - (1 : Int32)), S_6, g_12, 0, 0))))))) else (
some ((-1 : Int32), S, g, 0, 0)))
def f_X11_open (N : Nat) (S : Hs) (g : Hg) (a0 : Nat) (x1 : Int32) : Option (Int32 × Hs × Hg × Nat × Nat) := b_X11_open_0 N S g a0 x1
set_option maxHeartbeats 4000000 in
set_option maxRecDepth 100000 in
theorem w_X11_open_0 (hx : p.tables.exec = Jvm.exec) (hb : c.code = cX11_open) (hml : c.maxLocals = 3) (hr : meth.sig.returnType = (some .int)) (hlk : meth.locks = false) (hown : s.vm.findClass RX11 = some m.cls) (hX : Kx D cA lo tS s) (hRf : 4 ≤ R.frames) (hRl : 240 ≤ R.locals) {N : Nat} {rv : Int32} {g1 : Hg} {S0 S1 : Hs} {cT wT : Nat} (hRc : cT ≤ R.cells) (hRs : wT ≤ R.slots) : ∀ (H : Heap) (locs : List Loc) (ls : Array Slot) (cells slots k w : Nat) (S : Hs) (g : Hg) (a0 : Nat) (x1 : Int32), Mm D cA lo S g s H locs → Ext lo S0 S → Rf lo S a0 11 → lv_has ls 3 [(0, .ref a0), (1, .int x1)] → b_X11_open_0 N S g a0 x1 = some (rv, S1, g1, k, w) → cells + k = cT → slots + w = wT → W p l e R s m args below meth c H locs cells slots (MQ below (Qcx D cA lo S0 (some (.int rv)) S1 g1 True) args s cT wT (fun q : Nat => lo ≤ q)) (F0 m 0 ls []) := by
  intro H locs ls cells slots k w S g a0 x1 M hE ra0 hl q hc hs
  unfold b_X11_open_0 at q
  refine lv_iload_n hx hb dX11_open_0 rfl (lv_at hl 1 rfl) ?_
  refine lv_if_lt (tgt := 9) hx hb dX11_open_1 (by decide) (fun c_1 => ?_) (fun c_1 => ?_)
  · replace q := if_t c_1 q
    refine lv_iconst (v := -1) hx hb dX11_open_9 (by decide) ?_
    cases q
    have hc : cells = cT := hc
    have hs : slots = wT := hs
    subst hc
    subst hs
    exact x_iret hx hb hr hlk M hE dX11_open_10
  · replace q := if_f c_1 q
    refine lv_iload_n hx hb dX11_open_4 rfl (lv_at hl 1 rfl) ?_
    refine lv_iconst (v := 4) hx hb dX11_open_5 (by decide) ?_
    refine lv_icmp_lt (tgt := 11) hx hb dX11_open_6 (by decide) (fun c_2 => ?_) (fun c_2 => ?_)
    · replace q := if_t c_2 q
      refine lv_aload_n hx hb dX11_open_11 rfl (lv_at hl 0 rfl) ?_
      replace q := nn_s q
      obtain ⟨a_3, e_a_3, q⟩ := q
      refine x_getR hx hb hown hX M e_a_3 okX11 ra0 (by decide) rfl kw_359 dX11_open_12 (fun ra_3 => ?_)
      replace q := c5_s q
      obtain ⟨o_5, S_6, g_4, k_7, w_8, k_9, w_10, qc, ek, ew, q⟩ := q
      refine x_callV hx hb hml hl.1 hown hX M (As := []) (rest := []) okX1 ra_3 rfl kw_383 kw_384 mok_X1_nextLog (c_X1_nextLog ra_3 qc (Nat.le_refl 3)) kw_382 rfl rfl dX11_open_15 (Nat.le_of_ble_eq_true rfl) ⟨Nat.le_trans (by decide) hRf, Nat.le_trans (by decide) hRl⟩ (hb_step hc ek hRc) (hb_step hs ew hRs) (fun H locs M hEF => ?_)
      have ro_5 := hEF.2
      replace ra0 := ra0.ext hEF.1
      replace hE := hE.tr hEF.1
      replace hc := hc_step hc ek
      replace hs := hc_step hs ew
      clear ek ew
      refine x_astore_n (lv' := [(2, va_rf o_5), (0, .ref a0), (1, .int x1)]) hx hb dX11_open_18 rfl hl (by decide) rfl (fun ls hl => ?_)
      refine x_aload_n hx hb dX11_open_19 rfl (lv_at hl 0 rfl) ?_
      refine x_ifnonnull (tgt := 25) hx hb dX11_open_20 (by decide) (fun a_11 c_15 => ?_) (fun c_15 => ?_)
      · subst c_15
        replace q := on_s rfl q
        have ra_11 := ro_5 a_11 rfl
        have hl : lv_has ls 3 [(2, .ref a_11), (0, .ref a0), (1, .int x1)] := hl
        refine lv_aload_n hx hb dX11_open_25 rfl (lv_at hl 0 rfl) ?_
        refine lv_iload_n hx hb dX11_open_26 rfl (lv_at hl 2 rfl) ?_
        replace q := c2_s q
        obtain ⟨u_13, g_12, qc, q⟩ := q
        refine x_callV hx hb hml hl.1 hown hX M (S1 := S_6) (As := [.int x1]) (rest := []) okX3 ra_11 rfl kw_487 kw_488 mok_X3_clear (c_X3_clear ra_11 qc (Nat.le_refl 1)) kw_486 rfl rfl dX11_open_27 (Nat.le_of_ble_eq_true rfl) ⟨Nat.le_trans (by decide) hRf, Nat.le_trans (by decide) hRl⟩ (hz_step hc hRc) (hz_step hs hRs) (fun H locs M hEF => ?_)
        refine lv_aload_n hx hb dX11_open_30 rfl (lv_at hl 1 rfl) ?_
        replace q := nn_s q
        obtain ⟨a_14, e_a_14, q⟩ := q
        refine x_getR hx hb hown hX M e_a_14 okX11 ra0 (by decide) rfl kw_359 dX11_open_31 (fun ra_14 => ?_)
        refine x_getI hx hb hown hX M (k := 1) okX1 ra_14 (by decide) rfl kw_321 dX11_open_34 ?_
        refine lv_iconst (v := 1) hx hb dX11_open_37 (by decide) ?_
        refine lv_isub hx hb dX11_open_38 ?_
        cases q
        have hc : cells + k_7 = cT := hc
        have hs : slots + w_8 = wT := hs
        subst hc
        subst hs
        exact x_iret hx hb hr hlk M hE dX11_open_39
      · replace q := on_n c_15 q
        refine lv_iconst (v := -1) hx hb dX11_open_23 (by decide) ?_
        cases q
        have hc : cells + k_7 = cT := hc
        have hs : slots + w_8 = wT := hs
        subst hc
        subst hs
        exact x_iret hx hb hr hlk M hE dX11_open_24
    · replace q := if_f c_2 q
      refine lv_iconst (v := -1) hx hb dX11_open_9 (by decide) ?_
      cases q
      have hc : cells = cT := hc
      have hs : slots = wT := hs
      subst hc
      subst hs
      exact x_iret hx hb hr hlk M hE dX11_open_10
set_option maxRecDepth 100000 in
theorem c_X11_open {l : Launch} {D : va_G} {cA : Nat → ClassId} {lo tS N : Nat} {S S1 : Hs} {g g1 : Hg} {k w : Nat} {rv : Int32} {a0 : Nat} {x1 : Int32} (ra0 : Rf lo S a0 11) (q : f_X11_open N S g a0 x1 = some (rv, S1, g1, k, w)) {d : Nat} (hd : 4 ≤ d) : Ctr l yX11_open cX11_open 3 (some .int) D cA lo tS [.ref a0, .int x1] S g d (some (.int rv)) S1 g1 True k w := by
  refine x_met (by decide) (Nat.le_of_ble_eq_true rfl) ?_
  intro p e s m below meth c ls hx hb hml hr hlk hown hnm hX M hl
  exact w_X11_open_0 hx hb hml hr hlk hown hX hd (Nat.mul_le_mul_left 60 hd) (N := N) (Nat.le_refl k) (Nat.le_refl w) _ _ _ _ _ _ _ _ _ _ _ M Ext.rf ra0 (lv_sub hl [0, 1] rfl) q (Nat.zero_add k) (Nat.zero_add w)
def b_X7_toldKey_0 (N : Nat) (S : Hs) (g : Hg) (a0 : Nat) : Option (Int32 × Hg) :=
if (rdI g a0 3) ≤ 0 then (
some ((rdI g a0 9), g)) else (
nn (rdR g a0 0) (fun a_2 =>
ck (inb (0 : Int32) (hpL S a_2)) (
some ((rdI g a_2 (0 : Int32).toNatClampNeg), g))))
def f_X7_toldKey (N : Nat) (S : Hs) (g : Hg) (a0 : Nat) : Option (Int32 × Hg) := b_X7_toldKey_0 N S g a0
set_option maxHeartbeats 4000000 in
set_option maxRecDepth 100000 in
theorem w_X7_toldKey_0 (hx : p.tables.exec = Jvm.exec) (hb : c.code = cX7_toldKey) (hml : c.maxLocals = 1) (hr : meth.sig.returnType = (some .int)) (hlk : meth.locks = false) (hown : s.vm.findClass RX7 = some m.cls) (hX : Kx D cA lo tS s) (hRf : 1 ≤ R.frames) (hRl : 60 ≤ R.locals) {N : Nat} {rv : Int32} {g1 : Hg} {S : Hs} : ∀ (H : Heap) (locs : List Loc) (ls : Array Slot) (g : Hg) (a0 : Nat), Mm D cA lo S g s H locs → Rf lo S a0 7 → lv_has ls 1 [(0, .ref a0)] → b_X7_toldKey_0 N S g a0 = some (rv, g1) → W p l e R s m args below meth c H locs 0 0 (MQ below (Qcx D cA lo S (some (.int rv)) S g1 True) args s 0 0 (fun q : Nat => lo ≤ q)) (F0 m 0 ls []) := by
  intro H locs ls g a0 M ra0 hl q
  unfold b_X7_toldKey_0 at q
  refine lv_aload_n hx hb dX7_toldKey_0 rfl (lv_at hl 0 rfl) ?_
  refine x_getI hx hb hown hX M (k := 3) okX7 ra0 (by decide) rfl kw_189 dX7_toldKey_1 ?_
  refine lv_if_le (tgt := 16) hx hb dX7_toldKey_4 (by decide) (fun c_1 => ?_) (fun c_1 => ?_)
  · replace q := if_t c_1 q
    refine lv_aload_n hx hb dX7_toldKey_16 rfl (lv_at hl 0 rfl) ?_
    refine x_getI hx hb hown hX M (k := 9) okX7 ra0 (by decide) rfl kw_207 dX7_toldKey_17 ?_
    cases q
    exact x_iret hx hb hr hlk M Ext.rf dX7_toldKey_20
  · replace q := if_f c_1 q
    refine lv_aload_n hx hb dX7_toldKey_7 rfl (lv_at hl 0 rfl) ?_
    replace q := nn_s q
    obtain ⟨a_2, e_a_2, q⟩ := q
    refine x_getR hx hb hown hX M e_a_2 okX7 ra0 (by decide) rfl kw_180 dX7_toldKey_8 (fun ra_2 => ?_)
    refine lv_iconst (v := 0) hx hb dX7_toldKey_11 (by decide) ?_
    replace q := ck_s q
    obtain ⟨hin, q⟩ := q
    refine x_iald hx hb hX M ra_2 (inb_in hin) dX7_toldKey_12 ?_
    refine lv_goto (tgt := 20) hx hb dX7_toldKey_13 (by decide) ?_
    cases q
    exact x_iret hx hb hr hlk M Ext.rf dX7_toldKey_20
set_option maxRecDepth 100000 in
theorem c_X7_toldKey {l : Launch} {D : va_G} {cA : Nat → ClassId} {lo tS N : Nat} {S : Hs} {g g1 : Hg} {rv : Int32} {a0 : Nat} (ra0 : Rf lo S a0 7) (q : f_X7_toldKey N S g a0 = some (rv, g1)) {d : Nat} (hd : 1 ≤ d) : Ctr l yX7_toldKey cX7_toldKey 1 (some .int) D cA lo tS [.ref a0] S g d (some (.int rv)) S g1 True 0 0 := by
  refine x_met (by decide) (Nat.le_of_ble_eq_true rfl) ?_
  intro p e s m below meth c ls hx hb hml hr hlk hown hnm hX M hl
  exact w_X7_toldKey_0 hx hb hml hr hlk hown hX hd (Nat.mul_le_mul_left 60 hd) (N := N) _ _ _ _ _ M ra0 (lv_sub hl [0] rfl) q
end W8
