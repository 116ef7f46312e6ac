section W18
variable {p : Program} {l : Launch} {e : Env} {R : Room} {s : State} {m : MethodId} {args : Array Value} {below : List Frame} {meth : Method} {c : Code} {D : va_G} {cA : Nat → ClassId} {lo tS : Nat}
def b_X12_init_472 (N : Nat) (S : Hs) (g : Hg) (a0 : Nat) : Option (Unit × Hs × Hg × Nat × Nat) :=
ck (lenok (8 : Int32)) (
al S g 20 (8 : Int32).toNatClampNeg (fun a_6 S_1 g_2 =>
nm (wrR g_2 a0 61 (some a_6)) (fun g_7 =>
ck (lenok (8 : Int32)) (
al S_1 g_7 20 (8 : Int32).toNatClampNeg (fun a_13 S_8 g_9 =>
nm (wrR g_9 a0 64 (some a_13)) (fun g_14 =>
ck (lenok (8 : Int32)) (
al S_8 g_14 20 (8 : Int32).toNatClampNeg (fun a_20 S_15 g_16 =>
nm (wrR g_16 a0 65 (some a_20)) (fun g_21 =>
some ((), S_15, g_21, 0, 0))))))))))
def b_X12_init_420 (N : Nat) (S : Hs) (g : Hg) (a0 : Nat) : Option (Unit × Hs × Hg × Nat × Nat) :=
ck (lenok (3200 : Int32)) (
al S g 20 (3200 : Int32).toNatClampNeg (fun a_6 S_1 g_2 =>
nm (wrR g_2 a0 54 (some a_6)) (fun g_7 =>
ck (lenok (400 : Int32)) (
al S_1 g_7 20 (400 : Int32).toNatClampNeg (fun a_13 S_8 g_9 =>
nm (wrR g_9 a0 55 (some a_13)) (fun g_14 =>
ck (lenok (400 : Int32)) (
al S_8 g_14 20 (400 : Int32).toNatClampNeg (fun a_20 S_15 g_16 =>
nm (wrR g_16 a0 56 (some a_20)) (fun g_21 =>
ck (lenok (4160 : Int32)) (
al S_15 g_21 20 (4160 : Int32).toNatClampNeg (fun a_27 S_22 g_23 =>
nm (wrR g_23 a0 58 (some a_27)) (fun g_28 =>
ck (lenok (28 : Int32)) (
al S_22 g_28 20 (28 : Int32).toNatClampNeg (fun a_34 S_29 g_30 =>
nm (wrR g_30 a0 59 (some a_34)) (fun g_35 =>
ck (lenok (8 : Int32)) (
al S_29 g_35 20 (8 : Int32).toNatClampNeg (fun a_41 S_36 g_37 =>
nm (wrR g_37 a0 60 (some a_41)) (fun g_42 =>
b_X12_init_472 N S_36 g_42 a0))))))))))))))))))
def b_X12_init_369 (N : Nat) (S : Hs) (g : Hg) (a0 : Nat) : Option (Unit × Hs × Hg × Nat × Nat) :=
ck (lenok (64 : Int32)) (
al S g 20 (64 : Int32).toNatClampNeg (fun a_6 S_1 g_2 =>
nm (wrR g_2 a0 47 (some a_6)) (fun g_7 =>
ck (lenok (512 : Int32)) (
al S_1 g_7 20 (512 : Int32).toNatClampNeg (fun a_13 S_8 g_9 =>
nm (wrR g_9 a0 48 (some a_13)) (fun g_14 =>
ck (lenok (8 : Int32)) (
al S_8 g_14 20 (8 : Int32).toNatClampNeg (fun a_20 S_15 g_16 =>
nm (wrR g_16 a0 50 (some a_20)) (fun g_21 =>
ck (lenok (8 : Int32)) (
al S_15 g_21 20 (8 : Int32).toNatClampNeg (fun a_27 S_22 g_23 =>
nm (wrR g_23 a0 51 (some a_27)) (fun g_28 =>
ck (lenok (400 : Int32)) (
al S_22 g_28 20 (400 : Int32).toNatClampNeg (fun a_34 S_29 g_30 =>
nm (wrR g_30 a0 52 (some a_34)) (fun g_35 =>
ck (lenok (400 : Int32)) (
al S_29 g_35 20 (400 : Int32).toNatClampNeg (fun a_41 S_36 g_37 =>
nm (wrR g_37 a0 53 (some a_41)) (fun g_42 =>
b_X12_init_420 N S_36 g_42 a0))))))))))))))))))
def b_X12_init_318 (N : Nat) (S : Hs) (g : Hg) (a0 : Nat) : Option (Unit × Hs × Hg × Nat × Nat) :=
ck (lenok (3200 : Int32)) (
al S g 20 (3200 : Int32).toNatClampNeg (fun a_6 S_1 g_2 =>
nm (wrR g_2 a0 41 (some a_6)) (fun g_7 =>
ck (lenok (3200 : Int32)) (
al S_1 g_7 20 (3200 : Int32).toNatClampNeg (fun a_13 S_8 g_9 =>
nm (wrR g_9 a0 42 (some a_13)) (fun g_14 =>
ck (lenok (24 : Int32)) (
al S_8 g_14 20 (24 : Int32).toNatClampNeg (fun a_20 S_15 g_16 =>
nm (wrR g_16 a0 43 (some a_20)) (fun g_21 =>
ck (lenok (8 : Int32)) (
al S_15 g_21 20 (8 : Int32).toNatClampNeg (fun a_27 S_22 g_23 =>
nm (wrR g_23 a0 44 (some a_27)) (fun g_28 =>
ck (lenok (256 : Int32)) (
al S_22 g_28 20 (256 : Int32).toNatClampNeg (fun a_34 S_29 g_30 =>
nm (wrR g_30 a0 45 (some a_34)) (fun g_35 =>
ck (lenok (64 : Int32)) (
al S_29 g_35 20 (64 : Int32).toNatClampNeg (fun a_41 S_36 g_37 =>
nm (wrR g_37 a0 46 (some a_41)) (fun g_42 =>
b_X12_init_369 N S_36 g_42 a0))))))))))))))))))
def b_X12_init_268 (N : Nat) (S : Hs) (g : Hg) (a0 : Nat) : Option (Unit × Hs × Hg × Nat × Nat) :=
ck (lenok (32768 : Int32)) (
al S g 20 (32768 : Int32).toNatClampNeg (fun a_6 S_1 g_2 =>
nm (wrR g_2 a0 34 (some a_6)) (fun g_7 =>
ck (lenok (336 : Int32)) (
al S_1 g_7 20 (336 : Int32).toNatClampNeg (fun a_13 S_8 g_9 =>
nm (wrR g_9 a0 35 (some a_13)) (fun g_14 =>
ck (lenok (12 : Int32)) (
al S_8 g_14 22 (12 : Int32).toNatClampNeg (fun a_20 S_15 g_16 =>
nm (wrR g_16 a0 36 (some a_20)) (fun g_21 =>
ck (lenok (3360 : Int32)) (
al S_15 g_21 20 (3360 : Int32).toNatClampNeg (fun a_27 S_22 g_23 =>
nm (wrR g_23 a0 37 (some a_27)) (fun g_28 =>
ck (lenok (40 : Int32)) (
al S_22 g_28 20 (40 : Int32).toNatClampNeg (fun a_34 S_29 g_30 =>
nm (wrR g_30 a0 39 (some a_34)) (fun g_35 =>
ck (lenok (8 : Int32)) (
al S_29 g_35 22 (8 : Int32).toNatClampNeg (fun a_41 S_36 g_37 =>
nm (wrR g_37 a0 40 (some a_41)) (fun g_42 =>
b_X12_init_318 N S_36 g_42 a0))))))))))))))))))
def b_X12_init_214 (N : Nat) (S : Hs) (g : Hg) (a0 : Nat) : Option (Unit × Hs × Hg × Nat × Nat) :=
ck (lenok (600 : Int32)) (
al S g 20 (600 : Int32).toNatClampNeg (fun a_6 S_1 g_2 =>
nm (wrR g_2 a0 28 (some a_6)) (fun g_7 =>
ck (lenok (600 : Int32)) (
al S_1 g_7 20 (600 : Int32).toNatClampNeg (fun a_13 S_8 g_9 =>
nm (wrR g_9 a0 29 (some a_13)) (fun g_14 =>
ck (lenok (600 : Int32)) (
al S_8 g_14 22 (600 : Int32).toNatClampNeg (fun a_20 S_15 g_16 =>
nm (wrR g_16 a0 30 (some a_20)) (fun g_21 =>
ck (lenok (128 : Int32)) (
al S_15 g_21 20 (128 : Int32).toNatClampNeg (fun a_27 S_22 g_23 =>
nm (wrR g_23 a0 31 (some a_27)) (fun g_28 =>
ck (lenok (640 : Int32)) (
al S_22 g_28 20 (640 : Int32).toNatClampNeg (fun a_34 S_29 g_30 =>
nm (wrR g_30 a0 32 (some a_34)) (fun g_35 =>
ck (lenok (640 : Int32)) (
al S_29 g_35 21 (640 : Int32).toNatClampNeg (fun a_41 S_36 g_37 =>
nm (wrR g_37 a0 33 (some a_41)) (fun g_42 =>
b_X12_init_268 N S_36 g_42 a0))))))))))))))))))
def b_X12_init_161 (N : Nat) (S : Hs) (g : Hg) (a0 : Nat) : Option (Unit × Hs × Hg × Nat × Nat) :=
ck (lenok (3200 : Int32)) (
al S g 20 (3200 : Int32).toNatClampNeg (fun a_6 S_1 g_2 =>
nm (wrR g_2 a0 20 (some a_6)) (fun g_7 =>
ck (lenok (24 : Int32)) (
al S_1 g_7 20 (24 : Int32).toNatClampNeg (fun a_13 S_8 g_9 =>
nm (wrR g_9 a0 22 (some a_13)) (fun g_14 =>
ck (lenok (2400 : Int32)) (
al S_8 g_14 20 (2400 : Int32).toNatClampNeg (fun a_20 S_15 g_16 =>
nm (wrR g_16 a0 24 (some a_20)) (fun g_21 =>
ck (lenok (2400 : Int32)) (
al S_15 g_21 21 (2400 : Int32).toNatClampNeg (fun a_27 S_22 g_23 =>
nm (wrR g_23 a0 25 (some a_27)) (fun g_28 =>
ck (lenok (2400 : Int32)) (
al S_22 g_28 22 (2400 : Int32).toNatClampNeg (fun a_34 S_29 g_30 =>
nm (wrR g_30 a0 26 (some a_34)) (fun g_35 =>
ck (lenok (2400 : Int32)) (
al S_29 g_35 22 (2400 : Int32).toNatClampNeg (fun a_41 S_36 g_37 =>
nm (wrR g_37 a0 27 (some a_41)) (fun g_42 =>
b_X12_init_214 N S_36 g_42 a0))))))))))))))))))
def b_X12_init_110 (N : Nat) (S : Hs) (g : Hg) (a0 : Nat) : Option (Unit × Hs × Hg × Nat × Nat) :=
ck (lenok (336 : Int32)) (
al S g 20 (336 : Int32).toNatClampNeg (fun a_6 S_1 g_2 =>
nm (wrR g_2 a0 13 (some a_6)) (fun g_7 =>
ck (lenok (12 : Int32)) (
al S_1 g_7 22 (12 : Int32).toNatClampNeg (fun a_13 S_8 g_9 =>
nm (wrR g_9 a0 14 (some a_13)) (fun g_14 =>
ck (lenok (3360 : Int32)) (
al S_8 g_14 20 (3360 : Int32).toNatClampNeg (fun a_20 S_15 g_16 =>
nm (wrR g_16 a0 15 (some a_20)) (fun g_21 =>
ck (lenok (40 : Int32)) (
al S_15 g_21 20 (40 : Int32).toNatClampNeg (fun a_27 S_22 g_23 =>
nm (wrR g_23 a0 17 (some a_27)) (fun g_28 =>
ck (lenok (8 : Int32)) (
al S_22 g_28 22 (8 : Int32).toNatClampNeg (fun a_34 S_29 g_30 =>
nm (wrR g_30 a0 18 (some a_34)) (fun g_35 =>
ck (lenok (3200 : Int32)) (
al S_29 g_35 20 (3200 : Int32).toNatClampNeg (fun a_41 S_36 g_37 =>
nm (wrR g_37 a0 19 (some a_41)) (fun g_42 =>
b_X12_init_161 N S_36 g_42 a0))))))))))))))))))
def b_X12_init_57 (N : Nat) (S : Hs) (g : Hg) (a0 : Nat) : Option (Unit × Hs × Hg × Nat × Nat) :=
ck (lenok (600 : Int32)) (
al S g 20 (600 : Int32).toNatClampNeg (fun a_6 S_1 g_2 =>
nm (wrR g_2 a0 7 (some a_6)) (fun g_7 =>
ck (lenok (600 : Int32)) (
al S_1 g_7 22 (600 : Int32).toNatClampNeg (fun a_13 S_8 g_9 =>
nm (wrR g_9 a0 8 (some a_13)) (fun g_14 =>
ck (lenok (128 : Int32)) (
al S_8 g_14 20 (128 : Int32).toNatClampNeg (fun a_20 S_15 g_16 =>
nm (wrR g_16 a0 9 (some a_20)) (fun g_21 =>
ck (lenok (640 : Int32)) (
al S_15 g_21 20 (640 : Int32).toNatClampNeg (fun a_27 S_22 g_23 =>
nm (wrR g_23 a0 10 (some a_27)) (fun g_28 =>
ck (lenok (640 : Int32)) (
al S_22 g_28 21 (640 : Int32).toNatClampNeg (fun a_34 S_29 g_30 =>
nm (wrR g_30 a0 11 (some a_34)) (fun g_35 =>
ck (lenok (32768 : Int32)) (
al S_29 g_35 20 (32768 : Int32).toNatClampNeg (fun a_41 S_36 g_37 =>
nm (wrR g_37 a0 12 (some a_41)) (fun g_42 =>
b_X12_init_110 N S_36 g_42 a0))))))))))))))))))
def b_X12_init_0 (N : Nat) (S : Hs) (g : Hg) (a0 : Nat) : Option (Unit × Hs × Hg × Nat × Nat) :=
ck (lenok (24 : Int32)) (
al S g 20 (24 : Int32).toNatClampNeg (fun a_6 S_1 g_2 =>
nm (wrR g_2 a0 0 (some a_6)) (fun g_7 =>
ck (lenok (2400 : Int32)) (
al S_1 g_7 20 (2400 : Int32).toNatClampNeg (fun a_13 S_8 g_9 =>
nm (wrR g_9 a0 2 (some a_13)) (fun g_14 =>
ck (lenok (2400 : Int32)) (
al S_8 g_14 21 (2400 : Int32).toNatClampNeg (fun a_20 S_15 g_16 =>
nm (wrR g_16 a0 3 (some a_20)) (fun g_21 =>
ck (lenok (2400 : Int32)) (
al S_15 g_21 22 (2400 : Int32).toNatClampNeg (fun a_27 S_22 g_23 =>
nm (wrR g_23 a0 4 (some a_27)) (fun g_28 =>
ck (lenok (2400 : Int32)) (
al S_22 g_28 22 (2400 : Int32).toNatClampNeg (fun a_34 S_29 g_30 =>
nm (wrR g_30 a0 5 (some a_34)) (fun g_35 =>
ck (lenok (600 : Int32)) (
al S_29 g_35 20 (600 : Int32).toNatClampNeg (fun a_41 S_36 g_37 =>
nm (wrR g_37 a0 6 (some a_41)) (fun g_42 =>
b_X12_init_57 N S_36 g_42 a0))))))))))))))))))
def f_X12_init (N : Nat) (S : Hs) (g : Hg) (a0 : Nat) : Option (Unit × Hs × Hg × Nat × Nat) := b_X12_init_0 N S g a0
set_option maxHeartbeats 4000000 in
set_option maxRecDepth 100000 in
theorem w_X12_init_472 (hx : p.tables.exec = Jvm.exec) (hb : c.code = cX12_init) (hml : c.maxLocals = 1) (hr : meth.sig.returnType = none) (hlk : meth.locks = false) (hown : s.vm.findClass RX12 = some m.cls) (hX : Kx D cA lo tS s) (hRf : 1 ≤ R.frames) (hRl : 60 ≤ R.locals) (hnm : meth.name = "<init>") {N : Nat} {rv : Unit} {g1 : Hg} {S0 S1 : Hs} {cT wT : Nat} (hRc : cT ≤ R.cells) (hRs : wT ≤ R.slots) : ∀ (H : Heap) (locs : List Loc) (ls : Array Slot) (cells slots k w : Nat) (S : Hs) (g : Hg) (a0 : Nat), Mm D cA lo S g s H locs → Ext lo S0 S → Rf lo S a0 12 → lv_has ls 1 [(0, .ref a0)] → b_X12_init_472 N S g a0 = some (rv, S1, g1, k, w) → cells + k = cT → slots + w = wT → W p l e R s m args below meth c H locs cells slots (MQ below (Qcx D cA lo S0 none S1 g1 True) args s cT wT (fun q : Nat => lo ≤ q)) (F0 m 472 ls []) := by
  intro H locs ls cells slots k w S g a0 M hE ra0 hl q hc hs
  unfold b_X12_init_472 at q
  refine lv_aload_n hx hb dX12_init_472 rfl (lv_at hl 0 rfl) ?_
  refine lv_bipush (v := 8) hx hb dX12_init_473 (by decide) ?_
  replace q := ck_s q
  obtain ⟨hz, q⟩ := q
  replace q := al_s q
  obtain ⟨S_1, g_2, k_3, w_4, eS, eg, ek, ew, q⟩ := q
  refine x_newa20 hx hb hX M hz (hb_step hc ek hRc) (hb_step hs ew hRs) dX12_init_475 (fun H M rn_5 hE1 => ?_)
  rw [← eS, ← eg] at M
  rw [← eS] at rn_5 hE1
  clear eS eg
  replace ra0 := ra0.ext hE1
  replace hE := hE.tr hE1
  replace hc := hc_step hc ek
  replace hs := hc_step hs ew
  clear ek ew
  refine x_putR hx hb hown hX M (k := 61) (K1 := 20) okX12 ra0 (by decide) rfl rn_5 (Or.inr ⟨rfl, hnm, rfl⟩) rfl rfl kw_1073 dX12_init_477 (fun H locs M => ?_)
  replace q := gen_g M q
  obtain ⟨g_7, -, M, q⟩ := q
  refine lv_aload_n hx hb dX12_init_480 rfl (lv_at hl 0 rfl) ?_
  refine lv_bipush (v := 8) hx hb dX12_init_481 (by decide) ?_
  replace q := ck_s q
  obtain ⟨hz, q⟩ := q
  replace q := al_s q
  obtain ⟨S_8, g_9, k_10, w_11, eS, eg, ek, ew, q⟩ := q
  refine x_newa20 hx hb hX M hz (hb_step hc ek hRc) (hb_step hs ew hRs) dX12_init_483 (fun H M rn_12 hE1 => ?_)
  rw [← eS, ← eg] at M
  rw [← eS] at rn_12 hE1
  clear eS eg
  replace ra0 := ra0.ext hE1
  replace hE := hE.tr hE1
  replace hc := hc_step hc ek
  replace hs := hc_step hs ew
  clear ek ew
  refine x_putR hx hb hown hX M (k := 64) (K1 := 20) okX12 ra0 (by decide) rfl rn_12 (Or.inr ⟨rfl, hnm, rfl⟩) rfl rfl kw_1076 dX12_init_485 (fun H locs M => ?_)
  replace q := gen_g M q
  obtain ⟨g_14, -, M, q⟩ := q
  refine lv_aload_n hx hb dX12_init_488 rfl (lv_at hl 0 rfl) ?_
  refine lv_bipush (v := 8) hx hb dX12_init_489 (by decide) ?_
  replace q := ck_s q
  obtain ⟨hz, q⟩ := q
  replace q := al_s q
  obtain ⟨S_15, g_16, k_17, w_18, eS, eg, ek, ew, q⟩ := q
  refine x_newa20 hx hb hX M hz (hb_step hc ek hRc) (hb_step hs ew hRs) dX12_init_491 (fun H M rn_19 hE1 => ?_)
  rw [← eS, ← eg] at M
  rw [← eS] at rn_19 hE1
  clear eS eg
  replace ra0 := ra0.ext hE1
  replace hE := hE.tr hE1
  replace hc := hc_step hc ek
  replace hs := hc_step hs ew
  clear ek ew
  refine x_putR hx hb hown hX M (k := 65) (K1 := 20) okX12 ra0 (by decide) rfl rn_19 (Or.inr ⟨rfl, hnm, rfl⟩) rfl rfl kw_1077 dX12_init_493 (fun H locs M => ?_)
  replace q := gen_g M q
  obtain ⟨g_21, -, M, q⟩ := q
  cases q
  have hc : cells + 1 + 1 + 1 = cT := hc
  have hs : slots + (8 : Int32).toNatClampNeg + (8 : Int32).toNatClampNeg + (8 : Int32).toNatClampNeg = wT := hs
  subst hc
  subst hs
  exact x_vret hx hb hr hlk M hE dX12_init_496
set_option maxHeartbeats 4000000 in
set_option maxRecDepth 100000 in
theorem w_X12_init_420 (hx : p.tables.exec = Jvm.exec) (hb : c.code = cX12_init) (hml : c.maxLocals = 1) (hr : meth.sig.returnType = none) (hlk : meth.locks = false) (hown : s.vm.findClass RX12 = some m.cls) (hX : Kx D cA lo tS s) (hRf : 1 ≤ R.frames) (hRl : 60 ≤ R.locals) (hnm : meth.name = "<init>") {N : Nat} {rv : Unit} {g1 : Hg} {S0 S1 : Hs} {cT wT : Nat} (hRc : cT ≤ R.cells) (hRs : wT ≤ R.slots) : ∀ (H : Heap) (locs : List Loc) (ls : Array Slot) (cells slots k w : Nat) (S : Hs) (g : Hg) (a0 : Nat), Mm D cA lo S g s H locs → Ext lo S0 S → Rf lo S a0 12 → lv_has ls 1 [(0, .ref a0)] → b_X12_init_420 N S g a0 = some (rv, S1, g1, k, w) → cells + k = cT → slots + w = wT → W p l e R s m args below meth c H locs cells slots (MQ below (Qcx D cA lo S0 none S1 g1 True) args s cT wT (fun q : Nat => lo ≤ q)) (F0 m 420 ls []) := by
  intro H locs ls cells slots k w S g a0 M hE ra0 hl q hc hs
  unfold b_X12_init_420 at q
  refine lv_aload_n hx hb dX12_init_420 rfl (lv_at hl 0 rfl) ?_
  refine lv_sipush (v := 3200) hx hb dX12_init_421 (by decide) ?_
  replace q := ck_s q
  obtain ⟨hz, q⟩ := q
  replace q := al_s q
  obtain ⟨S_1, g_2, k_3, w_4, eS, eg, ek, ew, q⟩ := q
  refine x_newa20 hx hb hX M hz (hb_step hc ek hRc) (hb_step hs ew hRs) dX12_init_424 (fun H M rn_5 hE1 => ?_)
  rw [← eS, ← eg] at M
  rw [← eS] at rn_5 hE1
  clear eS eg
  replace ra0 := ra0.ext hE1
  replace hE := hE.tr hE1
  replace hc := hc_step hc ek
  replace hs := hc_step hs ew
  clear ek ew
  refine x_putR hx hb hown hX M (k := 54) (K1 := 20) okX12 ra0 (by decide) rfl rn_5 (Or.inr ⟨rfl, hnm, rfl⟩) rfl rfl kw_1066 dX12_init_426 (fun H locs M => ?_)
  replace q := gen_g M q
  obtain ⟨g_7, -, M, q⟩ := q
  refine lv_aload_n hx hb dX12_init_429 rfl (lv_at hl 0 rfl) ?_
  refine lv_sipush (v := 400) hx hb dX12_init_430 (by decide) ?_
  replace q := ck_s q
  obtain ⟨hz, q⟩ := q
  replace q := al_s q
  obtain ⟨S_8, g_9, k_10, w_11, eS, eg, ek, ew, q⟩ := q
  refine x_newa20 hx hb hX M hz (hb_step hc ek hRc) (hb_step hs ew hRs) dX12_init_433 (fun H M rn_12 hE1 => ?_)
  rw [← eS, ← eg] at M
  rw [← eS] at rn_12 hE1
  clear eS eg
  replace ra0 := ra0.ext hE1
  replace hE := hE.tr hE1
  replace hc := hc_step hc ek
  replace hs := hc_step hs ew
  clear ek ew
  refine x_putR hx hb hown hX M (k := 55) (K1 := 20) okX12 ra0 (by decide) rfl rn_12 (Or.inr ⟨rfl, hnm, rfl⟩) rfl rfl kw_1067 dX12_init_435 (fun H locs M => ?_)
  replace q := gen_g M q
  obtain ⟨g_14, -, M, q⟩ := q
  refine lv_aload_n hx hb dX12_init_438 rfl (lv_at hl 0 rfl) ?_
  refine lv_sipush (v := 400) hx hb dX12_init_439 (by decide) ?_
  replace q := ck_s q
  obtain ⟨hz, q⟩ := q
  replace q := al_s q
  obtain ⟨S_15, g_16, k_17, w_18, eS, eg, ek, ew, q⟩ := q
  refine x_newa20 hx hb hX M hz (hb_step hc ek hRc) (hb_step hs ew hRs) dX12_init_442 (fun H M rn_19 hE1 => ?_)
  rw [← eS, ← eg] at M
  rw [← eS] at rn_19 hE1
  clear eS eg
  replace ra0 := ra0.ext hE1
  replace hE := hE.tr hE1
  replace hc := hc_step hc ek
  replace hs := hc_step hs ew
  clear ek ew
  refine x_putR hx hb hown hX M (k := 56) (K1 := 20) okX12 ra0 (by decide) rfl rn_19 (Or.inr ⟨rfl, hnm, rfl⟩) rfl rfl kw_1068 dX12_init_444 (fun H locs M => ?_)
  replace q := gen_g M q
  obtain ⟨g_21, -, M, q⟩ := q
  refine lv_aload_n hx hb dX12_init_447 rfl (lv_at hl 0 rfl) ?_
  refine lv_sipush (v := 4160) hx hb dX12_init_448 (by decide) ?_
  replace q := ck_s q
  obtain ⟨hz, q⟩ := q
  replace q := al_s q
  obtain ⟨S_22, g_23, k_24, w_25, eS, eg, ek, ew, q⟩ := q
  refine x_newa20 hx hb hX M hz (hb_step hc ek hRc) (hb_step hs ew hRs) dX12_init_451 (fun H M rn_26 hE1 => ?_)
  rw [← eS, ← eg] at M
  rw [← eS] at rn_26 hE1
  clear eS eg
  replace ra0 := ra0.ext hE1
  replace hE := hE.tr hE1
  replace hc := hc_step hc ek
  replace hs := hc_step hs ew
  clear ek ew
  refine x_putR hx hb hown hX M (k := 58) (K1 := 20) okX12 ra0 (by decide) rfl rn_26 (Or.inr ⟨rfl, hnm, rfl⟩) rfl rfl kw_1070 dX12_init_453 (fun H locs M => ?_)
  replace q := gen_g M q
  obtain ⟨g_28, -, M, q⟩ := q
  refine lv_aload_n hx hb dX12_init_456 rfl (lv_at hl 0 rfl) ?_
  refine lv_bipush (v := 28) hx hb dX12_init_457 (by decide) ?_
  replace q := ck_s q
  obtain ⟨hz, q⟩ := q
  replace q := al_s q
  obtain ⟨S_29, g_30, k_31, w_32, eS, eg, ek, ew, q⟩ := q
  refine x_newa20 hx hb hX M hz (hb_step hc ek hRc) (hb_step hs ew hRs) dX12_init_459 (fun H M rn_33 hE1 => ?_)
  rw [← eS, ← eg] at M
  rw [← eS] at rn_33 hE1
  clear eS eg
  replace ra0 := ra0.ext hE1
  replace hE := hE.tr hE1
  replace hc := hc_step hc ek
  replace hs := hc_step hs ew
  clear ek ew
  refine x_putR hx hb hown hX M (k := 59) (K1 := 20) okX12 ra0 (by decide) rfl rn_33 (Or.inr ⟨rfl, hnm, rfl⟩) rfl rfl kw_1071 dX12_init_461 (fun H locs M => ?_)
  replace q := gen_g M q
  obtain ⟨g_35, -, M, q⟩ := q
  refine lv_aload_n hx hb dX12_init_464 rfl (lv_at hl 0 rfl) ?_
  refine lv_bipush (v := 8) hx hb dX12_init_465 (by decide) ?_
  replace q := ck_s q
  obtain ⟨hz, q⟩ := q
  replace q := al_s q
  obtain ⟨S_36, g_37, k_38, w_39, eS, eg, ek, ew, q⟩ := q
  refine x_newa20 hx hb hX M hz (hb_step hc ek hRc) (hb_step hs ew hRs) dX12_init_467 (fun H M rn_40 hE1 => ?_)
  rw [← eS, ← eg] at M
  rw [← eS] at rn_40 hE1
  clear eS eg
  replace ra0 := ra0.ext hE1
  replace hE := hE.tr hE1
  replace hc := hc_step hc ek
  replace hs := hc_step hs ew
  clear ek ew
  refine x_putR hx hb hown hX M (k := 60) (K1 := 20) okX12 ra0 (by decide) rfl rn_40 (Or.inr ⟨rfl, hnm, rfl⟩) rfl rfl kw_1072 dX12_init_469 (fun H locs M => ?_)
  replace q := gen_g M q
  obtain ⟨g_42, -, M, q⟩ := q
  exact w_X12_init_472 hx hb hml hr hlk hown hX hRf hRl (N := N) hnm hRc hRs  _ _ _ _ _ _ _ _ _ _ M hE ra0 (lv_sub hl [0] rfl) q hc hs
set_option maxHeartbeats 4000000 in
set_option maxRecDepth 100000 in
theorem w_X12_init_369 (hx : p.tables.exec = Jvm.exec) (hb : c.code = cX12_init) (hml : c.maxLocals = 1) (hr : meth.sig.returnType = none) (hlk : meth.locks = false) (hown : s.vm.findClass RX12 = some m.cls) (hX : Kx D cA lo tS s) (hRf : 1 ≤ R.frames) (hRl : 60 ≤ R.locals) (hnm : meth.name = "<init>") {N : Nat} {rv : Unit} {g1 : Hg} {S0 S1 : Hs} {cT wT : Nat} (hRc : cT ≤ R.cells) (hRs : wT ≤ R.slots) : ∀ (H : Heap) (locs : List Loc) (ls : Array Slot) (cells slots k w : Nat) (S : Hs) (g : Hg) (a0 : Nat), Mm D cA lo S g s H locs → Ext lo S0 S → Rf lo S a0 12 → lv_has ls 1 [(0, .ref a0)] → b_X12_init_369 N S g a0 = some (rv, S1, g1, k, w) → cells + k = cT → slots + w = wT → W p l e R s m args below meth c H locs cells slots (MQ below (Qcx D cA lo S0 none S1 g1 True) args s cT wT (fun q : Nat => lo ≤ q)) (F0 m 369 ls []) := by
  intro H locs ls cells slots k w S g a0 M hE ra0 hl q hc hs
  unfold b_X12_init_369 at q
  refine lv_aload_n hx hb dX12_init_369 rfl (lv_at hl 0 rfl) ?_
  refine lv_bipush (v := 64) hx hb dX12_init_370 (by decide) ?_
  replace q := ck_s q
  obtain ⟨hz, q⟩ := q
  replace q := al_s q
  obtain ⟨S_1, g_2, k_3, w_4, eS, eg, ek, ew, q⟩ := q
  refine x_newa20 hx hb hX M hz (hb_step hc ek hRc) (hb_step hs ew hRs) dX12_init_372 (fun H M rn_5 hE1 => ?_)
  rw [← eS, ← eg] at M
  rw [← eS] at rn_5 hE1
  clear eS eg
  replace ra0 := ra0.ext hE1
  replace hE := hE.tr hE1
  replace hc := hc_step hc ek
  replace hs := hc_step hs ew
  clear ek ew
  refine x_putR hx hb hown hX M (k := 47) (K1 := 20) okX12 ra0 (by decide) rfl rn_5 (Or.inr ⟨rfl, hnm, rfl⟩) rfl rfl kw_1059 dX12_init_374 (fun H locs M => ?_)
  replace q := gen_g M q
  obtain ⟨g_7, -, M, q⟩ := q
  refine lv_aload_n hx hb dX12_init_377 rfl (lv_at hl 0 rfl) ?_
  refine lv_sipush (v := 512) hx hb dX12_init_378 (by decide) ?_
  replace q := ck_s q
  obtain ⟨hz, q⟩ := q
  replace q := al_s q
  obtain ⟨S_8, g_9, k_10, w_11, eS, eg, ek, ew, q⟩ := q
  refine x_newa20 hx hb hX M hz (hb_step hc ek hRc) (hb_step hs ew hRs) dX12_init_381 (fun H M rn_12 hE1 => ?_)
  rw [← eS, ← eg] at M
  rw [← eS] at rn_12 hE1
  clear eS eg
  replace ra0 := ra0.ext hE1
  replace hE := hE.tr hE1
  replace hc := hc_step hc ek
  replace hs := hc_step hs ew
  clear ek ew
  refine x_putR hx hb hown hX M (k := 48) (K1 := 20) okX12 ra0 (by decide) rfl rn_12 (Or.inr ⟨rfl, hnm, rfl⟩) rfl rfl kw_1060 dX12_init_383 (fun H locs M => ?_)
  replace q := gen_g M q
  obtain ⟨g_14, -, M, q⟩ := q
  refine lv_aload_n hx hb dX12_init_386 rfl (lv_at hl 0 rfl) ?_
  refine lv_bipush (v := 8) hx hb dX12_init_387 (by decide) ?_
  replace q := ck_s q
  obtain ⟨hz, q⟩ := q
  replace q := al_s q
  obtain ⟨S_15, g_16, k_17, w_18, eS, eg, ek, ew, q⟩ := q
  refine x_newa20 hx hb hX M hz (hb_step hc ek hRc) (hb_step hs ew hRs) dX12_init_389 (fun H M rn_19 hE1 => ?_)
  rw [← eS, ← eg] at M
  rw [← eS] at rn_19 hE1
  clear eS eg
  replace ra0 := ra0.ext hE1
  replace hE := hE.tr hE1
  replace hc := hc_step hc ek
  replace hs := hc_step hs ew
  clear ek ew
  refine x_putR hx hb hown hX M (k := 50) (K1 := 20) okX12 ra0 (by decide) rfl rn_19 (Or.inr ⟨rfl, hnm, rfl⟩) rfl rfl kw_1062 dX12_init_391 (fun H locs M => ?_)
  replace q := gen_g M q
  obtain ⟨g_21, -, M, q⟩ := q
  refine lv_aload_n hx hb dX12_init_394 rfl (lv_at hl 0 rfl) ?_
  refine lv_bipush (v := 8) hx hb dX12_init_395 (by decide) ?_
  replace q := ck_s q
  obtain ⟨hz, q⟩ := q
  replace q := al_s q
  obtain ⟨S_22, g_23, k_24, w_25, eS, eg, ek, ew, q⟩ := q
  refine x_newa20 hx hb hX M hz (hb_step hc ek hRc) (hb_step hs ew hRs) dX12_init_397 (fun H M rn_26 hE1 => ?_)
  rw [← eS, ← eg] at M
  rw [← eS] at rn_26 hE1
  clear eS eg
  replace ra0 := ra0.ext hE1
  replace hE := hE.tr hE1
  replace hc := hc_step hc ek
  replace hs := hc_step hs ew
  clear ek ew
  refine x_putR hx hb hown hX M (k := 51) (K1 := 20) okX12 ra0 (by decide) rfl rn_26 (Or.inr ⟨rfl, hnm, rfl⟩) rfl rfl kw_1063 dX12_init_399 (fun H locs M => ?_)
  replace q := gen_g M q
  obtain ⟨g_28, -, M, q⟩ := q
  refine lv_aload_n hx hb dX12_init_402 rfl (lv_at hl 0 rfl) ?_
  refine lv_sipush (v := 400) hx hb dX12_init_403 (by decide) ?_
  replace q := ck_s q
  obtain ⟨hz, q⟩ := q
  replace q := al_s q
  obtain ⟨S_29, g_30, k_31, w_32, eS, eg, ek, ew, q⟩ := q
  refine x_newa20 hx hb hX M hz (hb_step hc ek hRc) (hb_step hs ew hRs) dX12_init_406 (fun H M rn_33 hE1 => ?_)
  rw [← eS, ← eg] at M
  rw [← eS] at rn_33 hE1
  clear eS eg
  replace ra0 := ra0.ext hE1
  replace hE := hE.tr hE1
  replace hc := hc_step hc ek
  replace hs := hc_step hs ew
  clear ek ew
  refine x_putR hx hb hown hX M (k := 52) (K1 := 20) okX12 ra0 (by decide) rfl rn_33 (Or.inr ⟨rfl, hnm, rfl⟩) rfl rfl kw_1064 dX12_init_408 (fun H locs M => ?_)
  replace q := gen_g M q
  obtain ⟨g_35, -, M, q⟩ := q
  refine lv_aload_n hx hb dX12_init_411 rfl (lv_at hl 0 rfl) ?_
  refine lv_sipush (v := 400) hx hb dX12_init_412 (by decide) ?_
  replace q := ck_s q
  obtain ⟨hz, q⟩ := q
  replace q := al_s q
  obtain ⟨S_36, g_37, k_38, w_39, eS, eg, ek, ew, q⟩ := q
  refine x_newa20 hx hb hX M hz (hb_step hc ek hRc) (hb_step hs ew hRs) dX12_init_415 (fun H M rn_40 hE1 => ?_)
  rw [← eS, ← eg] at M
  rw [← eS] at rn_40 hE1
  clear eS eg
  replace ra0 := ra0.ext hE1
  replace hE := hE.tr hE1
  replace hc := hc_step hc ek
  replace hs := hc_step hs ew
  clear ek ew
  refine x_putR hx hb hown hX M (k := 53) (K1 := 20) okX12 ra0 (by decide) rfl rn_40 (Or.inr ⟨rfl, hnm, rfl⟩) rfl rfl kw_1065 dX12_init_417 (fun H locs M => ?_)
  replace q := gen_g M q
  obtain ⟨g_42, -, M, q⟩ := q
  exact w_X12_init_420 hx hb hml hr hlk hown hX hRf hRl (N := N) hnm hRc hRs  _ _ _ _ _ _ _ _ _ _ M hE ra0 (lv_sub hl [0] rfl) q hc hs
set_option maxHeartbeats 4000000 in
set_option maxRecDepth 100000 in
theorem w_X12_init_318 (hx : p.tables.exec = Jvm.exec) (hb : c.code = cX12_init) (hml : c.maxLocals = 1) (hr : meth.sig.returnType = none) (hlk : meth.locks = false) (hown : s.vm.findClass RX12 = some m.cls) (hX : Kx D cA lo tS s) (hRf : 1 ≤ R.frames) (hRl : 60 ≤ R.locals) (hnm : meth.name = "<init>") {N : Nat} {rv : Unit} {g1 : Hg} {S0 S1 : Hs} {cT wT : Nat} (hRc : cT ≤ R.cells) (hRs : wT ≤ R.slots) : ∀ (H : Heap) (locs : List Loc) (ls : Array Slot) (cells slots k w : Nat) (S : Hs) (g : Hg) (a0 : Nat), Mm D cA lo S g s H locs → Ext lo S0 S → Rf lo S a0 12 → lv_has ls 1 [(0, .ref a0)] → b_X12_init_318 N S g a0 = some (rv, S1, g1, k, w) → cells + k = cT → slots + w = wT → W p l e R s m args below meth c H locs cells slots (MQ below (Qcx D cA lo S0 none S1 g1 True) args s cT wT (fun q : Nat => lo ≤ q)) (F0 m 318 ls []) := by
  intro H locs ls cells slots k w S g a0 M hE ra0 hl q hc hs
  unfold b_X12_init_318 at q
  refine lv_aload_n hx hb dX12_init_318 rfl (lv_at hl 0 rfl) ?_
  refine lv_sipush (v := 3200) hx hb dX12_init_319 (by decide) ?_
  replace q := ck_s q
  obtain ⟨hz, q⟩ := q
  replace q := al_s q
  obtain ⟨S_1, g_2, k_3, w_4, eS, eg, ek, ew, q⟩ := q
  refine x_newa20 hx hb hX M hz (hb_step hc ek hRc) (hb_step hs ew hRs) dX12_init_322 (fun H M rn_5 hE1 => ?_)
  rw [← eS, ← eg] at M
  rw [← eS] at rn_5 hE1
  clear eS eg
  replace ra0 := ra0.ext hE1
  replace hE := hE.tr hE1
  replace hc := hc_step hc ek
  replace hs := hc_step hs ew
  clear ek ew
  refine x_putR hx hb hown hX M (k := 41) (K1 := 20) okX12 ra0 (by decide) rfl rn_5 (Or.inr ⟨rfl, hnm, rfl⟩) rfl rfl kw_1053 dX12_init_324 (fun H locs M => ?_)
  replace q := gen_g M q
  obtain ⟨g_7, -, M, q⟩ := q
  refine lv_aload_n hx hb dX12_init_327 rfl (lv_at hl 0 rfl) ?_
  refine lv_sipush (v := 3200) hx hb dX12_init_328 (by decide) ?_
  replace q := ck_s q
  obtain ⟨hz, q⟩ := q
  replace q := al_s q
  obtain ⟨S_8, g_9, k_10, w_11, eS, eg, ek, ew, q⟩ := q
  refine x_newa20 hx hb hX M hz (hb_step hc ek hRc) (hb_step hs ew hRs) dX12_init_331 (fun H M rn_12 hE1 => ?_)
  rw [← eS, ← eg] at M
  rw [← eS] at rn_12 hE1
  clear eS eg
  replace ra0 := ra0.ext hE1
  replace hE := hE.tr hE1
  replace hc := hc_step hc ek
  replace hs := hc_step hs ew
  clear ek ew
  refine x_putR hx hb hown hX M (k := 42) (K1 := 20) okX12 ra0 (by decide) rfl rn_12 (Or.inr ⟨rfl, hnm, rfl⟩) rfl rfl kw_1054 dX12_init_333 (fun H locs M => ?_)
  replace q := gen_g M q
  obtain ⟨g_14, -, M, q⟩ := q
  refine lv_aload_n hx hb dX12_init_336 rfl (lv_at hl 0 rfl) ?_
  refine lv_bipush (v := 24) hx hb dX12_init_337 (by decide) ?_
  replace q := ck_s q
  obtain ⟨hz, q⟩ := q
  replace q := al_s q
  obtain ⟨S_15, g_16, k_17, w_18, eS, eg, ek, ew, q⟩ := q
  refine x_newa20 hx hb hX M hz (hb_step hc ek hRc) (hb_step hs ew hRs) dX12_init_339 (fun H M rn_19 hE1 => ?_)
  rw [← eS, ← eg] at M
  rw [← eS] at rn_19 hE1
  clear eS eg
  replace ra0 := ra0.ext hE1
  replace hE := hE.tr hE1
  replace hc := hc_step hc ek
  replace hs := hc_step hs ew
  clear ek ew
  refine x_putR hx hb hown hX M (k := 43) (K1 := 20) okX12 ra0 (by decide) rfl rn_19 (Or.inr ⟨rfl, hnm, rfl⟩) rfl rfl kw_1055 dX12_init_341 (fun H locs M => ?_)
  replace q := gen_g M q
  obtain ⟨g_21, -, M, q⟩ := q
  refine lv_aload_n hx hb dX12_init_344 rfl (lv_at hl 0 rfl) ?_
  refine lv_bipush (v := 8) hx hb dX12_init_345 (by decide) ?_
  replace q := ck_s q
  obtain ⟨hz, q⟩ := q
  replace q := al_s q
  obtain ⟨S_22, g_23, k_24, w_25, eS, eg, ek, ew, q⟩ := q
  refine x_newa20 hx hb hX M hz (hb_step hc ek hRc) (hb_step hs ew hRs) dX12_init_347 (fun H M rn_26 hE1 => ?_)
  rw [← eS, ← eg] at M
  rw [← eS] at rn_26 hE1
  clear eS eg
  replace ra0 := ra0.ext hE1
  replace hE := hE.tr hE1
  replace hc := hc_step hc ek
  replace hs := hc_step hs ew
  clear ek ew
  refine x_putR hx hb hown hX M (k := 44) (K1 := 20) okX12 ra0 (by decide) rfl rn_26 (Or.inr ⟨rfl, hnm, rfl⟩) rfl rfl kw_1056 dX12_init_349 (fun H locs M => ?_)
  replace q := gen_g M q
  obtain ⟨g_28, -, M, q⟩ := q
  refine lv_aload_n hx hb dX12_init_352 rfl (lv_at hl 0 rfl) ?_
  refine lv_sipush (v := 256) hx hb dX12_init_353 (by decide) ?_
  replace q := ck_s q
  obtain ⟨hz, q⟩ := q
  replace q := al_s q
  obtain ⟨S_29, g_30, k_31, w_32, eS, eg, ek, ew, q⟩ := q
  refine x_newa20 hx hb hX M hz (hb_step hc ek hRc) (hb_step hs ew hRs) dX12_init_356 (fun H M rn_33 hE1 => ?_)
  rw [← eS, ← eg] at M
  rw [← eS] at rn_33 hE1
  clear eS eg
  replace ra0 := ra0.ext hE1
  replace hE := hE.tr hE1
  replace hc := hc_step hc ek
  replace hs := hc_step hs ew
  clear ek ew
  refine x_putR hx hb hown hX M (k := 45) (K1 := 20) okX12 ra0 (by decide) rfl rn_33 (Or.inr ⟨rfl, hnm, rfl⟩) rfl rfl kw_1057 dX12_init_358 (fun H locs M => ?_)
  replace q := gen_g M q
  obtain ⟨g_35, -, M, q⟩ := q
  refine lv_aload_n hx hb dX12_init_361 rfl (lv_at hl 0 rfl) ?_
  refine lv_bipush (v := 64) hx hb dX12_init_362 (by decide) ?_
  replace q := ck_s q
  obtain ⟨hz, q⟩ := q
  replace q := al_s q
  obtain ⟨S_36, g_37, k_38, w_39, eS, eg, ek, ew, q⟩ := q
  refine x_newa20 hx hb hX M hz (hb_step hc ek hRc) (hb_step hs ew hRs) dX12_init_364 (fun H M rn_40 hE1 => ?_)
  rw [← eS, ← eg] at M
  rw [← eS] at rn_40 hE1
  clear eS eg
  replace ra0 := ra0.ext hE1
  replace hE := hE.tr hE1
  replace hc := hc_step hc ek
  replace hs := hc_step hs ew
  clear ek ew
  refine x_putR hx hb hown hX M (k := 46) (K1 := 20) okX12 ra0 (by decide) rfl rn_40 (Or.inr ⟨rfl, hnm, rfl⟩) rfl rfl kw_1058 dX12_init_366 (fun H locs M => ?_)
  replace q := gen_g M q
  obtain ⟨g_42, -, M, q⟩ := q
  exact w_X12_init_369 hx hb hml hr hlk hown hX hRf hRl (N := N) hnm hRc hRs  _ _ _ _ _ _ _ _ _ _ M hE ra0 (lv_sub hl [0] rfl) q hc hs
set_option maxHeartbeats 4000000 in
set_option maxRecDepth 100000 in
theorem w_X12_init_268 (hx : p.tables.exec = Jvm.exec) (hb : c.code = cX12_init) (hml : c.maxLocals = 1) (hr : meth.sig.returnType = none) (hlk : meth.locks = false) (hown : s.vm.findClass RX12 = some m.cls) (hX : Kx D cA lo tS s) (hRf : 1 ≤ R.frames) (hRl : 60 ≤ R.locals) (hnm : meth.name = "<init>") {N : Nat} {rv : Unit} {g1 : Hg} {S0 S1 : Hs} {cT wT : Nat} (hRc : cT ≤ R.cells) (hRs : wT ≤ R.slots) : ∀ (H : Heap) (locs : List Loc) (ls : Array Slot) (cells slots k w : Nat) (S : Hs) (g : Hg) (a0 : Nat), Mm D cA lo S g s H locs → Ext lo S0 S → Rf lo S a0 12 → lv_has ls 1 [(0, .ref a0)] → b_X12_init_268 N S g a0 = some (rv, S1, g1, k, w) → cells + k = cT → slots + w = wT → W p l e R s m args below meth c H locs cells slots (MQ below (Qcx D cA lo S0 none S1 g1 True) args s cT wT (fun q : Nat => lo ≤ q)) (F0 m 268 ls []) := by
  intro H locs ls cells slots k w S g a0 M hE ra0 hl q hc hs
  unfold b_X12_init_268 at q
  refine lv_aload_n hx hb dX12_init_268 rfl (lv_at hl 0 rfl) ?_
  refine lv_ldc (v := 32768) hx hb hown (hX.hts _ _ (mw kw_1011 rfl)) dX12_init_269 ?_
  replace q := ck_s q
  obtain ⟨hz, q⟩ := q
  replace q := al_s q
  obtain ⟨S_1, g_2, k_3, w_4, eS, eg, ek, ew, q⟩ := q
  refine x_newa20 hx hb hX M hz (hb_step hc ek hRc) (hb_step hs ew hRs) dX12_init_271 (fun H M rn_5 hE1 => ?_)
  rw [← eS, ← eg] at M
  rw [← eS] at rn_5 hE1
  clear eS eg
  replace ra0 := ra0.ext hE1
  replace hE := hE.tr hE1
  replace hc := hc_step hc ek
  replace hs := hc_step hs ew
  clear ek ew
  refine x_putR hx hb hown hX M (k := 34) (K1 := 20) okX12 ra0 (by decide) rfl rn_5 (Or.inr ⟨rfl, hnm, rfl⟩) rfl rfl kw_1046 dX12_init_273 (fun H locs M => ?_)
  replace q := gen_g M q
  obtain ⟨g_7, -, M, q⟩ := q
  refine lv_aload_n hx hb dX12_init_276 rfl (lv_at hl 0 rfl) ?_
  refine lv_sipush (v := 336) hx hb dX12_init_277 (by decide) ?_
  replace q := ck_s q
  obtain ⟨hz, q⟩ := q
  replace q := al_s q
  obtain ⟨S_8, g_9, k_10, w_11, eS, eg, ek, ew, q⟩ := q
  refine x_newa20 hx hb hX M hz (hb_step hc ek hRc) (hb_step hs ew hRs) dX12_init_280 (fun H M rn_12 hE1 => ?_)
  rw [← eS, ← eg] at M
  rw [← eS] at rn_12 hE1
  clear eS eg
  replace ra0 := ra0.ext hE1
  replace hE := hE.tr hE1
  replace hc := hc_step hc ek
  replace hs := hc_step hs ew
  clear ek ew
  refine x_putR hx hb hown hX M (k := 35) (K1 := 20) okX12 ra0 (by decide) rfl rn_12 (Or.inr ⟨rfl, hnm, rfl⟩) rfl rfl kw_1047 dX12_init_282 (fun H locs M => ?_)
  replace q := gen_g M q
  obtain ⟨g_14, -, M, q⟩ := q
  refine lv_aload_n hx hb dX12_init_285 rfl (lv_at hl 0 rfl) ?_
  refine lv_bipush (v := 12) hx hb dX12_init_286 (by decide) ?_
  replace q := ck_s q
  obtain ⟨hz, q⟩ := q
  replace q := al_s q
  obtain ⟨S_15, g_16, k_17, w_18, eS, eg, ek, ew, q⟩ := q
  refine x_newa22 hx hb hX M hz (hb_step hc ek hRc) (hb_step hs ew hRs) dX12_init_288 (fun H M rn_19 hE1 => ?_)
  rw [← eS, ← eg] at M
  rw [← eS] at rn_19 hE1
  clear eS eg
  replace ra0 := ra0.ext hE1
  replace hE := hE.tr hE1
  replace hc := hc_step hc ek
  replace hs := hc_step hs ew
  clear ek ew
  refine x_putR hx hb hown hX M (k := 36) (K1 := 22) okX12 ra0 (by decide) rfl rn_19 (Or.inr ⟨rfl, hnm, rfl⟩) rfl rfl kw_1048 dX12_init_290 (fun H locs M => ?_)
  replace q := gen_g M q
  obtain ⟨g_21, -, M, q⟩ := q
  refine lv_aload_n hx hb dX12_init_293 rfl (lv_at hl 0 rfl) ?_
  refine lv_sipush (v := 3360) hx hb dX12_init_294 (by decide) ?_
  replace q := ck_s q
  obtain ⟨hz, q⟩ := q
  replace q := al_s q
  obtain ⟨S_22, g_23, k_24, w_25, eS, eg, ek, ew, q⟩ := q
  refine x_newa20 hx hb hX M hz (hb_step hc ek hRc) (hb_step hs ew hRs) dX12_init_297 (fun H M rn_26 hE1 => ?_)
  rw [← eS, ← eg] at M
  rw [← eS] at rn_26 hE1
  clear eS eg
  replace ra0 := ra0.ext hE1
  replace hE := hE.tr hE1
  replace hc := hc_step hc ek
  replace hs := hc_step hs ew
  clear ek ew
  refine x_putR hx hb hown hX M (k := 37) (K1 := 20) okX12 ra0 (by decide) rfl rn_26 (Or.inr ⟨rfl, hnm, rfl⟩) rfl rfl kw_1049 dX12_init_299 (fun H locs M => ?_)
  replace q := gen_g M q
  obtain ⟨g_28, -, M, q⟩ := q
  refine lv_aload_n hx hb dX12_init_302 rfl (lv_at hl 0 rfl) ?_
  refine lv_bipush (v := 40) hx hb dX12_init_303 (by decide) ?_
  replace q := ck_s q
  obtain ⟨hz, q⟩ := q
  replace q := al_s q
  obtain ⟨S_29, g_30, k_31, w_32, eS, eg, ek, ew, q⟩ := q
  refine x_newa20 hx hb hX M hz (hb_step hc ek hRc) (hb_step hs ew hRs) dX12_init_305 (fun H M rn_33 hE1 => ?_)
  rw [← eS, ← eg] at M
  rw [← eS] at rn_33 hE1
  clear eS eg
  replace ra0 := ra0.ext hE1
  replace hE := hE.tr hE1
  replace hc := hc_step hc ek
  replace hs := hc_step hs ew
  clear ek ew
  refine x_putR hx hb hown hX M (k := 39) (K1 := 20) okX12 ra0 (by decide) rfl rn_33 (Or.inr ⟨rfl, hnm, rfl⟩) rfl rfl kw_1051 dX12_init_307 (fun H locs M => ?_)
  replace q := gen_g M q
  obtain ⟨g_35, -, M, q⟩ := q
  refine lv_aload_n hx hb dX12_init_310 rfl (lv_at hl 0 rfl) ?_
  refine lv_bipush (v := 8) hx hb dX12_init_311 (by decide) ?_
  replace q := ck_s q
  obtain ⟨hz, q⟩ := q
  replace q := al_s q
  obtain ⟨S_36, g_37, k_38, w_39, eS, eg, ek, ew, q⟩ := q
  refine x_newa22 hx hb hX M hz (hb_step hc ek hRc) (hb_step hs ew hRs) dX12_init_313 (fun H M rn_40 hE1 => ?_)
  rw [← eS, ← eg] at M
  rw [← eS] at rn_40 hE1
  clear eS eg
  replace ra0 := ra0.ext hE1
  replace hE := hE.tr hE1
  replace hc := hc_step hc ek
  replace hs := hc_step hs ew
  clear ek ew
  refine x_putR hx hb hown hX M (k := 40) (K1 := 22) okX12 ra0 (by decide) rfl rn_40 (Or.inr ⟨rfl, hnm, rfl⟩) rfl rfl kw_1052 dX12_init_315 (fun H locs M => ?_)
  replace q := gen_g M q
  obtain ⟨g_42, -, M, q⟩ := q
  exact w_X12_init_318 hx hb hml hr hlk hown hX hRf hRl (N := N) hnm hRc hRs  _ _ _ _ _ _ _ _ _ _ M hE ra0 (lv_sub hl [0] rfl) q hc hs
set_option maxHeartbeats 4000000 in
set_option maxRecDepth 100000 in
theorem w_X12_init_214 (hx : p.tables.exec = Jvm.exec) (hb : c.code = cX12_init) (hml : c.maxLocals = 1) (hr : meth.sig.returnType = none) (hlk : meth.locks = false) (hown : s.vm.findClass RX12 = some m.cls) (hX : Kx D cA lo tS s) (hRf : 1 ≤ R.frames) (hRl : 60 ≤ R.locals) (hnm : meth.name = "<init>") {N : Nat} {rv : Unit} {g1 : Hg} {S0 S1 : Hs} {cT wT : Nat} (hRc : cT ≤ R.cells) (hRs : wT ≤ R.slots) : ∀ (H : Heap) (locs : List Loc) (ls : Array Slot) (cells slots k w : Nat) (S : Hs) (g : Hg) (a0 : Nat), Mm D cA lo S g s H locs → Ext lo S0 S → Rf lo S a0 12 → lv_has ls 1 [(0, .ref a0)] → b_X12_init_214 N S g a0 = some (rv, S1, g1, k, w) → cells + k = cT → slots + w = wT → W p l e R s m args below meth c H locs cells slots (MQ below (Qcx D cA lo S0 none S1 g1 True) args s cT wT (fun q : Nat => lo ≤ q)) (F0 m 214 ls []) := by
  intro H locs ls cells slots k w S g a0 M hE ra0 hl q hc hs
  unfold b_X12_init_214 at q
  refine lv_aload_n hx hb dX12_init_214 rfl (lv_at hl 0 rfl) ?_
  refine lv_sipush (v := 600) hx hb dX12_init_215 (by decide) ?_
  replace q := ck_s q
  obtain ⟨hz, q⟩ := q
  replace q := al_s q
  obtain ⟨S_1, g_2, k_3, w_4, eS, eg, ek, ew, q⟩ := q
  refine x_newa20 hx hb hX M hz (hb_step hc ek hRc) (hb_step hs ew hRs) dX12_init_218 (fun H M rn_5 hE1 => ?_)
  rw [← eS, ← eg] at M
  rw [← eS] at rn_5 hE1
  clear eS eg
  replace ra0 := ra0.ext hE1
  replace hE := hE.tr hE1
  replace hc := hc_step hc ek
  replace hs := hc_step hs ew
  clear ek ew
  refine x_putR hx hb hown hX M (k := 28) (K1 := 20) okX12 ra0 (by decide) rfl rn_5 (Or.inr ⟨rfl, hnm, rfl⟩) rfl rfl kw_1040 dX12_init_220 (fun H locs M => ?_)
  replace q := gen_g M q
  obtain ⟨g_7, -, M, q⟩ := q
  refine lv_aload_n hx hb dX12_init_223 rfl (lv_at hl 0 rfl) ?_
  refine lv_sipush (v := 600) hx hb dX12_init_224 (by decide) ?_
  replace q := ck_s q
  obtain ⟨hz, q⟩ := q
  replace q := al_s q
  obtain ⟨S_8, g_9, k_10, w_11, eS, eg, ek, ew, q⟩ := q
  refine x_newa20 hx hb hX M hz (hb_step hc ek hRc) (hb_step hs ew hRs) dX12_init_227 (fun H M rn_12 hE1 => ?_)
  rw [← eS, ← eg] at M
  rw [← eS] at rn_12 hE1
  clear eS eg
  replace ra0 := ra0.ext hE1
  replace hE := hE.tr hE1
  replace hc := hc_step hc ek
  replace hs := hc_step hs ew
  clear ek ew
  refine x_putR hx hb hown hX M (k := 29) (K1 := 20) okX12 ra0 (by decide) rfl rn_12 (Or.inr ⟨rfl, hnm, rfl⟩) rfl rfl kw_1041 dX12_init_229 (fun H locs M => ?_)
  replace q := gen_g M q
  obtain ⟨g_14, -, M, q⟩ := q
  refine lv_aload_n hx hb dX12_init_232 rfl (lv_at hl 0 rfl) ?_
  refine lv_sipush (v := 600) hx hb dX12_init_233 (by decide) ?_
  replace q := ck_s q
  obtain ⟨hz, q⟩ := q
  replace q := al_s q
  obtain ⟨S_15, g_16, k_17, w_18, eS, eg, ek, ew, q⟩ := q
  refine x_newa22 hx hb hX M hz (hb_step hc ek hRc) (hb_step hs ew hRs) dX12_init_236 (fun H M rn_19 hE1 => ?_)
  rw [← eS, ← eg] at M
  rw [← eS] at rn_19 hE1
  clear eS eg
  replace ra0 := ra0.ext hE1
  replace hE := hE.tr hE1
  replace hc := hc_step hc ek
  replace hs := hc_step hs ew
  clear ek ew
  refine x_putR hx hb hown hX M (k := 30) (K1 := 22) okX12 ra0 (by decide) rfl rn_19 (Or.inr ⟨rfl, hnm, rfl⟩) rfl rfl kw_1042 dX12_init_238 (fun H locs M => ?_)
  replace q := gen_g M q
  obtain ⟨g_21, -, M, q⟩ := q
  refine lv_aload_n hx hb dX12_init_241 rfl (lv_at hl 0 rfl) ?_
  refine lv_sipush (v := 128) hx hb dX12_init_242 (by decide) ?_
  replace q := ck_s q
  obtain ⟨hz, q⟩ := q
  replace q := al_s q
  obtain ⟨S_22, g_23, k_24, w_25, eS, eg, ek, ew, q⟩ := q
  refine x_newa20 hx hb hX M hz (hb_step hc ek hRc) (hb_step hs ew hRs) dX12_init_245 (fun H M rn_26 hE1 => ?_)
  rw [← eS, ← eg] at M
  rw [← eS] at rn_26 hE1
  clear eS eg
  replace ra0 := ra0.ext hE1
  replace hE := hE.tr hE1
  replace hc := hc_step hc ek
  replace hs := hc_step hs ew
  clear ek ew
  refine x_putR hx hb hown hX M (k := 31) (K1 := 20) okX12 ra0 (by decide) rfl rn_26 (Or.inr ⟨rfl, hnm, rfl⟩) rfl rfl kw_1043 dX12_init_247 (fun H locs M => ?_)
  replace q := gen_g M q
  obtain ⟨g_28, -, M, q⟩ := q
  refine lv_aload_n hx hb dX12_init_250 rfl (lv_at hl 0 rfl) ?_
  refine lv_sipush (v := 640) hx hb dX12_init_251 (by decide) ?_
  replace q := ck_s q
  obtain ⟨hz, q⟩ := q
  replace q := al_s q
  obtain ⟨S_29, g_30, k_31, w_32, eS, eg, ek, ew, q⟩ := q
  refine x_newa20 hx hb hX M hz (hb_step hc ek hRc) (hb_step hs ew hRs) dX12_init_254 (fun H M rn_33 hE1 => ?_)
  rw [← eS, ← eg] at M
  rw [← eS] at rn_33 hE1
  clear eS eg
  replace ra0 := ra0.ext hE1
  replace hE := hE.tr hE1
  replace hc := hc_step hc ek
  replace hs := hc_step hs ew
  clear ek ew
  refine x_putR hx hb hown hX M (k := 32) (K1 := 20) okX12 ra0 (by decide) rfl rn_33 (Or.inr ⟨rfl, hnm, rfl⟩) rfl rfl kw_1044 dX12_init_256 (fun H locs M => ?_)
  replace q := gen_g M q
  obtain ⟨g_35, -, M, q⟩ := q
  refine lv_aload_n hx hb dX12_init_259 rfl (lv_at hl 0 rfl) ?_
  refine lv_sipush (v := 640) hx hb dX12_init_260 (by decide) ?_
  replace q := ck_s q
  obtain ⟨hz, q⟩ := q
  replace q := al_s q
  obtain ⟨S_36, g_37, k_38, w_39, eS, eg, ek, ew, q⟩ := q
  refine x_newa21 hx hb hX M hz (hb_step hc ek hRc) (hb_step hs ew hRs) dX12_init_263 (fun H M rn_40 hE1 => ?_)
  rw [← eS, ← eg] at M
  rw [← eS] at rn_40 hE1
  clear eS eg
  replace ra0 := ra0.ext hE1
  replace hE := hE.tr hE1
  replace hc := hc_step hc ek
  replace hs := hc_step hs ew
  clear ek ew
  refine x_putR hx hb hown hX M (k := 33) (K1 := 21) okX12 ra0 (by decide) rfl rn_40 (Or.inr ⟨rfl, hnm, rfl⟩) rfl rfl kw_1045 dX12_init_265 (fun H locs M => ?_)
  replace q := gen_g M q
  obtain ⟨g_42, -, M, q⟩ := q
  exact w_X12_init_268 hx hb hml hr hlk hown hX hRf hRl (N := N) hnm hRc hRs  _ _ _ _ _ _ _ _ _ _ M hE ra0 (lv_sub hl [0] rfl) q hc hs
set_option maxHeartbeats 4000000 in
set_option maxRecDepth 100000 in
theorem w_X12_init_161 (hx : p.tables.exec = Jvm.exec) (hb : c.code = cX12_init) (hml : c.maxLocals = 1) (hr : meth.sig.returnType = none) (hlk : meth.locks = false) (hown : s.vm.findClass RX12 = some m.cls) (hX : Kx D cA lo tS s) (hRf : 1 ≤ R.frames) (hRl : 60 ≤ R.locals) (hnm : meth.name = "<init>") {N : Nat} {rv : Unit} {g1 : Hg} {S0 S1 : Hs} {cT wT : Nat} (hRc : cT ≤ R.cells) (hRs : wT ≤ R.slots) : ∀ (H : Heap) (locs : List Loc) (ls : Array Slot) (cells slots k w : Nat) (S : Hs) (g : Hg) (a0 : Nat), Mm D cA lo S g s H locs → Ext lo S0 S → Rf lo S a0 12 → lv_has ls 1 [(0, .ref a0)] → b_X12_init_161 N S g a0 = some (rv, S1, g1, k, w) → cells + k = cT → slots + w = wT → W p l e R s m args below meth c H locs cells slots (MQ below (Qcx D cA lo S0 none S1 g1 True) args s cT wT (fun q : Nat => lo ≤ q)) (F0 m 161 ls []) := by
  intro H locs ls cells slots k w S g a0 M hE ra0 hl q hc hs
  unfold b_X12_init_161 at q
  refine lv_aload_n hx hb dX12_init_161 rfl (lv_at hl 0 rfl) ?_
  refine lv_sipush (v := 3200) hx hb dX12_init_162 (by decide) ?_
  replace q := ck_s q
  obtain ⟨hz, q⟩ := q
  replace q := al_s q
  obtain ⟨S_1, g_2, k_3, w_4, eS, eg, ek, ew, q⟩ := q
  refine x_newa20 hx hb hX M hz (hb_step hc ek hRc) (hb_step hs ew hRs) dX12_init_165 (fun H M rn_5 hE1 => ?_)
  rw [← eS, ← eg] at M
  rw [← eS] at rn_5 hE1
  clear eS eg
  replace ra0 := ra0.ext hE1
  replace hE := hE.tr hE1
  replace hc := hc_step hc ek
  replace hs := hc_step hs ew
  clear ek ew
  refine x_putR hx hb hown hX M (k := 20) (K1 := 20) okX12 ra0 (by decide) rfl rn_5 (Or.inr ⟨rfl, hnm, rfl⟩) rfl rfl kw_1032 dX12_init_167 (fun H locs M => ?_)
  replace q := gen_g M q
  obtain ⟨g_7, -, M, q⟩ := q
  refine lv_aload_n hx hb dX12_init_170 rfl (lv_at hl 0 rfl) ?_
  refine lv_bipush (v := 24) hx hb dX12_init_171 (by decide) ?_
  replace q := ck_s q
  obtain ⟨hz, q⟩ := q
  replace q := al_s q
  obtain ⟨S_8, g_9, k_10, w_11, eS, eg, ek, ew, q⟩ := q
  refine x_newa20 hx hb hX M hz (hb_step hc ek hRc) (hb_step hs ew hRs) dX12_init_173 (fun H M rn_12 hE1 => ?_)
  rw [← eS, ← eg] at M
  rw [← eS] at rn_12 hE1
  clear eS eg
  replace ra0 := ra0.ext hE1
  replace hE := hE.tr hE1
  replace hc := hc_step hc ek
  replace hs := hc_step hs ew
  clear ek ew
  refine x_putR hx hb hown hX M (k := 22) (K1 := 20) okX12 ra0 (by decide) rfl rn_12 (Or.inr ⟨rfl, hnm, rfl⟩) rfl rfl kw_1034 dX12_init_175 (fun H locs M => ?_)
  replace q := gen_g M q
  obtain ⟨g_14, -, M, q⟩ := q
  refine lv_aload_n hx hb dX12_init_178 rfl (lv_at hl 0 rfl) ?_
  refine lv_sipush (v := 2400) hx hb dX12_init_179 (by decide) ?_
  replace q := ck_s q
  obtain ⟨hz, q⟩ := q
  replace q := al_s q
  obtain ⟨S_15, g_16, k_17, w_18, eS, eg, ek, ew, q⟩ := q
  refine x_newa20 hx hb hX M hz (hb_step hc ek hRc) (hb_step hs ew hRs) dX12_init_182 (fun H M rn_19 hE1 => ?_)
  rw [← eS, ← eg] at M
  rw [← eS] at rn_19 hE1
  clear eS eg
  replace ra0 := ra0.ext hE1
  replace hE := hE.tr hE1
  replace hc := hc_step hc ek
  replace hs := hc_step hs ew
  clear ek ew
  refine x_putR hx hb hown hX M (k := 24) (K1 := 20) okX12 ra0 (by decide) rfl rn_19 (Or.inr ⟨rfl, hnm, rfl⟩) rfl rfl kw_1036 dX12_init_184 (fun H locs M => ?_)
  replace q := gen_g M q
  obtain ⟨g_21, -, M, q⟩ := q
  refine lv_aload_n hx hb dX12_init_187 rfl (lv_at hl 0 rfl) ?_
  refine lv_sipush (v := 2400) hx hb dX12_init_188 (by decide) ?_
  replace q := ck_s q
  obtain ⟨hz, q⟩ := q
  replace q := al_s q
  obtain ⟨S_22, g_23, k_24, w_25, eS, eg, ek, ew, q⟩ := q
  refine x_newa21 hx hb hX M hz (hb_step hc ek hRc) (hb_step hs ew hRs) dX12_init_191 (fun H M rn_26 hE1 => ?_)
  rw [← eS, ← eg] at M
  rw [← eS] at rn_26 hE1
  clear eS eg
  replace ra0 := ra0.ext hE1
  replace hE := hE.tr hE1
  replace hc := hc_step hc ek
  replace hs := hc_step hs ew
  clear ek ew
  refine x_putR hx hb hown hX M (k := 25) (K1 := 21) okX12 ra0 (by decide) rfl rn_26 (Or.inr ⟨rfl, hnm, rfl⟩) rfl rfl kw_1037 dX12_init_193 (fun H locs M => ?_)
  replace q := gen_g M q
  obtain ⟨g_28, -, M, q⟩ := q
  refine lv_aload_n hx hb dX12_init_196 rfl (lv_at hl 0 rfl) ?_
  refine lv_sipush (v := 2400) hx hb dX12_init_197 (by decide) ?_
  replace q := ck_s q
  obtain ⟨hz, q⟩ := q
  replace q := al_s q
  obtain ⟨S_29, g_30, k_31, w_32, eS, eg, ek, ew, q⟩ := q
  refine x_newa22 hx hb hX M hz (hb_step hc ek hRc) (hb_step hs ew hRs) dX12_init_200 (fun H M rn_33 hE1 => ?_)
  rw [← eS, ← eg] at M
  rw [← eS] at rn_33 hE1
  clear eS eg
  replace ra0 := ra0.ext hE1
  replace hE := hE.tr hE1
  replace hc := hc_step hc ek
  replace hs := hc_step hs ew
  clear ek ew
  refine x_putR hx hb hown hX M (k := 26) (K1 := 22) okX12 ra0 (by decide) rfl rn_33 (Or.inr ⟨rfl, hnm, rfl⟩) rfl rfl kw_1038 dX12_init_202 (fun H locs M => ?_)
  replace q := gen_g M q
  obtain ⟨g_35, -, M, q⟩ := q
  refine lv_aload_n hx hb dX12_init_205 rfl (lv_at hl 0 rfl) ?_
  refine lv_sipush (v := 2400) hx hb dX12_init_206 (by decide) ?_
  replace q := ck_s q
  obtain ⟨hz, q⟩ := q
  replace q := al_s q
  obtain ⟨S_36, g_37, k_38, w_39, eS, eg, ek, ew, q⟩ := q
  refine x_newa22 hx hb hX M hz (hb_step hc ek hRc) (hb_step hs ew hRs) dX12_init_209 (fun H M rn_40 hE1 => ?_)
  rw [← eS, ← eg] at M
  rw [← eS] at rn_40 hE1
  clear eS eg
  replace ra0 := ra0.ext hE1
  replace hE := hE.tr hE1
  replace hc := hc_step hc ek
  replace hs := hc_step hs ew
  clear ek ew
  refine x_putR hx hb hown hX M (k := 27) (K1 := 22) okX12 ra0 (by decide) rfl rn_40 (Or.inr ⟨rfl, hnm, rfl⟩) rfl rfl kw_1039 dX12_init_211 (fun H locs M => ?_)
  replace q := gen_g M q
  obtain ⟨g_42, -, M, q⟩ := q
  exact w_X12_init_214 hx hb hml hr hlk hown hX hRf hRl (N := N) hnm hRc hRs  _ _ _ _ _ _ _ _ _ _ M hE ra0 (lv_sub hl [0] rfl) q hc hs
set_option maxHeartbeats 4000000 in
set_option maxRecDepth 100000 in
theorem w_X12_init_110 (hx : p.tables.exec = Jvm.exec) (hb : c.code = cX12_init) (hml : c.maxLocals = 1) (hr : meth.sig.returnType = none) (hlk : meth.locks = false) (hown : s.vm.findClass RX12 = some m.cls) (hX : Kx D cA lo tS s) (hRf : 1 ≤ R.frames) (hRl : 60 ≤ R.locals) (hnm : meth.name = "<init>") {N : Nat} {rv : Unit} {g1 : Hg} {S0 S1 : Hs} {cT wT : Nat} (hRc : cT ≤ R.cells) (hRs : wT ≤ R.slots) : ∀ (H : Heap) (locs : List Loc) (ls : Array Slot) (cells slots k w : Nat) (S : Hs) (g : Hg) (a0 : Nat), Mm D cA lo S g s H locs → Ext lo S0 S → Rf lo S a0 12 → lv_has ls 1 [(0, .ref a0)] → b_X12_init_110 N S g a0 = some (rv, S1, g1, k, w) → cells + k = cT → slots + w = wT → W p l e R s m args below meth c H locs cells slots (MQ below (Qcx D cA lo S0 none S1 g1 True) args s cT wT (fun q : Nat => lo ≤ q)) (F0 m 110 ls []) := by
  intro H locs ls cells slots k w S g a0 M hE ra0 hl q hc hs
  unfold b_X12_init_110 at q
  refine lv_aload_n hx hb dX12_init_110 rfl (lv_at hl 0 rfl) ?_
  refine lv_sipush (v := 336) hx hb dX12_init_111 (by decide) ?_
  replace q := ck_s q
  obtain ⟨hz, q⟩ := q
  replace q := al_s q
  obtain ⟨S_1, g_2, k_3, w_4, eS, eg, ek, ew, q⟩ := q
  refine x_newa20 hx hb hX M hz (hb_step hc ek hRc) (hb_step hs ew hRs) dX12_init_114 (fun H M rn_5 hE1 => ?_)
  rw [← eS, ← eg] at M
  rw [← eS] at rn_5 hE1
  clear eS eg
  replace ra0 := ra0.ext hE1
  replace hE := hE.tr hE1
  replace hc := hc_step hc ek
  replace hs := hc_step hs ew
  clear ek ew
  refine x_putR hx hb hown hX M (k := 13) (K1 := 20) okX12 ra0 (by decide) rfl rn_5 (Or.inr ⟨rfl, hnm, rfl⟩) rfl rfl kw_1025 dX12_init_116 (fun H locs M => ?_)
  replace q := gen_g M q
  obtain ⟨g_7, -, M, q⟩ := q
  refine lv_aload_n hx hb dX12_init_119 rfl (lv_at hl 0 rfl) ?_
  refine lv_bipush (v := 12) hx hb dX12_init_120 (by decide) ?_
  replace q := ck_s q
  obtain ⟨hz, q⟩ := q
  replace q := al_s q
  obtain ⟨S_8, g_9, k_10, w_11, eS, eg, ek, ew, q⟩ := q
  refine x_newa22 hx hb hX M hz (hb_step hc ek hRc) (hb_step hs ew hRs) dX12_init_122 (fun H M rn_12 hE1 => ?_)
  rw [← eS, ← eg] at M
  rw [← eS] at rn_12 hE1
  clear eS eg
  replace ra0 := ra0.ext hE1
  replace hE := hE.tr hE1
  replace hc := hc_step hc ek
  replace hs := hc_step hs ew
  clear ek ew
  refine x_putR hx hb hown hX M (k := 14) (K1 := 22) okX12 ra0 (by decide) rfl rn_12 (Or.inr ⟨rfl, hnm, rfl⟩) rfl rfl kw_1026 dX12_init_124 (fun H locs M => ?_)
  replace q := gen_g M q
  obtain ⟨g_14, -, M, q⟩ := q
  refine lv_aload_n hx hb dX12_init_127 rfl (lv_at hl 0 rfl) ?_
  refine lv_sipush (v := 3360) hx hb dX12_init_128 (by decide) ?_
  replace q := ck_s q
  obtain ⟨hz, q⟩ := q
  replace q := al_s q
  obtain ⟨S_15, g_16, k_17, w_18, eS, eg, ek, ew, q⟩ := q
  refine x_newa20 hx hb hX M hz (hb_step hc ek hRc) (hb_step hs ew hRs) dX12_init_131 (fun H M rn_19 hE1 => ?_)
  rw [← eS, ← eg] at M
  rw [← eS] at rn_19 hE1
  clear eS eg
  replace ra0 := ra0.ext hE1
  replace hE := hE.tr hE1
  replace hc := hc_step hc ek
  replace hs := hc_step hs ew
  clear ek ew
  refine x_putR hx hb hown hX M (k := 15) (K1 := 20) okX12 ra0 (by decide) rfl rn_19 (Or.inr ⟨rfl, hnm, rfl⟩) rfl rfl kw_1027 dX12_init_133 (fun H locs M => ?_)
  replace q := gen_g M q
  obtain ⟨g_21, -, M, q⟩ := q
  refine lv_aload_n hx hb dX12_init_136 rfl (lv_at hl 0 rfl) ?_
  refine lv_bipush (v := 40) hx hb dX12_init_137 (by decide) ?_
  replace q := ck_s q
  obtain ⟨hz, q⟩ := q
  replace q := al_s q
  obtain ⟨S_22, g_23, k_24, w_25, eS, eg, ek, ew, q⟩ := q
  refine x_newa20 hx hb hX M hz (hb_step hc ek hRc) (hb_step hs ew hRs) dX12_init_139 (fun H M rn_26 hE1 => ?_)
  rw [← eS, ← eg] at M
  rw [← eS] at rn_26 hE1
  clear eS eg
  replace ra0 := ra0.ext hE1
  replace hE := hE.tr hE1
  replace hc := hc_step hc ek
  replace hs := hc_step hs ew
  clear ek ew
  refine x_putR hx hb hown hX M (k := 17) (K1 := 20) okX12 ra0 (by decide) rfl rn_26 (Or.inr ⟨rfl, hnm, rfl⟩) rfl rfl kw_1029 dX12_init_141 (fun H locs M => ?_)
  replace q := gen_g M q
  obtain ⟨g_28, -, M, q⟩ := q
  refine lv_aload_n hx hb dX12_init_144 rfl (lv_at hl 0 rfl) ?_
  refine lv_bipush (v := 8) hx hb dX12_init_145 (by decide) ?_
  replace q := ck_s q
  obtain ⟨hz, q⟩ := q
  replace q := al_s q
  obtain ⟨S_29, g_30, k_31, w_32, eS, eg, ek, ew, q⟩ := q
  refine x_newa22 hx hb hX M hz (hb_step hc ek hRc) (hb_step hs ew hRs) dX12_init_147 (fun H M rn_33 hE1 => ?_)
  rw [← eS, ← eg] at M
  rw [← eS] at rn_33 hE1
  clear eS eg
  replace ra0 := ra0.ext hE1
  replace hE := hE.tr hE1
  replace hc := hc_step hc ek
  replace hs := hc_step hs ew
  clear ek ew
  refine x_putR hx hb hown hX M (k := 18) (K1 := 22) okX12 ra0 (by decide) rfl rn_33 (Or.inr ⟨rfl, hnm, rfl⟩) rfl rfl kw_1030 dX12_init_149 (fun H locs M => ?_)
  replace q := gen_g M q
  obtain ⟨g_35, -, M, q⟩ := q
  refine lv_aload_n hx hb dX12_init_152 rfl (lv_at hl 0 rfl) ?_
  refine lv_sipush (v := 3200) hx hb dX12_init_153 (by decide) ?_
  replace q := ck_s q
  obtain ⟨hz, q⟩ := q
  replace q := al_s q
  obtain ⟨S_36, g_37, k_38, w_39, eS, eg, ek, ew, q⟩ := q
  refine x_newa20 hx hb hX M hz (hb_step hc ek hRc) (hb_step hs ew hRs) dX12_init_156 (fun H M rn_40 hE1 => ?_)
  rw [← eS, ← eg] at M
  rw [← eS] at rn_40 hE1
  clear eS eg
  replace ra0 := ra0.ext hE1
  replace hE := hE.tr hE1
  replace hc := hc_step hc ek
  replace hs := hc_step hs ew
  clear ek ew
  refine x_putR hx hb hown hX M (k := 19) (K1 := 20) okX12 ra0 (by decide) rfl rn_40 (Or.inr ⟨rfl, hnm, rfl⟩) rfl rfl kw_1031 dX12_init_158 (fun H locs M => ?_)
  replace q := gen_g M q
  obtain ⟨g_42, -, M, q⟩ := q
  exact w_X12_init_161 hx hb hml hr hlk hown hX hRf hRl (N := N) hnm hRc hRs  _ _ _ _ _ _ _ _ _ _ M hE ra0 (lv_sub hl [0] rfl) q hc hs
set_option maxHeartbeats 4000000 in
set_option maxRecDepth 100000 in
theorem w_X12_init_57 (hx : p.tables.exec = Jvm.exec) (hb : c.code = cX12_init) (hml : c.maxLocals = 1) (hr : meth.sig.returnType = none) (hlk : meth.locks = false) (hown : s.vm.findClass RX12 = some m.cls) (hX : Kx D cA lo tS s) (hRf : 1 ≤ R.frames) (hRl : 60 ≤ R.locals) (hnm : meth.name = "<init>") {N : Nat} {rv : Unit} {g1 : Hg} {S0 S1 : Hs} {cT wT : Nat} (hRc : cT ≤ R.cells) (hRs : wT ≤ R.slots) : ∀ (H : Heap) (locs : List Loc) (ls : Array Slot) (cells slots k w : Nat) (S : Hs) (g : Hg) (a0 : Nat), Mm D cA lo S g s H locs → Ext lo S0 S → Rf lo S a0 12 → lv_has ls 1 [(0, .ref a0)] → b_X12_init_57 N S g a0 = some (rv, S1, g1, k, w) → cells + k = cT → slots + w = wT → W p l e R s m args below meth c H locs cells slots (MQ below (Qcx D cA lo S0 none S1 g1 True) args s cT wT (fun q : Nat => lo ≤ q)) (F0 m 57 ls []) := by
  intro H locs ls cells slots k w S g a0 M hE ra0 hl q hc hs
  unfold b_X12_init_57 at q
  refine lv_aload_n hx hb dX12_init_57 rfl (lv_at hl 0 rfl) ?_
  refine lv_sipush (v := 600) hx hb dX12_init_58 (by decide) ?_
  replace q := ck_s q
  obtain ⟨hz, q⟩ := q
  replace q := al_s q
  obtain ⟨S_1, g_2, k_3, w_4, eS, eg, ek, ew, q⟩ := q
  refine x_newa20 hx hb hX M hz (hb_step hc ek hRc) (hb_step hs ew hRs) dX12_init_61 (fun H M rn_5 hE1 => ?_)
  rw [← eS, ← eg] at M
  rw [← eS] at rn_5 hE1
  clear eS eg
  replace ra0 := ra0.ext hE1
  replace hE := hE.tr hE1
  replace hc := hc_step hc ek
  replace hs := hc_step hs ew
  clear ek ew
  refine x_putR hx hb hown hX M (k := 7) (K1 := 20) okX12 ra0 (by decide) rfl rn_5 (Or.inr ⟨rfl, hnm, rfl⟩) rfl rfl kw_1019 dX12_init_63 (fun H locs M => ?_)
  replace q := gen_g M q
  obtain ⟨g_7, -, M, q⟩ := q
  refine lv_aload_n hx hb dX12_init_66 rfl (lv_at hl 0 rfl) ?_
  refine lv_sipush (v := 600) hx hb dX12_init_67 (by decide) ?_
  replace q := ck_s q
  obtain ⟨hz, q⟩ := q
  replace q := al_s q
  obtain ⟨S_8, g_9, k_10, w_11, eS, eg, ek, ew, q⟩ := q
  refine x_newa22 hx hb hX M hz (hb_step hc ek hRc) (hb_step hs ew hRs) dX12_init_70 (fun H M rn_12 hE1 => ?_)
  rw [← eS, ← eg] at M
  rw [← eS] at rn_12 hE1
  clear eS eg
  replace ra0 := ra0.ext hE1
  replace hE := hE.tr hE1
  replace hc := hc_step hc ek
  replace hs := hc_step hs ew
  clear ek ew
  refine x_putR hx hb hown hX M (k := 8) (K1 := 22) okX12 ra0 (by decide) rfl rn_12 (Or.inr ⟨rfl, hnm, rfl⟩) rfl rfl kw_1020 dX12_init_72 (fun H locs M => ?_)
  replace q := gen_g M q
  obtain ⟨g_14, -, M, q⟩ := q
  refine lv_aload_n hx hb dX12_init_75 rfl (lv_at hl 0 rfl) ?_
  refine lv_sipush (v := 128) hx hb dX12_init_76 (by decide) ?_
  replace q := ck_s q
  obtain ⟨hz, q⟩ := q
  replace q := al_s q
  obtain ⟨S_15, g_16, k_17, w_18, eS, eg, ek, ew, q⟩ := q
  refine x_newa20 hx hb hX M hz (hb_step hc ek hRc) (hb_step hs ew hRs) dX12_init_79 (fun H M rn_19 hE1 => ?_)
  rw [← eS, ← eg] at M
  rw [← eS] at rn_19 hE1
  clear eS eg
  replace ra0 := ra0.ext hE1
  replace hE := hE.tr hE1
  replace hc := hc_step hc ek
  replace hs := hc_step hs ew
  clear ek ew
  refine x_putR hx hb hown hX M (k := 9) (K1 := 20) okX12 ra0 (by decide) rfl rn_19 (Or.inr ⟨rfl, hnm, rfl⟩) rfl rfl kw_1021 dX12_init_81 (fun H locs M => ?_)
  replace q := gen_g M q
  obtain ⟨g_21, -, M, q⟩ := q
  refine lv_aload_n hx hb dX12_init_84 rfl (lv_at hl 0 rfl) ?_
  refine lv_sipush (v := 640) hx hb dX12_init_85 (by decide) ?_
  replace q := ck_s q
  obtain ⟨hz, q⟩ := q
  replace q := al_s q
  obtain ⟨S_22, g_23, k_24, w_25, eS, eg, ek, ew, q⟩ := q
  refine x_newa20 hx hb hX M hz (hb_step hc ek hRc) (hb_step hs ew hRs) dX12_init_88 (fun H M rn_26 hE1 => ?_)
  rw [← eS, ← eg] at M
  rw [← eS] at rn_26 hE1
  clear eS eg
  replace ra0 := ra0.ext hE1
  replace hE := hE.tr hE1
  replace hc := hc_step hc ek
  replace hs := hc_step hs ew
  clear ek ew
  refine x_putR hx hb hown hX M (k := 10) (K1 := 20) okX12 ra0 (by decide) rfl rn_26 (Or.inr ⟨rfl, hnm, rfl⟩) rfl rfl kw_1022 dX12_init_90 (fun H locs M => ?_)
  replace q := gen_g M q
  obtain ⟨g_28, -, M, q⟩ := q
  refine lv_aload_n hx hb dX12_init_93 rfl (lv_at hl 0 rfl) ?_
  refine lv_sipush (v := 640) hx hb dX12_init_94 (by decide) ?_
  replace q := ck_s q
  obtain ⟨hz, q⟩ := q
  replace q := al_s q
  obtain ⟨S_29, g_30, k_31, w_32, eS, eg, ek, ew, q⟩ := q
  refine x_newa21 hx hb hX M hz (hb_step hc ek hRc) (hb_step hs ew hRs) dX12_init_97 (fun H M rn_33 hE1 => ?_)
  rw [← eS, ← eg] at M
  rw [← eS] at rn_33 hE1
  clear eS eg
  replace ra0 := ra0.ext hE1
  replace hE := hE.tr hE1
  replace hc := hc_step hc ek
  replace hs := hc_step hs ew
  clear ek ew
  refine x_putR hx hb hown hX M (k := 11) (K1 := 21) okX12 ra0 (by decide) rfl rn_33 (Or.inr ⟨rfl, hnm, rfl⟩) rfl rfl kw_1023 dX12_init_99 (fun H locs M => ?_)
  replace q := gen_g M q
  obtain ⟨g_35, -, M, q⟩ := q
  refine lv_aload_n hx hb dX12_init_102 rfl (lv_at hl 0 rfl) ?_
  refine lv_ldc (v := 32768) hx hb hown (hX.hts _ _ (mw kw_1011 rfl)) dX12_init_103 ?_
  replace q := ck_s q
  obtain ⟨hz, q⟩ := q
  replace q := al_s q
  obtain ⟨S_36, g_37, k_38, w_39, eS, eg, ek, ew, q⟩ := q
  refine x_newa20 hx hb hX M hz (hb_step hc ek hRc) (hb_step hs ew hRs) dX12_init_105 (fun H M rn_40 hE1 => ?_)
  rw [← eS, ← eg] at M
  rw [← eS] at rn_40 hE1
  clear eS eg
  replace ra0 := ra0.ext hE1
  replace hE := hE.tr hE1
  replace hc := hc_step hc ek
  replace hs := hc_step hs ew
  clear ek ew
  refine x_putR hx hb hown hX M (k := 12) (K1 := 20) okX12 ra0 (by decide) rfl rn_40 (Or.inr ⟨rfl, hnm, rfl⟩) rfl rfl kw_1024 dX12_init_107 (fun H locs M => ?_)
  replace q := gen_g M q
  obtain ⟨g_42, -, M, q⟩ := q
  exact w_X12_init_110 hx hb hml hr hlk hown hX hRf hRl (N := N) hnm hRc hRs  _ _ _ _ _ _ _ _ _ _ M hE ra0 (lv_sub hl [0] rfl) q hc hs
set_option maxHeartbeats 4000000 in
set_option maxRecDepth 100000 in
theorem w_X12_init_0 (hx : p.tables.exec = Jvm.exec) (hb : c.code = cX12_init) (hml : c.maxLocals = 1) (hr : meth.sig.returnType = none) (hlk : meth.locks = false) (hown : s.vm.findClass RX12 = some m.cls) (hX : Kx D cA lo tS s) (hRf : 1 ≤ R.frames) (hRl : 60 ≤ R.locals) (hnm : meth.name = "<init>") {N : Nat} {rv : Unit} {g1 : Hg} {S0 S1 : Hs} {cT wT : Nat} (hRc : cT ≤ R.cells) (hRs : wT ≤ R.slots) : ∀ (H : Heap) (locs : List Loc) (ls : Array Slot) (cells slots k w : Nat) (S : Hs) (g : Hg) (a0 : Nat), Mm D cA lo S g s H locs → Ext lo S0 S → Rf lo S a0 12 → lv_has ls 1 [(0, .ref a0)] → b_X12_init_0 N S g a0 = some (rv, S1, g1, k, w) → cells + k = cT → slots + w = wT → W p l e R s m args below meth c H locs cells slots (MQ below (Qcx D cA lo S0 none S1 g1 True) args s cT wT (fun q : Nat => lo ≤ q)) (F0 m 0 ls []) := by
  intro H locs ls cells slots k w S g a0 M hE ra0 hl q hc hs
  unfold b_X12_init_0 at q
  refine lv_aload_n hx hb dX12_init_0 rfl (lv_at hl 0 rfl) ?_
  refine x_objinit hx hb hml hl.1 hown hX (rest := []) kw_1010 kw_oi kw_oc dX12_init_1 (Nat.le_of_ble_eq_true rfl) ⟨Nat.le_trans (by omega) hRf, Nat.le_trans (by omega) hRl⟩ ?_
  refine lv_aload_n hx hb dX12_init_4 rfl (lv_at hl 0 rfl) ?_
  refine lv_bipush (v := 24) hx hb dX12_init_5 (by decide) ?_
  replace q := ck_s q
  obtain ⟨hz, q⟩ := q
  replace q := al_s q
  obtain ⟨S_1, g_2, k_3, w_4, eS, eg, ek, ew, q⟩ := q
  refine x_newa20 hx hb hX M hz (hb_step hc ek hRc) (hb_step hs ew hRs) dX12_init_7 (fun H M rn_5 hE1 => ?_)
  rw [← eS, ← eg] at M
  rw [← eS] at rn_5 hE1
  clear eS eg
  replace ra0 := ra0.ext hE1
  replace hE := hE.tr hE1
  replace hc := hc_step hc ek
  replace hs := hc_step hs ew
  clear ek ew
  refine x_putR hx hb hown hX M (k := 0) (K1 := 20) okX12 ra0 (by decide) rfl rn_5 (Or.inr ⟨rfl, hnm, rfl⟩) rfl rfl kw_1012 dX12_init_9 (fun H locs M => ?_)
  replace q := gen_g M q
  obtain ⟨g_7, -, M, q⟩ := q
  refine lv_aload_n hx hb dX12_init_12 rfl (lv_at hl 0 rfl) ?_
  refine lv_sipush (v := 2400) hx hb dX12_init_13 (by decide) ?_
  replace q := ck_s q
  obtain ⟨hz, q⟩ := q
  replace q := al_s q
  obtain ⟨S_8, g_9, k_10, w_11, eS, eg, ek, ew, q⟩ := q
  refine x_newa20 hx hb hX M hz (hb_step hc ek hRc) (hb_step hs ew hRs) dX12_init_16 (fun H M rn_12 hE1 => ?_)
  rw [← eS, ← eg] at M
  rw [← eS] at rn_12 hE1
  clear eS eg
  replace ra0 := ra0.ext hE1
  replace hE := hE.tr hE1
  replace hc := hc_step hc ek
  replace hs := hc_step hs ew
  clear ek ew
  refine x_putR hx hb hown hX M (k := 2) (K1 := 20) okX12 ra0 (by decide) rfl rn_12 (Or.inr ⟨rfl, hnm, rfl⟩) rfl rfl kw_1014 dX12_init_18 (fun H locs M => ?_)
  replace q := gen_g M q
  obtain ⟨g_14, -, M, q⟩ := q
  refine lv_aload_n hx hb dX12_init_21 rfl (lv_at hl 0 rfl) ?_
  refine lv_sipush (v := 2400) hx hb dX12_init_22 (by decide) ?_
  replace q := ck_s q
  obtain ⟨hz, q⟩ := q
  replace q := al_s q
  obtain ⟨S_15, g_16, k_17, w_18, eS, eg, ek, ew, q⟩ := q
  refine x_newa21 hx hb hX M hz (hb_step hc ek hRc) (hb_step hs ew hRs) dX12_init_25 (fun H M rn_19 hE1 => ?_)
  rw [← eS, ← eg] at M
  rw [← eS] at rn_19 hE1
  clear eS eg
  replace ra0 := ra0.ext hE1
  replace hE := hE.tr hE1
  replace hc := hc_step hc ek
  replace hs := hc_step hs ew
  clear ek ew
  refine x_putR hx hb hown hX M (k := 3) (K1 := 21) okX12 ra0 (by decide) rfl rn_19 (Or.inr ⟨rfl, hnm, rfl⟩) rfl rfl kw_1015 dX12_init_27 (fun H locs M => ?_)
  replace q := gen_g M q
  obtain ⟨g_21, -, M, q⟩ := q
  refine lv_aload_n hx hb dX12_init_30 rfl (lv_at hl 0 rfl) ?_
  refine lv_sipush (v := 2400) hx hb dX12_init_31 (by decide) ?_
  replace q := ck_s q
  obtain ⟨hz, q⟩ := q
  replace q := al_s q
  obtain ⟨S_22, g_23, k_24, w_25, eS, eg, ek, ew, q⟩ := q
  refine x_newa22 hx hb hX M hz (hb_step hc ek hRc) (hb_step hs ew hRs) dX12_init_34 (fun H M rn_26 hE1 => ?_)
  rw [← eS, ← eg] at M
  rw [← eS] at rn_26 hE1
  clear eS eg
  replace ra0 := ra0.ext hE1
  replace hE := hE.tr hE1
  replace hc := hc_step hc ek
  replace hs := hc_step hs ew
  clear ek ew
  refine x_putR hx hb hown hX M (k := 4) (K1 := 22) okX12 ra0 (by decide) rfl rn_26 (Or.inr ⟨rfl, hnm, rfl⟩) rfl rfl kw_1016 dX12_init_36 (fun H locs M => ?_)
  replace q := gen_g M q
  obtain ⟨g_28, -, M, q⟩ := q
  refine lv_aload_n hx hb dX12_init_39 rfl (lv_at hl 0 rfl) ?_
  refine lv_sipush (v := 2400) hx hb dX12_init_40 (by decide) ?_
  replace q := ck_s q
  obtain ⟨hz, q⟩ := q
  replace q := al_s q
  obtain ⟨S_29, g_30, k_31, w_32, eS, eg, ek, ew, q⟩ := q
  refine x_newa22 hx hb hX M hz (hb_step hc ek hRc) (hb_step hs ew hRs) dX12_init_43 (fun H M rn_33 hE1 => ?_)
  rw [← eS, ← eg] at M
  rw [← eS] at rn_33 hE1
  clear eS eg
  replace ra0 := ra0.ext hE1
  replace hE := hE.tr hE1
  replace hc := hc_step hc ek
  replace hs := hc_step hs ew
  clear ek ew
  refine x_putR hx hb hown hX M (k := 5) (K1 := 22) okX12 ra0 (by decide) rfl rn_33 (Or.inr ⟨rfl, hnm, rfl⟩) rfl rfl kw_1017 dX12_init_45 (fun H locs M => ?_)
  replace q := gen_g M q
  obtain ⟨g_35, -, M, q⟩ := q
  refine lv_aload_n hx hb dX12_init_48 rfl (lv_at hl 0 rfl) ?_
  refine lv_sipush (v := 600) hx hb dX12_init_49 (by decide) ?_
  replace q := ck_s q
  obtain ⟨hz, q⟩ := q
  replace q := al_s q
  obtain ⟨S_36, g_37, k_38, w_39, eS, eg, ek, ew, q⟩ := q
  refine x_newa20 hx hb hX M hz (hb_step hc ek hRc) (hb_step hs ew hRs) dX12_init_52 (fun H M rn_40 hE1 => ?_)
  rw [← eS, ← eg] at M
  rw [← eS] at rn_40 hE1
  clear eS eg
  replace ra0 := ra0.ext hE1
  replace hE := hE.tr hE1
  replace hc := hc_step hc ek
  replace hs := hc_step hs ew
  clear ek ew
  refine x_putR hx hb hown hX M (k := 6) (K1 := 20) okX12 ra0 (by decide) rfl rn_40 (Or.inr ⟨rfl, hnm, rfl⟩) rfl rfl kw_1018 dX12_init_54 (fun H locs M => ?_)
  replace q := gen_g M q
  obtain ⟨g_42, -, M, q⟩ := q
  exact w_X12_init_57 hx hb hml hr hlk hown hX hRf hRl (N := N) hnm hRc hRs  _ _ _ _ _ _ _ _ _ _ M hE ra0 (lv_sub hl [0] rfl) q hc hs
set_option maxRecDepth 100000 in
theorem c_X12_init {l : Launch} {D : va_G} {cA : Nat → ClassId} {lo tS N : Nat} {S S1 : Hs} {g g1 : Hg} {k w : Nat} {rv : Unit} {a0 : Nat} (ra0 : Rf lo S a0 12) (q : f_X12_init N S g a0 = some (rv, S1, g1, k, w)) {d : Nat} (hd : 1 ≤ d) : Ctr l yX12_init cX12_init 1 none D cA lo tS [.ref a0] S g d none S1 g1 True k w := by
  refine x_met (by decide) (Nat.le_of_ble_eq_true rfl) ?_
  intro p e s m below meth c ls hx hb hml hr hlk hown hnm hX M hl
  exact w_X12_init_0 hx hb hml hr hlk hown hX hd (Nat.mul_le_mul_left 60 hd) (N := N) hnm (Nat.le_refl k) (Nat.le_refl w) _ _ _ _ _ _ _ _ _ _ M Ext.rf ra0 (lv_sub hl [0] rfl) q (Nat.zero_add k) (Nat.zero_add w)
def b_X12_keep_0 (N : Nat) (S : Hs) (g : Hg) (a0 : Nat) (x1 : Int32) (x2 : Int32) : Option (Int32 × Hg) :=
c2 (f_X12_isLog N S g a0 x1) (fun x_2 g_1 =>
if x_2 = 0 then (
some ((0 : Int32), g_1)) else (
if x2 < 0 then (
some ((0 : Int32), g_1)) else (
c2 (f_X12_many N S g_1 a0 x1) (fun x_6 g_5 =>
if x_6 ≤ x2 then (
some ((0 : Int32), g_5)) else (
nn (rdR g_5 a0 4) (fun a_8 =>
ck (inb (((400 : Int32) * x1) + x2) (hpL S a_8)) (
if (rdI g_5 a_8 (((400 : Int32) * x1) + x2).toNatClampNeg) = 0 then (
nn (rdR g_5 a0 5) (fun a_10 =>
ck (inb (((400 : Int32) * x1) + x2) (hpL S a_10)) (
nm (wrI g_5 a_10 (((400 : Int32) * x1) + x2).toNatClampNeg (1 : Int32)) (fun g_11 =>
some ((1 : Int32), g_11))))) else (
some ((0 : Int32), g_5)))))))))
def f_X12_keep (N : Nat) (S : Hs) (g : Hg) (a0 : Nat) (x1 : Int32) (x2 : Int32) : Option (Int32 × Hg) := b_X12_keep_0 N S g a0 x1 x2
set_option maxHeartbeats 4000000 in
set_option maxRecDepth 100000 in
theorem w_X12_keep_0 (hx : p.tables.exec = Jvm.exec) (hb : c.code = cX12_keep) (hml : c.maxLocals = 3) (hr : meth.sig.returnType = (some .boolean)) (hlk : meth.locks = false) (hown : s.vm.findClass RX12 = some m.cls) (hX : Kx D cA lo tS s) (hRf : 2 ≤ R.frames) (hRl : 120 ≤ R.locals) {N : Nat} {rv : Int32} {g1 : Hg} {S : Hs} : ∀ (H : Heap) (locs : List Loc) (ls : Array Slot) (g : Hg) (a0 : Nat) (x1 : Int32) (x2 : Int32), Mm D cA lo S g s H locs → Rf lo S a0 12 → lv_has ls 3 [(0, .ref a0), (1, .int x1), (2, .int x2)] → b_X12_keep_0 N S g a0 x1 x2 = some (rv, g1) → W p l e R s m args below meth c H locs 0 0 (MQ below (Qcx D cA lo S (some (.int rv)) S g1 True) args s 0 0 (fun q : Nat => lo ≤ q)) (F0 m 0 ls []) := by
  intro H locs ls g a0 x1 x2 M ra0 hl q
  unfold b_X12_keep_0 at q
  refine lv_aload_n hx hb dX12_keep_0 rfl (lv_at hl 0 rfl) ?_
  refine lv_iload_n hx hb dX12_keep_1 rfl (lv_at hl 1 rfl) ?_
  replace q := c2_s q
  obtain ⟨x_2, g_1, qc, q⟩ := q
  refine x_callV hx hb hml hl.1 hown hX M (S1 := S) (As := [.int x1]) (rest := []) okX12 ra0 rfl kw_1221 kw_14 mok_X12_isLog (c_X12_isLog ra0 qc (Nat.le_refl 1)) kw_1219 rfl rfl dX12_keep_2 (Nat.le_of_ble_eq_true rfl) ⟨Nat.le_trans (by decide) hRf, Nat.le_trans (by decide) hRl⟩ (Nat.zero_le _) (Nat.zero_le _) (fun H locs M hEF => ?_)
  refine lv_if_eq (tgt := 36) hx hb dX12_keep_5 (by decide) (fun c_3 => ?_) (fun c_3 => ?_)
  · replace q := if_t c_3 q
    refine lv_iconst (v := 0) hx hb dX12_keep_36 (by decide) ?_
    cases q
    exact x_zret hx hb hr hlk rfl M Ext.rf dX12_keep_37
  · replace q := if_f c_3 q
    refine lv_iload_n hx hb dX12_keep_8 rfl (lv_at hl 2 rfl) ?_
    refine lv_if_lt (tgt := 36) hx hb dX12_keep_9 (by decide) (fun c_4 => ?_) (fun c_4 => ?_)
    · replace q := if_t c_4 q
      refine lv_iconst (v := 0) hx hb dX12_keep_36 (by decide) ?_
      cases q
      exact x_zret hx hb hr hlk rfl M Ext.rf dX12_keep_37
    · replace q := if_f c_4 q
      refine lv_iload_n hx hb dX12_keep_12 rfl (lv_at hl 2 rfl) ?_
      refine lv_aload_n hx hb dX12_keep_13 rfl (lv_at hl 0 rfl) ?_
      refine lv_iload_n hx hb dX12_keep_14 rfl (lv_at hl 1 rfl) ?_
      replace q := c2_s q
      obtain ⟨x_6, g_5, qc, q⟩ := q
      refine x_callV hx hb hml hl.1 hown hX M (S1 := S) (As := [.int x1]) (rest := [.int x2]) okX12 ra0 rfl kw_1225 kw_15 mok_X12_many (c_X12_many ra0 qc (Nat.le_refl 1)) kw_1223 rfl rfl dX12_keep_15 (Nat.le_of_ble_eq_true rfl) ⟨Nat.le_trans (by decide) hRf, Nat.le_trans (by decide) hRl⟩ (Nat.zero_le _) (Nat.zero_le _) (fun H locs M hEF => ?_)
      refine lv_icmp_ge (tgt := 36) hx hb dX12_keep_18 (by decide) (fun c_7 => ?_) (fun c_7 => ?_)
      · replace q := if_t c_7 q
        refine lv_iconst (v := 0) hx hb dX12_keep_36 (by decide) ?_
        cases q
        exact x_zret hx hb hr hlk rfl M Ext.rf dX12_keep_37
      · replace q := if_f c_7 q
        refine lv_aload_n hx hb dX12_keep_21 rfl (lv_at hl 0 rfl) ?_
        replace q := nn_s q
        obtain ⟨a_8, e_a_8, q⟩ := q
        refine x_getR hx hb hown hX M e_a_8 okX12 ra0 (by decide) rfl kw_1016 dX12_keep_22 (fun ra_8 => ?_)
        refine lv_sipush (v := 400) hx hb dX12_keep_25 (by decide) ?_
        refine lv_iload_n hx hb dX12_keep_28 rfl (lv_at hl 1 rfl) ?_
        refine lv_imul hx hb dX12_keep_29 ?_
        refine lv_iload_n hx hb dX12_keep_30 rfl (lv_at hl 2 rfl) ?_
        refine lv_iadd hx hb dX12_keep_31 ?_
        replace q := ck_s q
        obtain ⟨hin, q⟩ := q
        refine x_zald hx hb hX M ra_8 (inb_in hin) dX12_keep_32 ?_
        refine lv_if_eq (tgt := 38) hx hb dX12_keep_33 (by decide) (fun c_9 => ?_) (fun c_9 => ?_)
        · replace q := if_t c_9 q
          refine lv_aload_n hx hb dX12_keep_38 rfl (lv_at hl 0 rfl) ?_
          replace q := nn_s q
          obtain ⟨a_10, e_a_10, q⟩ := q
          refine x_getR hx hb hown hX M e_a_10 okX12 ra0 (by decide) rfl kw_1017 dX12_keep_39 (fun ra_10 => ?_)
          refine lv_sipush (v := 400) hx hb dX12_keep_42 (by decide) ?_
          refine lv_iload_n hx hb dX12_keep_45 rfl (lv_at hl 1 rfl) ?_
          refine lv_imul hx hb dX12_keep_46 ?_
          refine lv_iload_n hx hb dX12_keep_47 rfl (lv_at hl 2 rfl) ?_
          refine lv_iadd hx hb dX12_keep_48 ?_
          refine lv_iconst (v := 1) hx hb dX12_keep_49 (by decide) ?_
          replace q := ck_s q
          obtain ⟨hin, q⟩ := q
          refine x_zast hx hb hX M ra_10 rfl (inb_in hin) dX12_keep_50 (fun H locs M => ?_)
          replace q := gen_g M q
          obtain ⟨g_11, -, M, q⟩ := q
          refine lv_iconst (v := 1) hx hb dX12_keep_51 (by decide) ?_
          cases q
          exact x_zret hx hb hr hlk rfl M Ext.rf dX12_keep_52
        · replace q := if_f c_9 q
          refine lv_iconst (v := 0) hx hb dX12_keep_36 (by decide) ?_
          cases q
          exact x_zret hx hb hr hlk rfl M Ext.rf dX12_keep_37
set_option maxRecDepth 100000 in
theorem c_X12_keep {l : Launch} {D : va_G} {cA : Nat → ClassId} {lo tS N : Nat} {S : Hs} {g g1 : Hg} {rv : Int32} {a0 : Nat} {x1 : Int32} {x2 : Int32} (ra0 : Rf lo S a0 12) (q : f_X12_keep N S g a0 x1 x2 = some (rv, g1)) {d : Nat} (hd : 2 ≤ d) : Ctr l yX12_keep cX12_keep 3 (some .boolean) D cA lo tS [.ref a0, .int x1, .int x2] S g d (some (.int rv)) S g1 True 0 0 := by
  refine x_met (by decide) (Nat.le_of_ble_eq_true rfl) ?_
  intro p e s m below meth c ls hx hb hml hr hlk hown hnm hX M hl
  exact w_X12_keep_0 hx hb hml hr hlk hown hX hd (Nat.mul_le_mul_left 60 hd) (N := N) _ _ _ _ _ _ _ M ra0 (lv_sub hl [0, 1, 2] rfl) q
def b_X12_lag_0 (N : Nat) (S : Hs) (g : Hg) (a0 : Nat) (x1 : Int32) (x2 : Int32) : Option (Int32 × Hg) :=
c2 (f_X12_say N S g a0 x1 x2 (0 : Int32)) (fun x_2 g_1 =>
ck (zb x_2) (
some (x_2, g_1)))
def f_X12_lag (N : Nat) (S : Hs) (g : Hg) (a0 : Nat) (x1 : Int32) (x2 : Int32) : Option (Int32 × Hg) := b_X12_lag_0 N S g a0 x1 x2
set_option maxHeartbeats 4000000 in
set_option maxRecDepth 100000 in
theorem w_X12_lag_0 (hx : p.tables.exec = Jvm.exec) (hb : c.code = cX12_lag) (hml : c.maxLocals = 3) (hr : meth.sig.returnType = (some .boolean)) (hlk : meth.locks = false) (hown : s.vm.findClass RX12 = some m.cls) (hX : Kx D cA lo tS s) (hRf : 3 ≤ R.frames) (hRl : 180 ≤ R.locals) {N : Nat} {rv : Int32} {g1 : Hg} {S : Hs} : ∀ (H : Heap) (locs : List Loc) (ls : Array Slot) (g : Hg) (a0 : Nat) (x1 : Int32) (x2 : Int32), Mm D cA lo S g s H locs → Rf lo S a0 12 → lv_has ls 3 [(0, .ref a0), (1, .int x1), (2, .int x2)] → b_X12_lag_0 N S g a0 x1 x2 = some (rv, g1) → W p l e R s m args below meth c H locs 0 0 (MQ below (Qcx D cA lo S (some (.int rv)) S g1 True) args s 0 0 (fun q : Nat => lo ≤ q)) (F0 m 0 ls []) := by
  intro H locs ls g a0 x1 x2 M ra0 hl q
  unfold b_X12_lag_0 at q
  refine lv_aload_n hx hb dX12_lag_0 rfl (lv_at hl 0 rfl) ?_
  refine lv_iload_n hx hb dX12_lag_1 rfl (lv_at hl 1 rfl) ?_
  refine lv_iload_n hx hb dX12_lag_2 rfl (lv_at hl 2 rfl) ?_
  refine lv_iconst (v := 0) hx hb dX12_lag_3 (by decide) ?_
  replace q := c2_s q
  obtain ⟨x_2, g_1, qc, q⟩ := q
  refine x_callV hx hb hml hl.1 hown hX M (S1 := S) (As := [.int x1, .int x2, .int (0 : Int32)]) (rest := []) okX12 ra0 rfl kw_1241 kw_17 mok_X12_say (c_X12_say ra0 qc (Nat.le_refl 2)) kw_1239 rfl rfl dX12_lag_4 (Nat.le_of_ble_eq_true rfl) ⟨Nat.le_trans (by decide) hRf, Nat.le_trans (by decide) hRl⟩ (Nat.zero_le _) (Nat.zero_le _) (fun H locs M hEF => ?_)
  replace q := ck_s q
  obtain ⟨hz, q⟩ := q
  cases q
  exact x_zret hx hb hr hlk (zb_nar hz) M Ext.rf dX12_lag_7
set_option maxRecDepth 100000 in
theorem c_X12_lag {l : Launch} {D : va_G} {cA : Nat → ClassId} {lo tS N : Nat} {S : Hs} {g g1 : Hg} {rv : Int32} {a0 : Nat} {x1 : Int32} {x2 : Int32} (ra0 : Rf lo S a0 12) (q : f_X12_lag N S g a0 x1 x2 = some (rv, g1)) {d : Nat} (hd : 3 ≤ d) : Ctr l yX12_lag cX12_lag 3 (some .boolean) D cA lo tS [.ref a0, .int x1, .int x2] S g d (some (.int rv)) S g1 True 0 0 := by
  refine x_met (by decide) (Nat.le_of_ble_eq_true rfl) ?_
  intro p e s m below meth c ls hx hb hml hr hlk hown hnm hX M hl
  exact w_X12_lag_0 hx hb hml hr hlk hown hX hd (Nat.mul_le_mul_left 60 hd) (N := N) _ _ _ _ _ _ _ M ra0 (lv_sub hl [0, 1, 2] rfl) q
def b_X12_latest_17 (N : Nat) (S : Hs) (k17 : Hg → Nat → Int32 → Int32 → Int32 → Int32 → Int32 → Option (Int32 × Hg)) (g : Hg) (a0 : Nat) (x1 : Int32) (x2 : Int32) (x3 : Int32) (x4 : Int32) (x5 : Int32) : Option (Int32 × Hg) :=
if x2 ≤ x5 then (
some (x4, g)) else (
nn (rdR g a0 2) (fun a_2 =>
ck (inb (((400 : Int32) * x1) + x5) (hpL S a_2)) (
if (rdI g a_2 (((400 : Int32) * x1) + x5).toNatClampNeg) = x3 then (
c2 (f_X12_counts N S g a0 x1 x2 x5) (fun x_6 g_5 =>
if x_6 = 0 then (
nm (x5 + 1) (fun x_8 =>
k17 g_5 a0 x1 x2 x3 x4 x_8)) else (
nm (x5 + 1) (fun x_9 =>
k17 g_5 a0 x1 x2 x3 x5 x_9)))) else (
nm (x5 + 1) (fun x_4 =>
k17 g a0 x1 x2 x3 x4 x_4)))))
def n_X12_latest_17 (N : Nat) (S : Hs) : Nat → Hg → Nat → Int32 → Int32 → Int32 → Int32 → Int32 → Option (Int32 × Hg)
  | 0 => fun _ _ _ _ _ _ _ => none
  | n + 1 => fun g a0 x1 x2 x3 x4 x5 => b_X12_latest_17 N S (n_X12_latest_17 N S n) g a0 x1 x2 x3 x4 x5
def b_X12_latest_0 (N : Nat) (S : Hs) (g : Hg) (a0 : Nat) (x1 : Int32) (x2 : Int32) (x3 : Int32) : Option (Int32 × Hg) :=
c2 (f_X12_isCount N S g a0 x1 x2) (fun x_2 g_1 =>
if x_2 = 0 then (
some ((-1 : Int32), g_1)) else (
n_X12_latest_17 N S N g_1 a0 x1 x2 x3 (-1 : Int32) (0 : Int32)))
def f_X12_latest (N : Nat) (S : Hs) (g : Hg) (a0 : Nat) (x1 : Int32) (x2 : Int32) (x3 : Int32) : Option (Int32 × Hg) := b_X12_latest_0 N S g a0 x1 x2 x3
set_option maxHeartbeats 4000000 in
set_option maxRecDepth 100000 in
theorem w_X12_latest_17 (hx : p.tables.exec = Jvm.exec) (hb : c.code = cX12_latest) (hml : c.maxLocals = 6) (hr : meth.sig.returnType = (some .int)) (hlk : meth.locks = false) (hown : s.vm.findClass RX12 = some m.cls) (hX : Kx D cA lo tS s) (hRf : 3 ≤ R.frames) (hRl : 180 ≤ R.locals) {N : Nat} {rv : Int32} {g1 : Hg} {S : Hs} {k17 : Hg → Nat → Int32 → Int32 → Int32 → Int32 → Int32 → Option (Int32 × Hg)} (hk17 : ∀ (H : Heap) (locs : List Loc) (ls : Array Slot) (g : Hg) (a0 : Nat) (x1 : Int32) (x2 : Int32) (x3 : Int32) (x4 : Int32) (x5 : Int32), Mm D cA lo S g s H locs → Rf lo S a0 12 → lv_has ls 6 [(0, .ref a0), (1, .int x1), (2, .int x2), (3, .int x3), (4, .int x4), (5, .int x5)] → k17 g a0 x1 x2 x3 x4 x5 = some (rv, g1) → W p l e R s m args below meth c H locs 0 0 (MQ below (Qcx D cA lo S (some (.int rv)) S g1 True) args s 0 0 (fun q : Nat => lo ≤ q)) (F0 m 17 ls [])) : ∀ (H : Heap) (locs : List Loc) (ls : Array Slot) (g : Hg) (a0 : Nat) (x1 : Int32) (x2 : Int32) (x3 : Int32) (x4 : Int32) (x5 : Int32), Mm D cA lo S g s H locs → Rf lo S a0 12 → lv_has ls 6 [(0, .ref a0), (1, .int x1), (2, .int x2), (3, .int x3), (4, .int x4), (5, .int x5)] → b_X12_latest_17 N S k17 g a0 x1 x2 x3 x4 x5 = some (rv, g1) → W p l e R s m args below meth c H locs 0 0 (MQ below (Qcx D cA lo S (some (.int rv)) S g1 True) args s 0 0 (fun q : Nat => lo ≤ q)) (F0 m 17 ls []) := by
  intro H locs ls g a0 x1 x2 x3 x4 x5 M ra0 hl q
  unfold b_X12_latest_17 at q
  refine lv_iload hx hb dX12_latest_17 (lv_at hl 5 rfl) ?_
  refine lv_iload_n hx hb dX12_latest_19 rfl (lv_at hl 2 rfl) ?_
  refine lv_icmp_ge (tgt := 61) hx hb dX12_latest_20 (by decide) (fun c_1 => ?_) (fun c_1 => ?_)
  · replace q := if_t c_1 q
    refine lv_iload hx hb dX12_latest_61 (lv_at hl 4 rfl) ?_
    cases q
    exact x_iret hx hb hr hlk M Ext.rf dX12_latest_63
  · replace q := if_f c_1 q
    refine lv_aload_n hx hb dX12_latest_23 rfl (lv_at hl 0 rfl) ?_
    replace q := nn_s q
    obtain ⟨a_2, e_a_2, q⟩ := q
    refine x_getR hx hb hown hX M e_a_2 okX12 ra0 (by decide) rfl kw_1014 dX12_latest_24 (fun ra_2 => ?_)
    refine lv_sipush (v := 400) hx hb dX12_latest_27 (by decide) ?_
    refine lv_iload_n hx hb dX12_latest_30 rfl (lv_at hl 1 rfl) ?_
    refine lv_imul hx hb dX12_latest_31 ?_
    refine lv_iload hx hb dX12_latest_32 (lv_at hl 5 rfl) ?_
    refine lv_iadd hx hb dX12_latest_34 ?_
    replace q := ck_s q
    obtain ⟨hin, q⟩ := q
    refine x_iald hx hb hX M ra_2 (inb_in hin) dX12_latest_35 ?_
    refine lv_iload_n hx hb dX12_latest_36 rfl (lv_at hl 3 rfl) ?_
    refine lv_icmp_ne (tgt := 55) hx hb dX12_latest_37 (by decide) (fun c_3 => ?_) (fun c_3 => ?_)
    · replace q := if_f c_3 q
      obtain ⟨x_4, e_x_4⟩ : ∃ y : Int32, y = x5 + 1 := ⟨_, rfl⟩
      replace q := nm_s q e_x_4
      refine lv_iinc (v := x_4) (lv' := [(5, .int x_4), (0, .ref a0), (1, .int x1), (2, .int x2), (3, .int x3), (4, .int x4)]) hx hb dX12_latest_55 hl (k := 5) rfl (by rw [e_x_4]; rfl) (by decide) rfl (fun ls hl => ?_)
      refine lv_goto (tgt := 17) hx hb dX12_latest_58 (by decide) ?_
      exact hk17 _ _ _ _ _ _ _ _ _ _ M ra0 (lv_sub hl [1, 2, 3, 4, 5, 0] rfl) q
    · replace q := if_t c_3 q
      refine lv_aload_n hx hb dX12_latest_40 rfl (lv_at hl 0 rfl) ?_
      refine lv_iload_n hx hb dX12_latest_41 rfl (lv_at hl 1 rfl) ?_
      refine lv_iload_n hx hb dX12_latest_42 rfl (lv_at hl 2 rfl) ?_
      refine lv_iload hx hb dX12_latest_43 (lv_at hl 5 rfl) ?_
      replace q := c2_s q
      obtain ⟨x_6, g_5, qc, q⟩ := q
      refine x_callV hx hb hml hl.1 hown hX M (S1 := S) (As := [.int x1, .int x2, .int x5]) (rest := []) okX12 ra0 rfl kw_1269 kw_20 mok_X12_counts (c_X12_counts ra0 qc (Nat.le_refl 2)) kw_1267 rfl rfl dX12_latest_45 (Nat.le_of_ble_eq_true rfl) ⟨Nat.le_trans (by decide) hRf, Nat.le_trans (by decide) hRl⟩ (Nat.zero_le _) (Nat.zero_le _) (fun H locs M hEF => ?_)
      refine lv_if_eq (tgt := 55) hx hb dX12_latest_48 (by decide) (fun c_7 => ?_) (fun c_7 => ?_)
      · replace q := if_t c_7 q
        obtain ⟨x_8, e_x_8⟩ : ∃ y : Int32, y = x5 + 1 := ⟨_, rfl⟩
        replace q := nm_s q e_x_8
        refine lv_iinc (v := x_8) (lv' := [(5, .int x_8), (0, .ref a0), (1, .int x1), (2, .int x2), (3, .int x3), (4, .int x4)]) hx hb dX12_latest_55 hl (k := 5) rfl (by rw [e_x_8]; rfl) (by decide) rfl (fun ls hl => ?_)
        refine lv_goto (tgt := 17) hx hb dX12_latest_58 (by decide) ?_
        exact hk17 _ _ _ _ _ _ _ _ _ _ M ra0 (lv_sub hl [1, 2, 3, 4, 5, 0] rfl) q
      · replace q := if_f c_7 q
        refine lv_iload hx hb dX12_latest_51 (lv_at hl 5 rfl) ?_
        refine lv_istore (lv' := [(4, .int x5), (0, .ref a0), (1, .int x1), (2, .int x2), (3, .int x3), (5, .int x5)]) hx hb dX12_latest_53 hl (by decide) rfl (fun ls hl => ?_)
        obtain ⟨x_9, e_x_9⟩ : ∃ y : Int32, y = x5 + 1 := ⟨_, rfl⟩
        replace q := nm_s q e_x_9
        refine lv_iinc (v := x_9) (lv' := [(5, .int x_9), (4, .int x5), (0, .ref a0), (1, .int x1), (2, .int x2), (3, .int x3)]) hx hb dX12_latest_55 hl (k := 5) rfl (by rw [e_x_9]; rfl) (by decide) rfl (fun ls hl => ?_)
        refine lv_goto (tgt := 17) hx hb dX12_latest_58 (by decide) ?_
        exact hk17 _ _ _ _ _ _ _ _ _ _ M ra0 (lv_sub hl [2, 3, 4, 5, 1, 0] rfl) q
set_option maxRecDepth 100000 in
theorem l_X12_latest_17 (hx : p.tables.exec = Jvm.exec) (hb : c.code = cX12_latest) (hml : c.maxLocals = 6) (hr : meth.sig.returnType = (some .int)) (hlk : meth.locks = false) (hown : s.vm.findClass RX12 = some m.cls) (hX : Kx D cA lo tS s) (hRf : 3 ≤ R.frames) (hRl : 180 ≤ R.locals) {N : Nat} {rv : Int32} {g1 : Hg} {S : Hs} : ∀ (n : Nat), ∀ (H : Heap) (locs : List Loc) (ls : Array Slot) (g : Hg) (a0 : Nat) (x1 : Int32) (x2 : Int32) (x3 : Int32) (x4 : Int32) (x5 : Int32), Mm D cA lo S g s H locs → Rf lo S a0 12 → lv_has ls 6 [(0, .ref a0), (1, .int x1), (2, .int x2), (3, .int x3), (4, .int x4), (5, .int x5)] → n_X12_latest_17 N S n g a0 x1 x2 x3 x4 x5 = some (rv, g1) → W p l e R s m args below meth c H locs 0 0 (MQ below (Qcx D cA lo S (some (.int rv)) S g1 True) args s 0 0 (fun q : Nat => lo ≤ q)) (F0 m 17 ls []) := by
  intro n
  induction n with
  | zero =>
    intro H locs ls g a0 x1 x2 x3 x4 x5 M ra0 hl q
    exact absurd q (by simp [n_X12_latest_17])
  | succ n ih => exact w_X12_latest_17 hx hb hml hr hlk hown hX hRf hRl (N := N)  ih
set_option maxHeartbeats 4000000 in
set_option maxRecDepth 100000 in
theorem w_X12_latest_0 (hx : p.tables.exec = Jvm.exec) (hb : c.code = cX12_latest) (hml : c.maxLocals = 6) (hr : meth.sig.returnType = (some .int)) (hlk : meth.locks = false) (hown : s.vm.findClass RX12 = some m.cls) (hX : Kx D cA lo tS s) (hRf : 3 ≤ R.frames) (hRl : 180 ≤ R.locals) {N : Nat} {rv : Int32} {g1 : Hg} {S : Hs} : ∀ (H : Heap) (locs : List Loc) (ls : Array Slot) (g : Hg) (a0 : Nat) (x1 : Int32) (x2 : Int32) (x3 : Int32), Mm D cA lo S g s H locs → Rf lo S a0 12 → lv_has ls 6 [(0, .ref a0), (1, .int x1), (2, .int x2), (3, .int x3)] → b_X12_latest_0 N S g a0 x1 x2 x3 = some (rv, g1) → W p l e R s m args below meth c H locs 0 0 (MQ below (Qcx D cA lo S (some (.int rv)) S g1 True) args s 0 0 (fun q : Nat => lo ≤ q)) (F0 m 0 ls []) := by
  intro H locs ls g a0 x1 x2 x3 M ra0 hl q
  unfold b_X12_latest_0 at q
  refine lv_aload_n hx hb dX12_latest_0 rfl (lv_at hl 0 rfl) ?_
  refine lv_iload_n hx hb dX12_latest_1 rfl (lv_at hl 1 rfl) ?_
  refine lv_iload_n hx hb dX12_latest_2 rfl (lv_at hl 2 rfl) ?_
  replace q := c2_s q
  obtain ⟨x_2, g_1, qc, q⟩ := q
  refine x_callV hx hb hml hl.1 hown hX M (S1 := S) (As := [.int x1, .int x2]) (rest := []) okX12 ra0 rfl kw_1233 kw_16 mok_X12_isCount (c_X12_isCount ra0 qc (Nat.le_refl 2)) kw_1231 rfl rfl dX12_latest_3 (Nat.le_of_ble_eq_true rfl) ⟨Nat.le_trans (by decide) hRf, Nat.le_trans (by decide) hRl⟩ (Nat.zero_le _) (Nat.zero_le _) (fun H locs M hEF => ?_)
  refine lv_if_ne (tgt := 11) hx hb dX12_latest_6 (by decide) (fun c_3 => ?_) (fun c_3 => ?_)
  · replace q := if_f c_3 q
    refine lv_iconst (v := -1) hx hb dX12_latest_11 (by decide) ?_
    refine lv_istore (lv' := [(4, .int (-1 : Int32)), (0, .ref a0), (1, .int x1), (2, .int x2), (3, .int x3)]) hx hb dX12_latest_12 hl (by decide) rfl (fun ls hl => ?_)
    refine lv_iconst (v := 0) hx hb dX12_latest_14 (by decide) ?_
    refine lv_istore (lv' := [(5, .int (0 : Int32)), (4, .int (-1 : Int32)), (0, .ref a0), (1, .int x1), (2, .int x2), (3, .int x3)]) hx hb dX12_latest_15 hl (by decide) rfl (fun ls hl => ?_)
    exact l_X12_latest_17 hx hb hml hr hlk hown hX hRf hRl (N := N)  N _ _ _ _ _ _ _ _ _ _ M ra0 (lv_sub hl [2, 3, 4, 5, 1, 0] rfl) q
  · replace q := if_t c_3 q
    refine lv_iconst (v := -1) hx hb dX12_latest_9 (by decide) ?_
    cases q
    exact x_iret hx hb hr hlk M Ext.rf dX12_latest_10
set_option maxRecDepth 100000 in
theorem c_X12_latest {l : Launch} {D : va_G} {cA : Nat → ClassId} {lo tS N : Nat} {S : Hs} {g g1 : Hg} {rv : Int32} {a0 : Nat} {x1 : Int32} {x2 : Int32} {x3 : Int32} (ra0 : Rf lo S a0 12) (q : f_X12_latest N S g a0 x1 x2 x3 = some (rv, g1)) {d : Nat} (hd : 3 ≤ d) : Ctr l yX12_latest cX12_latest 6 (some .int) D cA lo tS [.ref a0, .int x1, .int x2, .int x3] S g d (some (.int rv)) S g1 True 0 0 := by
  refine x_met (by decide) (Nat.le_of_ble_eq_true rfl) ?_
  intro p e s m below meth c ls hx hb hml hr hlk hown hnm hX M hl
  exact w_X12_latest_0 hx hb hml hr hlk hown hX hd (Nat.mul_le_mul_left 60 hd) (N := N) _ _ _ _ _ _ _ _ M ra0 (lv_sub hl [0, 1, 2, 3] rfl) q
def b_X12_open_0 (N : Nat) (S : Hs) (g : Hg) (a0 : Nat) (x1 : Int32) : Option (Int32 × Hg) :=
if x1 < 0 then (
some ((-1 : Int32), g)) else (
if (3 : Int32) < x1 then (
some ((-1 : Int32), g)) else (
if (rdI g a0 1) = (6 : Int32) then (
some ((-1 : Int32), g)) else (
nn (rdR g a0 0) (fun a_4 =>
ck (inb ((4 : Int32) * (rdI g a0 1)) (hpL S a_4)) (
nm (wrI g a_4 ((4 : Int32) * (rdI g a0 1)).toNatClampNeg x1) (fun g_5 =>
nn (rdR g_5 a0 0) (fun a_6 =>
ck (inb (((4 : Int32) * (rdI g_5 a0 1)) + (1 : Int32)) (hpL S a_6)) (
nm (wrI g_5 a_6 (((4 : Int32) * (rdI g_5 a0 1)) + (1 : Int32)).toNatClampNeg (0 : Int32)) (fun g_7 =>
nn (rdR g_7 a0 0) (fun a_8 =>
ck (inb (((4 : Int32) * (rdI g_7 a0 1)) + (2 : Int32)) (hpL S a_8)) (
nm (wrI g_7 a_8 (((4 : Int32) * (rdI g_7 a0 1)) + (2 : Int32)).toNatClampNeg (0 : Int32)) (fun g_9 =>
nn (rdR g_9 a0 0) (fun a_10 =>
ck (inb (((4 : Int32) * (rdI g_9 a0 1)) + (3 : Int32)) (hpL S a_10)) (
nm (wrI g_9 a_10 (((4 : Int32) * (rdI g_9 a0 1)) + (3 : Int32)).toNatClampNeg (0 : Int32)) (fun g_11 =>
nm (wrI g_11 a0 1 ((rdI g_11 a0 1) + (1 : Int32))) (fun g_12 =>
some (((rdI g_12 a0 1) - (1 : Int32)), g_12)))))))))))))))))
def f_X12_open (N : Nat) (S : Hs) (g : Hg) (a0 : Nat) (x1 : Int32) : Option (Int32 × Hg) := b_X12_open_0 N S g a0 x1
set_option maxHeartbeats 4000000 in
set_option maxRecDepth 100000 in
theorem w_X12_open_0 (hx : p.tables.exec = Jvm.exec) (hb : c.code = cX12_open) (hml : c.maxLocals = 2) (hr : meth.sig.returnType = (some .int)) (hlk : meth.locks = false) (hown : s.vm.findClass RX12 = some m.cls) (hX : Kx D cA lo tS s) (hRf : 1 ≤ R.frames) (hRl : 60 ≤ R.locals) {N : Nat} {rv : Int32} {g1 : Hg} {S : Hs} : ∀ (H : Heap) (locs : List Loc) (ls : Array Slot) (g : Hg) (a0 : Nat) (x1 : Int32), Mm D cA lo S g s H locs → Rf lo S a0 12 → lv_has ls 2 [(0, .ref a0), (1, .int x1)] → b_X12_open_0 N S g a0 x1 = some (rv, g1) → W p l e R s m args below meth c H locs 0 0 (MQ below (Qcx D cA lo S (some (.int rv)) S g1 True) args s 0 0 (fun q : Nat => lo ≤ q)) (F0 m 0 ls []) := by
  intro H locs ls g a0 x1 M ra0 hl q
  unfold b_X12_open_0 at q
  refine lv_iload_n hx hb dX12_open_0 rfl (lv_at hl 1 rfl) ?_
  refine lv_if_lt (tgt := 18) hx hb dX12_open_1 (by decide) (fun c_1 => ?_) (fun c_1 => ?_)
  · replace q := if_t c_1 q
    refine lv_iconst (v := -1) hx hb dX12_open_18 (by decide) ?_
    cases q
    exact x_iret hx hb hr hlk M Ext.rf dX12_open_19
  · replace q := if_f c_1 q
    refine lv_iload_n hx hb dX12_open_4 rfl (lv_at hl 1 rfl) ?_
    refine lv_iconst (v := 3) hx hb dX12_open_5 (by decide) ?_
    refine lv_icmp_gt (tgt := 18) hx hb dX12_open_6 (by decide) (fun c_2 => ?_) (fun c_2 => ?_)
    · replace q := if_t c_2 q
      refine lv_iconst (v := -1) hx hb dX12_open_18 (by decide) ?_
      cases q
      exact x_iret hx hb hr hlk M Ext.rf dX12_open_19
    · replace q := if_f c_2 q
      refine lv_aload_n hx hb dX12_open_9 rfl (lv_at hl 0 rfl) ?_
      refine x_getI hx hb hown hX M (k := 1) okX12 ra0 (by decide) rfl kw_1013 dX12_open_10 ?_
      refine lv_bipush (v := 6) hx hb dX12_open_13 (by decide) ?_
      refine lv_icmp_ne (tgt := 20) hx hb dX12_open_15 (by decide) (fun c_3 => ?_) (fun c_3 => ?_)
      · replace q := if_f c_3 q
        refine lv_aload_n hx hb dX12_open_20 rfl (lv_at hl 0 rfl) ?_
        replace q := nn_s q
        obtain ⟨a_4, e_a_4, q⟩ := q
        refine x_getR hx hb hown hX M e_a_4 okX12 ra0 (by decide) rfl kw_1012 dX12_open_21 (fun ra_4 => ?_)
        refine lv_iconst (v := 4) hx hb dX12_open_24 (by decide) ?_
        refine lv_aload_n hx hb dX12_open_25 rfl (lv_at hl 0 rfl) ?_
        refine x_getI hx hb hown hX M (k := 1) okX12 ra0 (by decide) rfl kw_1013 dX12_open_26 ?_
        refine lv_imul hx hb dX12_open_29 ?_
        refine lv_iload_n hx hb dX12_open_30 rfl (lv_at hl 1 rfl) ?_
        replace q := ck_s q
        obtain ⟨hin, q⟩ := q
        refine x_iast hx hb hX M ra_4 (inb_in hin) dX12_open_31 (fun H locs M => ?_)
        replace q := gen_g M q
        obtain ⟨g_5, -, M, q⟩ := q
        refine lv_aload_n hx hb dX12_open_32 rfl (lv_at hl 0 rfl) ?_
        replace q := nn_s q
        obtain ⟨a_6, e_a_6, q⟩ := q
        refine x_getR hx hb hown hX M e_a_6 okX12 ra0 (by decide) rfl kw_1012 dX12_open_33 (fun ra_6 => ?_)
        refine lv_iconst (v := 4) hx hb dX12_open_36 (by decide) ?_
        refine lv_aload_n hx hb dX12_open_37 rfl (lv_at hl 0 rfl) ?_
        refine x_getI hx hb hown hX M (k := 1) okX12 ra0 (by decide) rfl kw_1013 dX12_open_38 ?_
        refine lv_imul hx hb dX12_open_41 ?_
        refine lv_iconst (v := 1) hx hb dX12_open_42 (by decide) ?_
        refine lv_iadd hx hb dX12_open_43 ?_
        refine lv_iconst (v := 0) hx hb dX12_open_44 (by decide) ?_
        replace q := ck_s q
        obtain ⟨hin, q⟩ := q
        refine x_iast hx hb hX M ra_6 (inb_in hin) dX12_open_45 (fun H locs M => ?_)
        replace q := gen_g M q
        obtain ⟨g_7, -, M, q⟩ := q
        refine lv_aload_n hx hb dX12_open_46 rfl (lv_at hl 0 rfl) ?_
        replace q := nn_s q
        obtain ⟨a_8, e_a_8, q⟩ := q
        refine x_getR hx hb hown hX M e_a_8 okX12 ra0 (by decide) rfl kw_1012 dX12_open_47 (fun ra_8 => ?_)
        refine lv_iconst (v := 4) hx hb dX12_open_50 (by decide) ?_
        refine lv_aload_n hx hb dX12_open_51 rfl (lv_at hl 0 rfl) ?_
        refine x_getI hx hb hown hX M (k := 1) okX12 ra0 (by decide) rfl kw_1013 dX12_open_52 ?_
        refine lv_imul hx hb dX12_open_55 ?_
        refine lv_iconst (v := 2) hx hb dX12_open_56 (by decide) ?_
        refine lv_iadd hx hb dX12_open_57 ?_
        refine lv_iconst (v := 0) hx hb dX12_open_58 (by decide) ?_
        replace q := ck_s q
        obtain ⟨hin, q⟩ := q
        refine x_iast hx hb hX M ra_8 (inb_in hin) dX12_open_59 (fun H locs M => ?_)
        replace q := gen_g M q
        obtain ⟨g_9, -, M, q⟩ := q
        refine lv_aload_n hx hb dX12_open_60 rfl (lv_at hl 0 rfl) ?_
        replace q := nn_s q
        obtain ⟨a_10, e_a_10, q⟩ := q
        refine x_getR hx hb hown hX M e_a_10 okX12 ra0 (by decide) rfl kw_1012 dX12_open_61 (fun ra_10 => ?_)
        refine lv_iconst (v := 4) hx hb dX12_open_64 (by decide) ?_
        refine lv_aload_n hx hb dX12_open_65 rfl (lv_at hl 0 rfl) ?_
        refine x_getI hx hb hown hX M (k := 1) okX12 ra0 (by decide) rfl kw_1013 dX12_open_66 ?_
        refine lv_imul hx hb dX12_open_69 ?_
        refine lv_iconst (v := 3) hx hb dX12_open_70 (by decide) ?_
        refine lv_iadd hx hb dX12_open_71 ?_
        refine lv_iconst (v := 0) hx hb dX12_open_72 (by decide) ?_
        replace q := ck_s q
        obtain ⟨hin, q⟩ := q
        refine x_iast hx hb hX M ra_10 (inb_in hin) dX12_open_73 (fun H locs M => ?_)
        replace q := gen_g M q
        obtain ⟨g_11, -, M, q⟩ := q
        refine lv_aload_n hx hb dX12_open_74 rfl (lv_at hl 0 rfl) ?_
        refine lv_dup hx hb dX12_open_75 rfl ?_
        refine x_getI hx hb hown hX M (k := 1) okX12 ra0 (by decide) rfl kw_1013 dX12_open_76 ?_
        refine lv_iconst (v := 1) hx hb dX12_open_79 (by decide) ?_
        refine lv_iadd hx hb dX12_open_80 ?_
        refine x_putI hx hb hown hX M (k := 1) okX12 ra0 (by decide) rfl (Or.inl rfl) rfl rfl kw_1013 dX12_open_81 (fun H locs M => ?_)
        replace q := gen_g M q
        obtain ⟨g_12, -, M, q⟩ := q
        refine lv_aload_n hx hb dX12_open_84 rfl (lv_at hl 0 rfl) ?_
        refine x_getI hx hb hown hX M (k := 1) okX12 ra0 (by decide) rfl kw_1013 dX12_open_85 ?_
        refine lv_iconst (v := 1) hx hb dX12_open_88 (by decide) ?_
        refine lv_isub hx hb dX12_open_89 ?_
        cases q
        exact x_iret hx hb hr hlk M Ext.rf dX12_open_90
      · replace q := if_t c_3 q
        refine lv_iconst (v := -1) hx hb dX12_open_18 (by decide) ?_
        cases q
        exact x_iret hx hb hr hlk M Ext.rf dX12_open_19
set_option maxRecDepth 100000 in
theorem c_X12_open {l : Launch} {D : va_G} {cA : Nat → ClassId} {lo tS N : Nat} {S : Hs} {g g1 : Hg} {rv : Int32} {a0 : Nat} {x1 : Int32} (ra0 : Rf lo S a0 12) (q : f_X12_open N S g a0 x1 = some (rv, g1)) {d : Nat} (hd : 1 ≤ d) : Ctr l yX12_open cX12_open 2 (some .int) D cA lo tS [.ref a0, .int x1] S g d (some (.int rv)) S g1 True 0 0 := by
  refine x_met (by decide) (Nat.le_of_ble_eq_true rfl) ?_
  intro p e s m below meth c ls hx hb hml hr hlk hown hnm hX M hl
  exact w_X12_open_0 hx hb hml hr hlk hown hX hd (Nat.mul_le_mul_left 60 hd) (N := N) _ _ _ _ _ _ M ra0 (lv_sub hl [0, 1] rfl) q
end W18
