section W0
variable {p : Program} {l : Launch} {e : Env} {R : Room} {s : State} {m : MethodId} {args : Array Value} {below : List Frame} {meth : Method} {c : Code} {D : va_G} {cA : Nat → ClassId} {lo tS : Nat}
def b_J7_copyOf_59c91_0 (N : Nat) (S : Hs) (g : Hg) (a0 : Nat) (x1 : Int32) : Option (Option Nat × Hs × Hg × Nat × Nat) :=
if x1 = (nI (hpL S a0)) then (
none) else (
ck (lenok x1) (
al S g 20 x1.toNatClampNeg (fun a_7 S_2 g_3 =>
ck (cpok (0 : Int32) (0 : Int32) (if x1 < (nI (hpL S_2 a0)) then x1 else (nI (hpL S_2 a0))) (hpL S_2 a0) (hpL S_2 a_7)) (
nm (cpI g_3 a0 (0 : Int32).toNatClampNeg a_7 (0 : Int32).toNatClampNeg (if x1 < (nI (hpL S_2 a0)) then x1 else (nI (hpL S_2 a0))).toNatClampNeg) (fun g_8 =>
some ((some a_7), S_2, g_8, 0, 0))))))
def f_J7_copyOf_59c91 (N : Nat) (S : Hs) (g : Hg) (a0 : Nat) (x1 : Int32) : Option (Option Nat × Hs × Hg × Nat × Nat) := b_J7_copyOf_59c91_0 N S g a0 x1
set_option maxHeartbeats 4000000 in
set_option maxRecDepth 100000 in
theorem w_J7_copyOf_59c91_0 (hx : p.tables.exec = Jvm.exec) (hb : c.code = cJ7_copyOf_59c91) (hml : c.maxLocals = 3) (hr : meth.sig.returnType = (some (.array .int))) (hlk : meth.locks = false) (hown : s.vm.findClass RJ7 = some m.cls) (hX : Kx D cA lo tS s) (hRf : 2 ≤ R.frames) (hRl : 120 ≤ R.locals) {N : Nat} {rv : Option Nat} {g1 : Hg} {S0 S1 : Hs} {cT wT : Nat} (hRc : cT ≤ R.cells) (hRs : wT ≤ R.slots) : ∀ (H : Heap) (locs : List Loc) (ls : Array Slot) (cells slots k w : Nat) (S : Hs) (g : Hg) (a0 : Nat) (x1 : Int32), Mm D cA lo S g s H locs → Ext lo S0 S → Rf lo S a0 20 → lv_has ls 3 [(0, .ref a0), (1, .int x1)] → b_J7_copyOf_59c91_0 N S g a0 x1 = some (rv, S1, g1, k, w) → cells + k = cT → slots + w = wT → W p l e R s m args below meth c H locs cells slots (MQ below (Qcx D cA lo S0 (some (va_rf rv)) S1 g1 (Ro lo S1 rv 20)) args s cT wT (fun q : Nat => lo ≤ q)) (F0 m 0 ls []) := by
  intro H locs ls cells slots k w S g a0 x1 M hE ra0 hl q hc hs
  unfold b_J7_copyOf_59c91_0 at q
  refine lv_iload_n hx hb dJ7_copyOf_59c91_0 rfl (lv_at hl 1 rfl) ?_
  refine lv_aload_n hx hb dJ7_copyOf_59c91_1 rfl (lv_at hl 0 rfl) ?_
  refine x_alen20 hx hb hX M ra0 dJ7_copyOf_59c91_2 ?_
  refine lv_icmp_ne (tgt := 14) hx hb dJ7_copyOf_59c91_3 (by decide) (fun c_1 => ?_) (fun c_1 => ?_)
  · replace q := if_f c_1 q
    refine lv_iload_n hx hb dJ7_copyOf_59c91_14 rfl (lv_at hl 1 rfl) ?_
    replace q := ck_s q
    obtain ⟨hz, q⟩ := q
    replace q := al_s q
    obtain ⟨S_2, g_3, k_4, w_5, eS, eg, ek, ew, q⟩ := q
    refine x_newa20 hx hb hX M hz (hb_step hc ek hRc) (hb_step hs ew hRs) dJ7_copyOf_59c91_15 (fun H M rn_6 hE1 => ?_)
    rw [← eS, ← eg] at M
    rw [← eS] at rn_6 hE1
    clear eS eg
    replace ra0 := ra0.ext hE1
    replace hE := hE.tr hE1
    replace hc := hc_step hc ek
    replace hs := hc_step hs ew
    clear ek ew
    refine lv_astore_n (lv' := [(2, .ref (hpN S)), (0, .ref a0), (1, .int x1)]) hx hb dJ7_copyOf_59c91_17 rfl hl (by decide) rfl (fun ls hl => ?_)
    refine lv_aload_n hx hb dJ7_copyOf_59c91_18 rfl (lv_at hl 1 rfl) ?_
    refine lv_iconst (v := 0) hx hb dJ7_copyOf_59c91_19 (by decide) ?_
    refine lv_aload_n hx hb dJ7_copyOf_59c91_20 rfl (lv_at hl 0 rfl) ?_
    refine lv_iconst (v := 0) hx hb dJ7_copyOf_59c91_21 (by decide) ?_
    refine lv_aload_n hx hb dJ7_copyOf_59c91_22 rfl (lv_at hl 1 rfl) ?_
    refine x_alen20 hx hb hX M ra0 dJ7_copyOf_59c91_23 ?_
    refine lv_iload_n hx hb dJ7_copyOf_59c91_24 rfl (lv_at hl 2 rfl) ?_
    refine va_mmin hx hb (hml.trans hl.1.symm) hown (hX.hts _ _ (mw kw_770 rfl)) (hX.hts _ _ (mw kw_771 rfl)) (hX.hts _ _ (mw kw_67 rfl)) (hX.hts _ _ (mw mok_J9_min_7cf53.1.1 rfl)) (rest := [.int (0 : Int32), .ref (hpN S), .int (0 : Int32), .ref a0]) (Nat.le_trans (by decide) hRf) (Nat.le_trans (show (([.int (0 : Int32), .ref (hpN S), .int (0 : Int32), .ref a0] : List Value).map fun v => v.category).sum + 13 ≤ 60 from Nat.le_of_ble_eq_true rfl) (Nat.le_trans (by decide) hRl)) (hz_step hc hRc) (hz_step hs hRs) dJ7_copyOf_59c91_25 ?_
    replace q := ck_s q
    obtain ⟨hz, q⟩ := q
    refine x_copyI hx hb hml hl.1 hown hX M (rest := []) kw_773 kw_an kw_as kw_ai ra0 rn_6 hz (Nat.le_of_ble_eq_true rfl) ⟨Nat.le_trans (by omega) hRf, Nat.le_trans (by omega) hRl⟩ dJ7_copyOf_59c91_28 (fun H locs M => ?_)
    replace q := gen_g M q
    obtain ⟨g_8, -, M, q⟩ := q
    refine lv_aload_n hx hb dJ7_copyOf_59c91_31 rfl (lv_at hl 0 rfl) ?_
    cases q
    have hc : cells + 1 = cT := hc
    have hs : slots + x1.toNatClampNeg = wT := hs
    subst hc
    subst hs
    exact x_aret (v := (some (hpN S))) (rn_6.ro) hx hb hr (Or.inr ⟨_, rfl⟩) hlk M hE dJ7_copyOf_59c91_32
  · replace q := if_t c_1 q
    refine lv_aload_n hx hb dJ7_copyOf_59c91_6 rfl (lv_at hl 0 rfl) ?_
    cases q
set_option maxRecDepth 100000 in
theorem c_J7_copyOf_59c91 {l : Launch} {D : va_G} {cA : Nat → ClassId} {lo tS N : Nat} {S S1 : Hs} {g g1 : Hg} {k w : Nat} {rv : Option Nat} {a0 : Nat} {x1 : Int32} (ra0 : Rf lo S a0 20) (q : f_J7_copyOf_59c91 N S g a0 x1 = some (rv, S1, g1, k, w)) {d : Nat} (hd : 2 ≤ d) : Ctr l yJ7_copyOf_59c91 cJ7_copyOf_59c91 3 (some (.array .int)) D cA lo tS [.ref a0, .int x1] S g d (some (va_rf rv)) S1 g1 (Ro lo S1 rv 20) k w := by
  refine x_met (by decide) (Nat.le_of_ble_eq_true rfl) ?_
  intro p e s m below meth c ls hx hb hml hr hlk hown hnm hX M hl
  exact w_J7_copyOf_59c91_0 hx hb hml hr hlk hown hX hd (Nat.mul_le_mul_left 60 hd) (N := N) (Nat.le_refl k) (Nat.le_refl w) _ _ _ _ _ _ _ _ _ _ _ M Ext.rf ra0 (lv_sub hl [0, 1] rfl) q (Nat.zero_add k) (Nat.zero_add w)
def b_J7_fill_53178_5 (N : Nat) (S : Hs) (k5 : Hg → Nat → Int32 → Int32 → Int32 → Option (Unit × Hg)) (g : Hg) (a0 : Nat) (x1 : Int32) (x2 : Int32) (x3 : Int32) : Option (Unit × Hg) :=
if x3 ≤ x2 then (
some ((), g)) else (
ck (inb x2 (hpL S a0)) (
nm (wrI g a0 x2.toNatClampNeg x1) (fun g_2 =>
nm (x2 + 1) (fun x_3 =>
k5 g_2 a0 x1 x_3 x3))))
def n_J7_fill_53178_5 (N : Nat) (S : Hs) : Nat → Hg → Nat → Int32 → Int32 → Int32 → Option (Unit × Hg)
  | 0 => fun _ _ _ _ _ => none
  | n + 1 => fun g a0 x1 x2 x3 => b_J7_fill_53178_5 N S (n_J7_fill_53178_5 N S n) g a0 x1 x2 x3
def b_J7_fill_53178_0 (N : Nat) (S : Hs) (g : Hg) (a0 : Nat) (x1 : Int32) : Option (Unit × Hg) :=
nm (nI (hpL S a0)) (fun x_1 =>
n_J7_fill_53178_5 N S N g a0 x1 (0 : Int32) x_1)
def f_J7_fill_53178 (N : Nat) (S : Hs) (g : Hg) (a0 : Nat) (x1 : Int32) : Option (Unit × Hg) := b_J7_fill_53178_0 N S g a0 x1
set_option maxHeartbeats 4000000 in
set_option maxRecDepth 100000 in
theorem w_J7_fill_53178_5 (hx : p.tables.exec = Jvm.exec) (hb : c.code = cJ7_fill_53178) (hml : c.maxLocals = 4) (hr : meth.sig.returnType = none) (hlk : meth.locks = false) (hown : s.vm.findClass RJ7 = some m.cls) (hX : Kx D cA lo tS s) (hRf : 1 ≤ R.frames) (hRl : 60 ≤ R.locals) {N : Nat} {rv : Unit} {g1 : Hg} {S : Hs} {k5 : Hg → Nat → Int32 → Int32 → Int32 → Option (Unit × Hg)} (hk5 : ∀ (H : Heap) (locs : List Loc) (ls : Array Slot) (g : Hg) (a0 : Nat) (x1 : Int32) (x2 : Int32) (x3 : Int32), Mm D cA lo S g s H locs → Rf lo S a0 20 → lv_has ls 4 [(0, .ref a0), (1, .int x1), (2, .int x2), (3, .int x3)] → k5 g a0 x1 x2 x3 = some (rv, g1) → W p l e R s m args below meth c H locs 0 0 (MQ below (Qcx D cA lo S none S g1 True) args s 0 0 (fun q : Nat => lo ≤ q)) (F0 m 5 ls [])) : ∀ (H : Heap) (locs : List Loc) (ls : Array Slot) (g : Hg) (a0 : Nat) (x1 : Int32) (x2 : Int32) (x3 : Int32), Mm D cA lo S g s H locs → Rf lo S a0 20 → lv_has ls 4 [(0, .ref a0), (1, .int x1), (2, .int x2), (3, .int x3)] → b_J7_fill_53178_5 N S k5 g a0 x1 x2 x3 = some (rv, g1) → W p l e R s m args below meth c H locs 0 0 (MQ below (Qcx D cA lo S none S g1 True) args s 0 0 (fun q : Nat => lo ≤ q)) (F0 m 5 ls []) := by
  intro H locs ls g a0 x1 x2 x3 M ra0 hl q
  unfold b_J7_fill_53178_5 at q
  refine lv_iload_n hx hb dJ7_fill_53178_5 rfl (lv_at hl 2 rfl) ?_
  refine lv_iload_n hx hb dJ7_fill_53178_6 rfl (lv_at hl 3 rfl) ?_
  refine lv_icmp_ge (tgt := 20) hx hb dJ7_fill_53178_7 (by decide) (fun c_1 => ?_) (fun c_1 => ?_)
  · replace q := if_t c_1 q
    cases q
    exact x_vret hx hb hr hlk M Ext.rf dJ7_fill_53178_20
  · replace q := if_f c_1 q
    refine lv_aload_n hx hb dJ7_fill_53178_10 rfl (lv_at hl 0 rfl) ?_
    refine lv_iload_n hx hb dJ7_fill_53178_11 rfl (lv_at hl 2 rfl) ?_
    refine lv_iload_n hx hb dJ7_fill_53178_12 rfl (lv_at hl 1 rfl) ?_
    replace q := ck_s q
    obtain ⟨hin, q⟩ := q
    refine x_iast hx hb hX M ra0 (inb_in hin) dJ7_fill_53178_13 (fun H locs M => ?_)
    replace q := gen_g M q
    obtain ⟨g_2, -, M, q⟩ := q
    obtain ⟨x_3, e_x_3⟩ : ∃ y : Int32, y = x2 + 1 := ⟨_, rfl⟩
    replace q := nm_s q e_x_3
    refine lv_iinc (v := x_3) (lv' := [(2, .int x_3), (0, .ref a0), (1, .int x1), (3, .int x3)]) hx hb dJ7_fill_53178_14 hl (k := 2) rfl (by rw [e_x_3]; rfl) (by decide) rfl (fun ls hl => ?_)
    refine lv_goto (tgt := 5) hx hb dJ7_fill_53178_17 (by decide) ?_
    exact hk5 _ _ _ _ _ _ _ _ M ra0 (lv_sub hl [1, 2, 0, 3] rfl) q
set_option maxRecDepth 100000 in
theorem l_J7_fill_53178_5 (hx : p.tables.exec = Jvm.exec) (hb : c.code = cJ7_fill_53178) (hml : c.maxLocals = 4) (hr : meth.sig.returnType = none) (hlk : meth.locks = false) (hown : s.vm.findClass RJ7 = some m.cls) (hX : Kx D cA lo tS s) (hRf : 1 ≤ R.frames) (hRl : 60 ≤ R.locals) {N : Nat} {rv : Unit} {g1 : Hg} {S : Hs} : ∀ (n : Nat), ∀ (H : Heap) (locs : List Loc) (ls : Array Slot) (g : Hg) (a0 : Nat) (x1 : Int32) (x2 : Int32) (x3 : Int32), Mm D cA lo S g s H locs → Rf lo S a0 20 → lv_has ls 4 [(0, .ref a0), (1, .int x1), (2, .int x2), (3, .int x3)] → n_J7_fill_53178_5 N S n g a0 x1 x2 x3 = some (rv, g1) → W p l e R s m args below meth c H locs 0 0 (MQ below (Qcx D cA lo S none S g1 True) args s 0 0 (fun q : Nat => lo ≤ q)) (F0 m 5 ls []) := by
  intro n
  induction n with
  | zero =>
    intro H locs ls g a0 x1 x2 x3 M ra0 hl q
    exact absurd q (by simp [n_J7_fill_53178_5])
  | succ n ih => exact w_J7_fill_53178_5 hx hb hml hr hlk hown hX hRf hRl (N := N)  ih
set_option maxHeartbeats 4000000 in
set_option maxRecDepth 100000 in
theorem w_J7_fill_53178_0 (hx : p.tables.exec = Jvm.exec) (hb : c.code = cJ7_fill_53178) (hml : c.maxLocals = 4) (hr : meth.sig.returnType = none) (hlk : meth.locks = false) (hown : s.vm.findClass RJ7 = some m.cls) (hX : Kx D cA lo tS s) (hRf : 1 ≤ R.frames) (hRl : 60 ≤ R.locals) {N : Nat} {rv : Unit} {g1 : Hg} {S : Hs} : ∀ (H : Heap) (locs : List Loc) (ls : Array Slot) (g : Hg) (a0 : Nat) (x1 : Int32), Mm D cA lo S g s H locs → Rf lo S a0 20 → lv_has ls 4 [(0, .ref a0), (1, .int x1)] → b_J7_fill_53178_0 N S g a0 x1 = some (rv, g1) → W p l e R s m args below meth c H locs 0 0 (MQ below (Qcx D cA lo S none S g1 True) args s 0 0 (fun q : Nat => lo ≤ q)) (F0 m 0 ls []) := by
  intro H locs ls g a0 x1 M ra0 hl q
  unfold b_J7_fill_53178_0 at q
  refine lv_iconst (v := 0) hx hb dJ7_fill_53178_0 (by decide) ?_
  refine lv_istore_n (lv' := [(2, .int (0 : Int32)), (0, .ref a0), (1, .int x1)]) hx hb dJ7_fill_53178_1 rfl hl (by decide) rfl (fun ls hl => ?_)
  refine lv_aload_n hx hb dJ7_fill_53178_2 rfl (lv_at hl 1 rfl) ?_
  refine x_alen20 hx hb hX M ra0 dJ7_fill_53178_3 ?_
  refine lv_topi (fun x_1 e_x_1 => ?_)
  replace q := nm_s q e_x_1
  refine lv_istore_n (lv' := [(3, .int x_1), (2, .int (0 : Int32)), (0, .ref a0), (1, .int x1)]) hx hb dJ7_fill_53178_4 rfl hl (by decide) rfl (fun ls hl => ?_)
  exact l_J7_fill_53178_5 hx hb hml hr hlk hown hX hRf hRl (N := N)  N _ _ _ _ _ _ _ _ M ra0 (lv_sub hl [2, 3, 1, 0] rfl) q
set_option maxRecDepth 100000 in
theorem c_J7_fill_53178 {l : Launch} {D : va_G} {cA : Nat → ClassId} {lo tS N : Nat} {S : Hs} {g g1 : Hg} {rv : Unit} {a0 : Nat} {x1 : Int32} (ra0 : Rf lo S a0 20) (q : f_J7_fill_53178 N S g a0 x1 = some (rv, g1)) {d : Nat} (hd : 1 ≤ d) : Ctr l yJ7_fill_53178 cJ7_fill_53178 4 none D cA lo tS [.ref a0, .int x1] S g d none S g1 True 0 0 := by
  refine x_met (by decide) (Nat.le_of_ble_eq_true rfl) ?_
  intro p e s m below meth c ls hx hb hml hr hlk hown hnm hX M hl
  exact w_J7_fill_53178_0 hx hb hml hr hlk hown hX hd (Nat.mul_le_mul_left 60 hd) (N := N) _ _ _ _ _ _ M ra0 (lv_sub hl [0, 1] rfl) q
def b_J7_rangeCheck_23922_0 (N : Nat) (S : Hs) (g : Hg) (x0 : Int32) (x1 : Int32) (x2 : Int32) : Option (Unit × Hg) :=
if x1 ≤ x2 then (
if 0 ≤ x1 then (
if x2 ≤ x0 then (
some ((), g)) else (
none)) else (
none)) else (
none)
def f_J7_rangeCheck_23922 (N : Nat) (S : Hs) (g : Hg) (x0 : Int32) (x1 : Int32) (x2 : Int32) : Option (Unit × Hg) := b_J7_rangeCheck_23922_0 N S g x0 x1 x2
set_option maxHeartbeats 4000000 in
set_option maxRecDepth 100000 in
theorem w_J7_rangeCheck_23922_0 (hx : p.tables.exec = Jvm.exec) (hb : c.code = cJ7_rangeCheck_23922) (hml : c.maxLocals = 3) (hr : meth.sig.returnType = none) (hlk : meth.locks = false) (hown : s.vm.findClass RJ7 = some m.cls) (hX : Kx D cA lo tS s) (hRf : 1 ≤ R.frames) (hRl : 60 ≤ R.locals) {N : Nat} {rv : Unit} {g1 : Hg} {S : Hs} : ∀ (H : Heap) (locs : List Loc) (ls : Array Slot) (g : Hg) (x0 : Int32) (x1 : Int32) (x2 : Int32), Mm D cA lo S g s H locs → lv_has ls 3 [(0, .int x0), (1, .int x1), (2, .int x2)] → b_J7_rangeCheck_23922_0 N S g x0 x1 x2 = some (rv, g1) → W p l e R s m args below meth c H locs 0 0 (MQ below (Qcx D cA lo S none S g1 True) args s 0 0 (fun q : Nat => lo ≤ q)) (F0 m 0 ls []) := by
  intro H locs ls g x0 x1 x2 M hl q
  unfold b_J7_rangeCheck_23922_0 at q
  refine lv_iload_n hx hb dJ7_rangeCheck_23922_0 rfl (lv_at hl 1 rfl) ?_
  refine lv_iload_n hx hb dJ7_rangeCheck_23922_1 rfl (lv_at hl 2 rfl) ?_
  refine lv_icmp_le (tgt := 46) hx hb dJ7_rangeCheck_23922_2 (by decide) (fun c_1 => ?_) (fun c_1 => ?_)
  · replace q := if_t c_1 q
    refine lv_iload_n hx hb dJ7_rangeCheck_23922_46 rfl (lv_at hl 1 rfl) ?_
    refine lv_if_ge (tgt := 59) hx hb dJ7_rangeCheck_23922_47 (by decide) (fun c_2 => ?_) (fun c_2 => ?_)
    · replace q := if_t c_2 q
      refine lv_iload_n hx hb dJ7_rangeCheck_23922_59 rfl (lv_at hl 2 rfl) ?_
      refine lv_iload_n hx hb dJ7_rangeCheck_23922_60 rfl (lv_at hl 0 rfl) ?_
      refine lv_icmp_le (tgt := 73) hx hb dJ7_rangeCheck_23922_61 (by decide) (fun c_3 => ?_) (fun c_3 => ?_)
      · replace q := if_t c_3 q
        cases q
        exact x_vret hx hb hr hlk M Ext.rf dJ7_rangeCheck_23922_73
      · replace q := if_f c_3 q
        cases q
    · replace q := if_f c_2 q
      cases q
  · replace q := if_f c_1 q
    cases q
set_option maxRecDepth 100000 in
theorem c_J7_rangeCheck_23922 {l : Launch} {D : va_G} {cA : Nat → ClassId} {lo tS N : Nat} {S : Hs} {g g1 : Hg} {rv : Unit} {x0 : Int32} {x1 : Int32} {x2 : Int32}  (q : f_J7_rangeCheck_23922 N S g x0 x1 x2 = some (rv, g1)) {d : Nat} (hd : 1 ≤ d) : Ctr l yJ7_rangeCheck_23922 cJ7_rangeCheck_23922 3 none D cA lo tS [.int x0, .int x1, .int x2] S g d none S g1 True 0 0 := by
  refine x_met (by decide) (Nat.le_of_ble_eq_true rfl) ?_
  intro p e s m below meth c ls hx hb hml hr hlk hown hnm hX M hl
  exact w_J7_rangeCheck_23922_0 hx hb hml hr hlk hown hX hd (Nat.mul_le_mul_left 60 hd) (N := N) _ _ _ _ _ _ _ M  (lv_sub hl [0, 1, 2] rfl) q
def b_J7_fill_fda19_10 (N : Nat) (S : Hs) (k10 : Hg → Nat → Int32 → Int32 → Int32 → Option (Unit × Hg)) (g : Hg) (a0 : Nat) (x2 : Int32) (x3 : Int32) (x4 : Int32) : Option (Unit × Hg) :=
if x2 ≤ x4 then (
some ((), g)) else (
ck (inb x4 (hpL S a0)) (
nm (wrI g a0 x4.toNatClampNeg x3) (fun g_2 =>
nm (x4 + 1) (fun x_3 =>
k10 g_2 a0 x2 x3 x_3))))
def n_J7_fill_fda19_10 (N : Nat) (S : Hs) : Nat → Hg → Nat → Int32 → Int32 → Int32 → Option (Unit × Hg)
  | 0 => fun _ _ _ _ _ => none
  | n + 1 => fun g a0 x2 x3 x4 => b_J7_fill_fda19_10 N S (n_J7_fill_fda19_10 N S n) g a0 x2 x3 x4
def b_J7_fill_fda19_0 (N : Nat) (S : Hs) (g : Hg) (a0 : Nat) (x1 : Int32) (x2 : Int32) (x3 : Int32) : Option (Unit × Hg) :=
c2 (f_J7_rangeCheck_23922 N S g (nI (hpL S a0)) x1 x2) (fun u_2 g_1 =>
n_J7_fill_fda19_10 N S N g_1 a0 x2 x3 x1)
def f_J7_fill_fda19 (N : Nat) (S : Hs) (g : Hg) (a0 : Nat) (x1 : Int32) (x2 : Int32) (x3 : Int32) : Option (Unit × Hg) := b_J7_fill_fda19_0 N S g a0 x1 x2 x3
set_option maxHeartbeats 4000000 in
set_option maxRecDepth 100000 in
theorem w_J7_fill_fda19_10 (hx : p.tables.exec = Jvm.exec) (hb : c.code = cJ7_fill_fda19) (hml : c.maxLocals = 5) (hr : meth.sig.returnType = none) (hlk : meth.locks = false) (hown : s.vm.findClass RJ7 = some m.cls) (hX : Kx D cA lo tS s) (hRf : 2 ≤ R.frames) (hRl : 120 ≤ R.locals) {N : Nat} {rv : Unit} {g1 : Hg} {S : Hs} {k10 : Hg → Nat → Int32 → Int32 → Int32 → Option (Unit × Hg)} (hk10 : ∀ (H : Heap) (locs : List Loc) (ls : Array Slot) (g : Hg) (a0 : Nat) (x2 : Int32) (x3 : Int32) (x4 : Int32), Mm D cA lo S g s H locs → Rf lo S a0 20 → lv_has ls 5 [(0, .ref a0), (2, .int x2), (3, .int x3), (4, .int x4)] → k10 g a0 x2 x3 x4 = some (rv, g1) → W p l e R s m args below meth c H locs 0 0 (MQ below (Qcx D cA lo S none S g1 True) args s 0 0 (fun q : Nat => lo ≤ q)) (F0 m 10 ls [])) : ∀ (H : Heap) (locs : List Loc) (ls : Array Slot) (g : Hg) (a0 : Nat) (x2 : Int32) (x3 : Int32) (x4 : Int32), Mm D cA lo S g s H locs → Rf lo S a0 20 → lv_has ls 5 [(0, .ref a0), (2, .int x2), (3, .int x3), (4, .int x4)] → b_J7_fill_fda19_10 N S k10 g a0 x2 x3 x4 = some (rv, g1) → W p l e R s m args below meth c H locs 0 0 (MQ below (Qcx D cA lo S none S g1 True) args s 0 0 (fun q : Nat => lo ≤ q)) (F0 m 10 ls []) := by
  intro H locs ls g a0 x2 x3 x4 M ra0 hl q
  unfold b_J7_fill_fda19_10 at q
  refine lv_iload hx hb dJ7_fill_fda19_10 (lv_at hl 3 rfl) ?_
  refine lv_iload_n hx hb dJ7_fill_fda19_12 rfl (lv_at hl 1 rfl) ?_
  refine lv_icmp_ge (tgt := 27) hx hb dJ7_fill_fda19_13 (by decide) (fun c_1 => ?_) (fun c_1 => ?_)
  · replace q := if_t c_1 q
    cases q
    exact x_vret hx hb hr hlk M Ext.rf dJ7_fill_fda19_27
  · replace q := if_f c_1 q
    refine lv_aload_n hx hb dJ7_fill_fda19_16 rfl (lv_at hl 0 rfl) ?_
    refine lv_iload hx hb dJ7_fill_fda19_17 (lv_at hl 3 rfl) ?_
    refine lv_iload_n hx hb dJ7_fill_fda19_19 rfl (lv_at hl 2 rfl) ?_
    replace q := ck_s q
    obtain ⟨hin, q⟩ := q
    refine x_iast hx hb hX M ra0 (inb_in hin) dJ7_fill_fda19_20 (fun H locs M => ?_)
    replace q := gen_g M q
    obtain ⟨g_2, -, M, q⟩ := q
    obtain ⟨x_3, e_x_3⟩ : ∃ y : Int32, y = x4 + 1 := ⟨_, rfl⟩
    replace q := nm_s q e_x_3
    refine lv_iinc (v := x_3) (lv' := [(4, .int x_3), (0, .ref a0), (2, .int x2), (3, .int x3)]) hx hb dJ7_fill_fda19_21 hl (k := 3) rfl (by rw [e_x_3]; rfl) (by decide) rfl (fun ls hl => ?_)
    refine lv_goto (tgt := 10) hx hb dJ7_fill_fda19_24 (by decide) ?_
    exact hk10 _ _ _ _ _ _ _ _ M ra0 (lv_sub hl [1, 2, 3, 0] rfl) q
set_option maxRecDepth 100000 in
theorem l_J7_fill_fda19_10 (hx : p.tables.exec = Jvm.exec) (hb : c.code = cJ7_fill_fda19) (hml : c.maxLocals = 5) (hr : meth.sig.returnType = none) (hlk : meth.locks = false) (hown : s.vm.findClass RJ7 = some m.cls) (hX : Kx D cA lo tS s) (hRf : 2 ≤ R.frames) (hRl : 120 ≤ R.locals) {N : Nat} {rv : Unit} {g1 : Hg} {S : Hs} : ∀ (n : Nat), ∀ (H : Heap) (locs : List Loc) (ls : Array Slot) (g : Hg) (a0 : Nat) (x2 : Int32) (x3 : Int32) (x4 : Int32), Mm D cA lo S g s H locs → Rf lo S a0 20 → lv_has ls 5 [(0, .ref a0), (2, .int x2), (3, .int x3), (4, .int x4)] → n_J7_fill_fda19_10 N S n g a0 x2 x3 x4 = some (rv, g1) → W p l e R s m args below meth c H locs 0 0 (MQ below (Qcx D cA lo S none S g1 True) args s 0 0 (fun q : Nat => lo ≤ q)) (F0 m 10 ls []) := by
  intro n
  induction n with
  | zero =>
    intro H locs ls g a0 x2 x3 x4 M ra0 hl q
    exact absurd q (by simp [n_J7_fill_fda19_10])
  | succ n ih => exact w_J7_fill_fda19_10 hx hb hml hr hlk hown hX hRf hRl (N := N)  ih
set_option maxHeartbeats 4000000 in
set_option maxRecDepth 100000 in
theorem w_J7_fill_fda19_0 (hx : p.tables.exec = Jvm.exec) (hb : c.code = cJ7_fill_fda19) (hml : c.maxLocals = 5) (hr : meth.sig.returnType = none) (hlk : meth.locks = false) (hown : s.vm.findClass RJ7 = some m.cls) (hX : Kx D cA lo tS s) (hRf : 2 ≤ R.frames) (hRl : 120 ≤ R.locals) {N : Nat} {rv : Unit} {g1 : Hg} {S : Hs} : ∀ (H : Heap) (locs : List Loc) (ls : Array Slot) (g : Hg) (a0 : Nat) (x1 : Int32) (x2 : Int32) (x3 : Int32), Mm D cA lo S g s H locs → Rf lo S a0 20 → lv_has ls 5 [(0, .ref a0), (1, .int x1), (2, .int x2), (3, .int x3)] → b_J7_fill_fda19_0 N S g a0 x1 x2 x3 = some (rv, g1) → W p l e R s m args below meth c H locs 0 0 (MQ below (Qcx D cA lo S none S g1 True) args s 0 0 (fun q : Nat => lo ≤ q)) (F0 m 0 ls []) := by
  intro H locs ls g a0 x1 x2 x3 M ra0 hl q
  unfold b_J7_fill_fda19_0 at q
  refine lv_aload_n hx hb dJ7_fill_fda19_0 rfl (lv_at hl 0 rfl) ?_
  refine x_alen20 hx hb hX M ra0 dJ7_fill_fda19_1 ?_
  refine lv_iload_n hx hb dJ7_fill_fda19_2 rfl (lv_at hl 1 rfl) ?_
  refine lv_iload_n hx hb dJ7_fill_fda19_3 rfl (lv_at hl 2 rfl) ?_
  replace q := c2_s q
  obtain ⟨u_2, g_1, qc, q⟩ := q
  refine x_callS hx hb hml hl.1 hown hX M (S1 := S) (As := [.int (nI (hpL S a0)), .int x1, .int x2]) (rest := []) kw_622 mok_J7_rangeCheck_23922 (c_J7_rangeCheck_23922  qc (Nat.le_refl 1)) kw_621 rfl rfl dJ7_fill_fda19_4 (Nat.le_of_ble_eq_true rfl) ⟨Nat.le_trans (by decide) hRf, Nat.le_trans (by decide) hRl⟩ (Nat.zero_le _) (Nat.zero_le _) (fun H locs M hEF => ?_)
  refine lv_iload_n hx hb dJ7_fill_fda19_7 rfl (lv_at hl 1 rfl) ?_
  refine lv_istore (lv' := [(4, .int x1), (0, .ref a0), (1, .int x1), (2, .int x2), (3, .int x3)]) hx hb dJ7_fill_fda19_8 hl (by decide) rfl (fun ls hl => ?_)
  exact l_J7_fill_fda19_10 hx hb hml hr hlk hown hX hRf hRl (N := N)  N _ _ _ _ _ _ _ _ M ra0 (lv_sub hl [1, 3, 4, 0] rfl) q
set_option maxRecDepth 100000 in
theorem c_J7_fill_fda19 {l : Launch} {D : va_G} {cA : Nat → ClassId} {lo tS N : Nat} {S : Hs} {g g1 : Hg} {rv : Unit} {a0 : Nat} {x1 : Int32} {x2 : Int32} {x3 : Int32} (ra0 : Rf lo S a0 20) (q : f_J7_fill_fda19 N S g a0 x1 x2 x3 = some (rv, g1)) {d : Nat} (hd : 2 ≤ d) : Ctr l yJ7_fill_fda19 cJ7_fill_fda19 5 none D cA lo tS [.ref a0, .int x1, .int x2, .int x3] S g d none S g1 True 0 0 := by
  refine x_met (by decide) (Nat.le_of_ble_eq_true rfl) ?_
  intro p e s m below meth c ls hx hb hml hr hlk hown hnm hX M hl
  exact w_J7_fill_fda19_0 hx hb hml hr hlk hown hX hd (Nat.mul_le_mul_left 60 hd) (N := N) _ _ _ _ _ _ _ _ M ra0 (lv_sub hl [0, 1, 2, 3] rfl) q
def b_X1_logAt_0 (N : Nat) (S : Hs) (g : Hg) (a0 : Nat) (x1 : Int32) : Option (Option Nat × Hg) :=
if x1 < 0 then (
some (none, g)) else (
if (rdI g a0 1) ≤ x1 then (
some (none, g)) else (
nn (rdR g a0 0) (fun a_3 =>
ck (inb x1 (hpL S a_3)) (
some ((rdR g a_3 x1.toNatClampNeg), g)))))
def f_X1_logAt (N : Nat) (S : Hs) (g : Hg) (a0 : Nat) (x1 : Int32) : Option (Option Nat × Hg) := b_X1_logAt_0 N S g a0 x1
set_option maxHeartbeats 4000000 in
set_option maxRecDepth 100000 in
theorem w_X1_logAt_0 (hx : p.tables.exec = Jvm.exec) (hb : c.code = cX1_logAt) (hml : c.maxLocals = 2) (hr : meth.sig.returnType = (some (.object "GlassLog$Log"))) (hlk : meth.locks = false) (hown : s.vm.findClass RX1 = some m.cls) (hX : Kx D cA lo tS s) (hRf : 1 ≤ R.frames) (hRl : 60 ≤ R.locals) {N : Nat} {rv : Option Nat} {g1 : Hg} {S : Hs} : ∀ (H : Heap) (locs : List Loc) (ls : Array Slot) (g : Hg) (a0 : Nat) (x1 : Int32), Mm D cA lo S g s H locs → Rf lo S a0 1 → lv_has ls 2 [(0, .ref a0), (1, .int x1)] → b_X1_logAt_0 N S g a0 x1 = some (rv, g1) → W p l e R s m args below meth c H locs 0 0 (MQ below (Qcx D cA lo S (some (va_rf rv)) S g1 (Ro lo S rv 3)) args s 0 0 (fun q : Nat => lo ≤ q)) (F0 m 0 ls []) := by
  intro H locs ls g a0 x1 M ra0 hl q
  unfold b_X1_logAt_0 at q
  refine lv_iload_n hx hb dX1_logAt_0 rfl (lv_at hl 1 rfl) ?_
  refine lv_if_lt (tgt := 21) hx hb dX1_logAt_1 (by decide) (fun c_1 => ?_) (fun c_1 => ?_)
  · replace q := if_t c_1 q
    refine lv_null hx hb dX1_logAt_21 ?_
    cases q
    exact x_aret (v := none) Ro.none hx hb hr (Or.inl ⟨_, rfl⟩) hlk M Ext.rf dX1_logAt_22
  · replace q := if_f c_1 q
    refine lv_iload_n hx hb dX1_logAt_4 rfl (lv_at hl 1 rfl) ?_
    refine lv_aload_n hx hb dX1_logAt_5 rfl (lv_at hl 0 rfl) ?_
    refine x_getI hx hb hown hX M (k := 1) okX1 ra0 (by decide) rfl kw_320 dX1_logAt_6 ?_
    refine lv_icmp_ge (tgt := 21) hx hb dX1_logAt_9 (by decide) (fun c_2 => ?_) (fun c_2 => ?_)
    · replace q := if_t c_2 q
      refine lv_null hx hb dX1_logAt_21 ?_
      cases q
      exact x_aret (v := none) Ro.none hx hb hr (Or.inl ⟨_, rfl⟩) hlk M Ext.rf dX1_logAt_22
    · replace q := if_f c_2 q
      refine lv_aload_n hx hb dX1_logAt_12 rfl (lv_at hl 0 rfl) ?_
      replace q := nn_s q
      obtain ⟨a_3, e_a_3, q⟩ := q
      refine x_getR hx hb hown hX M e_a_3 okX1 ra0 (by decide) rfl kw_319 dX1_logAt_13 (fun ra_3 => ?_)
      refine lv_iload_n hx hb dX1_logAt_16 rfl (lv_at hl 1 rfl) ?_
      replace q := ck_s q
      obtain ⟨hin, q⟩ := q
      refine x_aald23 hx hb hX M ra_3 (inb_in hin) dX1_logAt_17 (fun rf_4 => ?_)
      refine lv_goto (tgt := 22) hx hb dX1_logAt_18 (by decide) ?_
      cases q
      exact x_aret (v := _) rf_4 hx hb hr (Or.inl ⟨_, rfl⟩) hlk M Ext.rf dX1_logAt_22
set_option maxRecDepth 100000 in
theorem c_X1_logAt {l : Launch} {D : va_G} {cA : Nat → ClassId} {lo tS N : Nat} {S : Hs} {g g1 : Hg} {rv : Option Nat} {a0 : Nat} {x1 : Int32} (ra0 : Rf lo S a0 1) (q : f_X1_logAt N S g a0 x1 = some (rv, g1)) {d : Nat} (hd : 1 ≤ d) : Ctr l yX1_logAt cX1_logAt 2 (some (.object "GlassLog$Log")) D cA lo tS [.ref a0, .int x1] S g d (some (va_rf rv)) S g1 (Ro lo S rv 3) 0 0 := by
  refine x_met (by decide) (Nat.le_of_ble_eq_true rfl) ?_
  intro p e s m below meth c ls hx hb hml hr hlk hown hnm hX M hl
  exact w_X1_logAt_0 hx hb hml hr hlk hown hX hd (Nat.mul_le_mul_left 60 hd) (N := N) _ _ _ _ _ _ M ra0 (lv_sub hl [0, 1] rfl) q
def b_X1_slotAt_0 (N : Nat) (S : Hs) (g : Hg) (a0 : Nat) (x1 : Int32) : Option (Option Nat × Hg) :=
if x1 < 0 then (
some (none, g)) else (
if (16 : Int32) ≤ x1 then (
some (none, g)) else (
nn (rdR g a0 2) (fun a_3 =>
ck (inb x1 (hpL S a_3)) (
some ((rdR g a_3 x1.toNatClampNeg), g)))))
def f_X1_slotAt (N : Nat) (S : Hs) (g : Hg) (a0 : Nat) (x1 : Int32) : Option (Option Nat × Hg) := b_X1_slotAt_0 N S g a0 x1
set_option maxHeartbeats 4000000 in
set_option maxRecDepth 100000 in
theorem w_X1_slotAt_0 (hx : p.tables.exec = Jvm.exec) (hb : c.code = cX1_slotAt) (hml : c.maxLocals = 2) (hr : meth.sig.returnType = (some (.object "GlassLog$Proof"))) (hlk : meth.locks = false) (hown : s.vm.findClass RX1 = some m.cls) (hX : Kx D cA lo tS s) (hRf : 1 ≤ R.frames) (hRl : 60 ≤ R.locals) {N : Nat} {rv : Option Nat} {g1 : Hg} {S : Hs} : ∀ (H : Heap) (locs : List Loc) (ls : Array Slot) (g : Hg) (a0 : Nat) (x1 : Int32), Mm D cA lo S g s H locs → Rf lo S a0 1 → lv_has ls 2 [(0, .ref a0), (1, .int x1)] → b_X1_slotAt_0 N S g a0 x1 = some (rv, g1) → W p l e R s m args below meth c H locs 0 0 (MQ below (Qcx D cA lo S (some (va_rf rv)) S g1 (Ro lo S rv 7)) args s 0 0 (fun q : Nat => lo ≤ q)) (F0 m 0 ls []) := by
  intro H locs ls g a0 x1 M ra0 hl q
  unfold b_X1_slotAt_0 at q
  refine lv_iload_n hx hb dX1_slotAt_0 rfl (lv_at hl 1 rfl) ?_
  refine lv_if_lt (tgt := 19) hx hb dX1_slotAt_1 (by decide) (fun c_1 => ?_) (fun c_1 => ?_)
  · replace q := if_t c_1 q
    refine lv_null hx hb dX1_slotAt_19 ?_
    cases q
    exact x_aret (v := none) Ro.none hx hb hr (Or.inl ⟨_, rfl⟩) hlk M Ext.rf dX1_slotAt_20
  · replace q := if_f c_1 q
    refine lv_iload_n hx hb dX1_slotAt_4 rfl (lv_at hl 1 rfl) ?_
    refine lv_bipush (v := 16) hx hb dX1_slotAt_5 (by decide) ?_
    refine lv_icmp_ge (tgt := 19) hx hb dX1_slotAt_7 (by decide) (fun c_2 => ?_) (fun c_2 => ?_)
    · replace q := if_t c_2 q
      refine lv_null hx hb dX1_slotAt_19 ?_
      cases q
      exact x_aret (v := none) Ro.none hx hb hr (Or.inl ⟨_, rfl⟩) hlk M Ext.rf dX1_slotAt_20
    · replace q := if_f c_2 q
      refine lv_aload_n hx hb dX1_slotAt_10 rfl (lv_at hl 0 rfl) ?_
      replace q := nn_s q
      obtain ⟨a_3, e_a_3, q⟩ := q
      refine x_getR hx hb hown hX M e_a_3 okX1 ra0 (by decide) rfl kw_322 dX1_slotAt_11 (fun ra_3 => ?_)
      refine lv_iload_n hx hb dX1_slotAt_14 rfl (lv_at hl 1 rfl) ?_
      replace q := ck_s q
      obtain ⟨hin, q⟩ := q
      refine x_aald24 hx hb hX M ra_3 (inb_in hin) dX1_slotAt_15 (fun rf_4 => ?_)
      refine lv_goto (tgt := 20) hx hb dX1_slotAt_16 (by decide) ?_
      cases q
      exact x_aret (v := _) rf_4 hx hb hr (Or.inl ⟨_, rfl⟩) hlk M Ext.rf dX1_slotAt_20
set_option maxRecDepth 100000 in
theorem c_X1_slotAt {l : Launch} {D : va_G} {cA : Nat → ClassId} {lo tS N : Nat} {S : Hs} {g g1 : Hg} {rv : Option Nat} {a0 : Nat} {x1 : Int32} (ra0 : Rf lo S a0 1) (q : f_X1_slotAt N S g a0 x1 = some (rv, g1)) {d : Nat} (hd : 1 ≤ d) : Ctr l yX1_slotAt cX1_slotAt 2 (some (.object "GlassLog$Proof")) D cA lo tS [.ref a0, .int x1] S g d (some (va_rf rv)) S g1 (Ro lo S rv 7) 0 0 := by
  refine x_met (by decide) (Nat.le_of_ble_eq_true rfl) ?_
  intro p e s m below meth c ls hx hb hml hr hlk hown hnm hX M hl
  exact w_X1_slotAt_0 hx hb hml hr hlk hown hX hd (Nat.mul_le_mul_left 60 hd) (N := N) _ _ _ _ _ _ M ra0 (lv_sub hl [0, 1] rfl) q
def b_X2_find_2 (N : Nat) (S : Hs) (k2 : Hg → Nat → Int32 → Int32 → Option (Int32 × Hg)) (g : Hg) (a0 : Nat) (x1 : Int32) (x2 : Int32) : Option (Int32 × Hg) :=
if (rdI g a0 3) ≤ x2 then (
some ((-1 : Int32), g)) else (
nn (rdR g a0 0) (fun a_2 =>
ck (inb x2 (hpL S a_2)) (
if (rdI g a_2 x2.toNatClampNeg) = x1 then (
some (x2, g)) else (
nm (x2 + 1) (fun x_4 =>
k2 g a0 x1 x_4)))))
def n_X2_find_2 (N : Nat) (S : Hs) : Nat → Hg → Nat → Int32 → Int32 → Option (Int32 × Hg)
  | 0 => fun _ _ _ _ => none
  | n + 1 => fun g a0 x1 x2 => b_X2_find_2 N S (n_X2_find_2 N S n) g a0 x1 x2
def b_X2_find_0 (N : Nat) (S : Hs) (g : Hg) (a0 : Nat) (x1 : Int32) : Option (Int32 × Hg) :=
n_X2_find_2 N S N g a0 x1 (0 : Int32)
def f_X2_find (N : Nat) (S : Hs) (g : Hg) (a0 : Nat) (x1 : Int32) : Option (Int32 × Hg) := b_X2_find_0 N S g a0 x1
set_option maxHeartbeats 4000000 in
set_option maxRecDepth 100000 in
theorem w_X2_find_2 (hx : p.tables.exec = Jvm.exec) (hb : c.code = cX2_find) (hml : c.maxLocals = 3) (hr : meth.sig.returnType = (some .int)) (hlk : meth.locks = false) (hown : s.vm.findClass RX2 = some m.cls) (hX : Kx D cA lo tS s) (hRf : 1 ≤ R.frames) (hRl : 60 ≤ R.locals) {N : Nat} {rv : Int32} {g1 : Hg} {S : Hs} {k2 : Hg → Nat → Int32 → Int32 → Option (Int32 × Hg)} (hk2 : ∀ (H : Heap) (locs : List Loc) (ls : Array Slot) (g : Hg) (a0 : Nat) (x1 : Int32) (x2 : Int32), Mm D cA lo S g s H locs → Rf lo S a0 2 → lv_has ls 3 [(0, .ref a0), (1, .int x1), (2, .int x2)] → k2 g a0 x1 x2 = some (rv, g1) → W p l e R s m args below meth c H locs 0 0 (MQ below (Qcx D cA lo S (some (.int rv)) S g1 True) args s 0 0 (fun q : Nat => lo ≤ q)) (F0 m 2 ls [])) : ∀ (H : Heap) (locs : List Loc) (ls : Array Slot) (g : Hg) (a0 : Nat) (x1 : Int32) (x2 : Int32), Mm D cA lo S g s H locs → Rf lo S a0 2 → lv_has ls 3 [(0, .ref a0), (1, .int x1), (2, .int x2)] → b_X2_find_2 N S k2 g a0 x1 x2 = some (rv, g1) → W p l e R s m args below meth c H locs 0 0 (MQ below (Qcx D cA lo S (some (.int rv)) S g1 True) args s 0 0 (fun q : Nat => lo ≤ q)) (F0 m 2 ls []) := by
  intro H locs ls g a0 x1 x2 M ra0 hl q
  unfold b_X2_find_2 at q
  refine lv_iload_n hx hb dX2_find_2 rfl (lv_at hl 2 rfl) ?_
  refine lv_aload_n hx hb dX2_find_3 rfl (lv_at hl 0 rfl) ?_
  refine x_getI hx hb hown hX M (k := 3) okX2 ra0 (by decide) rfl kw_402 dX2_find_4 ?_
  refine lv_icmp_ge (tgt := 28) hx hb dX2_find_7 (by decide) (fun c_1 => ?_) (fun c_1 => ?_)
  · replace q := if_t c_1 q
    refine lv_iconst (v := -1) hx hb dX2_find_28 (by decide) ?_
    cases q
    exact x_iret hx hb hr hlk M Ext.rf dX2_find_29
  · replace q := if_f c_1 q
    refine lv_aload_n hx hb dX2_find_10 rfl (lv_at hl 0 rfl) ?_
    replace q := nn_s q
    obtain ⟨a_2, e_a_2, q⟩ := q
    refine x_getR hx hb hown hX M e_a_2 okX2 ra0 (by decide) rfl kw_397 dX2_find_11 (fun ra_2 => ?_)
    refine lv_iload_n hx hb dX2_find_14 rfl (lv_at hl 2 rfl) ?_
    replace q := ck_s q
    obtain ⟨hin, q⟩ := q
    refine x_iald hx hb hX M ra_2 (inb_in hin) dX2_find_15 ?_
    refine lv_iload_n hx hb dX2_find_16 rfl (lv_at hl 1 rfl) ?_
    refine lv_icmp_ne (tgt := 22) hx hb dX2_find_17 (by decide) (fun c_3 => ?_) (fun c_3 => ?_)
    · replace q := if_f c_3 q
      obtain ⟨x_4, e_x_4⟩ : ∃ y : Int32, y = x2 + 1 := ⟨_, rfl⟩
      replace q := nm_s q e_x_4
      refine lv_iinc (v := x_4) (lv' := [(2, .int x_4), (0, .ref a0), (1, .int x1)]) hx hb dX2_find_22 hl (k := 2) rfl (by rw [e_x_4]; rfl) (by decide) rfl (fun ls hl => ?_)
      refine lv_goto (tgt := 2) hx hb dX2_find_25 (by decide) ?_
      exact hk2 _ _ _ _ _ _ _ M ra0 (lv_sub hl [1, 2, 0] rfl) q
    · replace q := if_t c_3 q
      refine lv_iload_n hx hb dX2_find_20 rfl (lv_at hl 2 rfl) ?_
      cases q
      exact x_iret hx hb hr hlk M Ext.rf dX2_find_21
set_option maxRecDepth 100000 in
theorem l_X2_find_2 (hx : p.tables.exec = Jvm.exec) (hb : c.code = cX2_find) (hml : c.maxLocals = 3) (hr : meth.sig.returnType = (some .int)) (hlk : meth.locks = false) (hown : s.vm.findClass RX2 = some m.cls) (hX : Kx D cA lo tS s) (hRf : 1 ≤ R.frames) (hRl : 60 ≤ R.locals) {N : Nat} {rv : Int32} {g1 : Hg} {S : Hs} : ∀ (n : Nat), ∀ (H : Heap) (locs : List Loc) (ls : Array Slot) (g : Hg) (a0 : Nat) (x1 : Int32) (x2 : Int32), Mm D cA lo S g s H locs → Rf lo S a0 2 → lv_has ls 3 [(0, .ref a0), (1, .int x1), (2, .int x2)] → n_X2_find_2 N S n g a0 x1 x2 = some (rv, g1) → W p l e R s m args below meth c H locs 0 0 (MQ below (Qcx D cA lo S (some (.int rv)) S g1 True) args s 0 0 (fun q : Nat => lo ≤ q)) (F0 m 2 ls []) := by
  intro n
  induction n with
  | zero =>
    intro H locs ls g a0 x1 x2 M ra0 hl q
    exact absurd q (by simp [n_X2_find_2])
  | succ n ih => exact w_X2_find_2 hx hb hml hr hlk hown hX hRf hRl (N := N)  ih
set_option maxHeartbeats 4000000 in
set_option maxRecDepth 100000 in
theorem w_X2_find_0 (hx : p.tables.exec = Jvm.exec) (hb : c.code = cX2_find) (hml : c.maxLocals = 3) (hr : meth.sig.returnType = (some .int)) (hlk : meth.locks = false) (hown : s.vm.findClass RX2 = some m.cls) (hX : Kx D cA lo tS s) (hRf : 1 ≤ R.frames) (hRl : 60 ≤ R.locals) {N : Nat} {rv : Int32} {g1 : Hg} {S : Hs} : ∀ (H : Heap) (locs : List Loc) (ls : Array Slot) (g : Hg) (a0 : Nat) (x1 : Int32), Mm D cA lo S g s H locs → Rf lo S a0 2 → lv_has ls 3 [(0, .ref a0), (1, .int x1)] → b_X2_find_0 N S g a0 x1 = some (rv, g1) → W p l e R s m args below meth c H locs 0 0 (MQ below (Qcx D cA lo S (some (.int rv)) S g1 True) args s 0 0 (fun q : Nat => lo ≤ q)) (F0 m 0 ls []) := by
  intro H locs ls g a0 x1 M ra0 hl q
  unfold b_X2_find_0 at q
  refine lv_iconst (v := 0) hx hb dX2_find_0 (by decide) ?_
  refine lv_istore_n (lv' := [(2, .int (0 : Int32)), (0, .ref a0), (1, .int x1)]) hx hb dX2_find_1 rfl hl (by decide) rfl (fun ls hl => ?_)
  exact l_X2_find_2 hx hb hml hr hlk hown hX hRf hRl (N := N)  N _ _ _ _ _ _ _ M ra0 (lv_sub hl [1, 2, 0] rfl) q
set_option maxRecDepth 100000 in
theorem c_X2_find {l : Launch} {D : va_G} {cA : Nat → ClassId} {lo tS N : Nat} {S : Hs} {g g1 : Hg} {rv : Int32} {a0 : Nat} {x1 : Int32} (ra0 : Rf lo S a0 2) (q : f_X2_find N S g a0 x1 = some (rv, g1)) {d : Nat} (hd : 1 ≤ d) : Ctr l yX2_find cX2_find 3 (some .int) D cA lo tS [.ref a0, .int x1] S g d (some (.int rv)) S g1 True 0 0 := by
  refine x_met (by decide) (Nat.le_of_ble_eq_true rfl) ?_
  intro p e s m below meth c ls hx hb hml hr hlk hown hnm hX M hl
  exact w_X2_find_0 hx hb hml hr hlk hown hX hd (Nat.mul_le_mul_left 60 hd) (N := N) _ _ _ _ _ _ M ra0 (lv_sub hl [0, 1] rfl) q
def b_X2_keyOf_0 (N : Nat) (S : Hs) (g : Hg) (a0 : Nat) (x1 : Int32) : Option (Int32 × Hg) :=
if x1 < 0 then (
some ((0 : Int32), g)) else (
if (rdI g a0 3) ≤ x1 then (
some ((0 : Int32), g)) else (
nn (rdR g a0 0) (fun a_3 =>
ck (inb x1 (hpL S a_3)) (
some ((rdI g a_3 x1.toNatClampNeg), g)))))
def f_X2_keyOf (N : Nat) (S : Hs) (g : Hg) (a0 : Nat) (x1 : Int32) : Option (Int32 × Hg) := b_X2_keyOf_0 N S g a0 x1
set_option maxHeartbeats 4000000 in
set_option maxRecDepth 100000 in
theorem w_X2_keyOf_0 (hx : p.tables.exec = Jvm.exec) (hb : c.code = cX2_keyOf) (hml : c.maxLocals = 2) (hr : meth.sig.returnType = (some .int)) (hlk : meth.locks = false) (hown : s.vm.findClass RX2 = some m.cls) (hX : Kx D cA lo tS s) (hRf : 1 ≤ R.frames) (hRl : 60 ≤ R.locals) {N : Nat} {rv : Int32} {g1 : Hg} {S : Hs} : ∀ (H : Heap) (locs : List Loc) (ls : Array Slot) (g : Hg) (a0 : Nat) (x1 : Int32), Mm D cA lo S g s H locs → Rf lo S a0 2 → lv_has ls 2 [(0, .ref a0), (1, .int x1)] → b_X2_keyOf_0 N S g a0 x1 = some (rv, g1) → W p l e R s m args below meth c H locs 0 0 (MQ below (Qcx D cA lo S (some (.int rv)) S g1 True) args s 0 0 (fun q : Nat => lo ≤ q)) (F0 m 0 ls []) := by
  intro H locs ls g a0 x1 M ra0 hl q
  unfold b_X2_keyOf_0 at q
  refine lv_iload_n hx hb dX2_keyOf_0 rfl (lv_at hl 1 rfl) ?_
  refine lv_if_lt (tgt := 21) hx hb dX2_keyOf_1 (by decide) (fun c_1 => ?_) (fun c_1 => ?_)
  · replace q := if_t c_1 q
    refine lv_iconst (v := 0) hx hb dX2_keyOf_21 (by decide) ?_
    cases q
    exact x_iret hx hb hr hlk M Ext.rf dX2_keyOf_22
  · replace q := if_f c_1 q
    refine lv_iload_n hx hb dX2_keyOf_4 rfl (lv_at hl 1 rfl) ?_
    refine lv_aload_n hx hb dX2_keyOf_5 rfl (lv_at hl 0 rfl) ?_
    refine x_getI hx hb hown hX M (k := 3) okX2 ra0 (by decide) rfl kw_402 dX2_keyOf_6 ?_
    refine lv_icmp_ge (tgt := 21) hx hb dX2_keyOf_9 (by decide) (fun c_2 => ?_) (fun c_2 => ?_)
    · replace q := if_t c_2 q
      refine lv_iconst (v := 0) hx hb dX2_keyOf_21 (by decide) ?_
      cases q
      exact x_iret hx hb hr hlk M Ext.rf dX2_keyOf_22
    · replace q := if_f c_2 q
      refine lv_aload_n hx hb dX2_keyOf_12 rfl (lv_at hl 0 rfl) ?_
      replace q := nn_s q
      obtain ⟨a_3, e_a_3, q⟩ := q
      refine x_getR hx hb hown hX M e_a_3 okX2 ra0 (by decide) rfl kw_397 dX2_keyOf_13 (fun ra_3 => ?_)
      refine lv_iload_n hx hb dX2_keyOf_16 rfl (lv_at hl 1 rfl) ?_
      replace q := ck_s q
      obtain ⟨hin, q⟩ := q
      refine x_iald hx hb hX M ra_3 (inb_in hin) dX2_keyOf_17 ?_
      refine lv_goto (tgt := 22) hx hb dX2_keyOf_18 (by decide) ?_
      cases q
      exact x_iret hx hb hr hlk M Ext.rf dX2_keyOf_22
set_option maxRecDepth 100000 in
theorem c_X2_keyOf {l : Launch} {D : va_G} {cA : Nat → ClassId} {lo tS N : Nat} {S : Hs} {g g1 : Hg} {rv : Int32} {a0 : Nat} {x1 : Int32} (ra0 : Rf lo S a0 2) (q : f_X2_keyOf N S g a0 x1 = some (rv, g1)) {d : Nat} (hd : 1 ≤ d) : Ctr l yX2_keyOf cX2_keyOf 2 (some .int) D cA lo tS [.ref a0, .int x1] S g d (some (.int rv)) S g1 True 0 0 := by
  refine x_met (by decide) (Nat.le_of_ble_eq_true rfl) ?_
  intro p e s m below meth c ls hx hb hml hr hlk hown hnm hX M hl
  exact w_X2_keyOf_0 hx hb hml hr hlk hown hX hd (Nat.mul_le_mul_left 60 hd) (N := N) _ _ _ _ _ _ M ra0 (lv_sub hl [0, 1] rfl) q
def b_X3_reaches_0 (N : Nat) (S : Hs) (g : Hg) (a0 : Nat) (x1 : Int32) : Option (Int32 × Hg) :=
if x1 < 0 then (
some ((0 : Int32), g)) else (
if (rdI g a0 7) < x1 then (
some ((0 : Int32), g)) else (
some ((1 : Int32), g)))
def f_X3_reaches (N : Nat) (S : Hs) (g : Hg) (a0 : Nat) (x1 : Int32) : Option (Int32 × Hg) := b_X3_reaches_0 N S g a0 x1
set_option maxHeartbeats 4000000 in
set_option maxRecDepth 100000 in
theorem w_X3_reaches_0 (hx : p.tables.exec = Jvm.exec) (hb : c.code = cX3_reaches) (hml : c.maxLocals = 2) (hr : meth.sig.returnType = (some .boolean)) (hlk : meth.locks = false) (hown : s.vm.findClass RX3 = some m.cls) (hX : Kx D cA lo tS s) (hRf : 1 ≤ R.frames) (hRl : 60 ≤ R.locals) {N : Nat} {rv : Int32} {g1 : Hg} {S : Hs} : ∀ (H : Heap) (locs : List Loc) (ls : Array Slot) (g : Hg) (a0 : Nat) (x1 : Int32), Mm D cA lo S g s H locs → Rf lo S a0 3 → lv_has ls 2 [(0, .ref a0), (1, .int x1)] → b_X3_reaches_0 N S g a0 x1 = some (rv, g1) → W p l e R s m args below meth c H locs 0 0 (MQ below (Qcx D cA lo S (some (.int rv)) S g1 True) args s 0 0 (fun q : Nat => lo ≤ q)) (F0 m 0 ls []) := by
  intro H locs ls g a0 x1 M ra0 hl q
  unfold b_X3_reaches_0 at q
  refine lv_iload_n hx hb dX3_reaches_0 rfl (lv_at hl 1 rfl) ?_
  refine lv_if_lt (tgt := 16) hx hb dX3_reaches_1 (by decide) (fun c_1 => ?_) (fun c_1 => ?_)
  · replace q := if_t c_1 q
    refine lv_iconst (v := 0) hx hb dX3_reaches_16 (by decide) ?_
    cases q
    exact x_zret hx hb hr hlk rfl M Ext.rf dX3_reaches_17
  · replace q := if_f c_1 q
    refine lv_iload_n hx hb dX3_reaches_4 rfl (lv_at hl 1 rfl) ?_
    refine lv_aload_n hx hb dX3_reaches_5 rfl (lv_at hl 0 rfl) ?_
    refine x_getI hx hb hown hX M (k := 7) okX3 ra0 (by decide) rfl kw_457 dX3_reaches_6 ?_
    refine lv_icmp_gt (tgt := 16) hx hb dX3_reaches_9 (by decide) (fun c_2 => ?_) (fun c_2 => ?_)
    · replace q := if_t c_2 q
      refine lv_iconst (v := 0) hx hb dX3_reaches_16 (by decide) ?_
      cases q
      exact x_zret hx hb hr hlk rfl M Ext.rf dX3_reaches_17
    · replace q := if_f c_2 q
      refine lv_iconst (v := 1) hx hb dX3_reaches_12 (by decide) ?_
      refine lv_goto (tgt := 17) hx hb dX3_reaches_13 (by decide) ?_
      cases q
      exact x_zret hx hb hr hlk rfl M Ext.rf dX3_reaches_17
set_option maxRecDepth 100000 in
theorem c_X3_reaches {l : Launch} {D : va_G} {cA : Nat → ClassId} {lo tS N : Nat} {S : Hs} {g g1 : Hg} {rv : Int32} {a0 : Nat} {x1 : Int32} (ra0 : Rf lo S a0 3) (q : f_X3_reaches N S g a0 x1 = some (rv, g1)) {d : Nat} (hd : 1 ≤ d) : Ctr l yX3_reaches cX3_reaches 2 (some .boolean) D cA lo tS [.ref a0, .int x1] S g d (some (.int rv)) S g1 True 0 0 := by
  refine x_met (by decide) (Nat.le_of_ble_eq_true rfl) ?_
  intro p e s m below meth c ls hx hb hml hr hlk hown hnm hX M hl
  exact w_X3_reaches_0 hx hb hml hr hlk hown hX hd (Nat.mul_le_mul_left 60 hd) (N := N) _ _ _ _ _ _ M ra0 (lv_sub hl [0, 1] rfl) q
def b_X4_latestOf_0 (N : Nat) (S : Hs) (g : Hg) (a0 : Nat) (x1 : Int32) : Option (Int32 × Hg) :=
if x1 < 0 then (
some ((-1 : Int32), g)) else (
if (400 : Int32) ≤ x1 then (
some ((-1 : Int32), g)) else (
nn (rdR g a0 1) (fun a_3 =>
ck (inb x1 (hpL S a_3)) (
some ((rdI g a_3 x1.toNatClampNeg), g)))))
def f_X4_latestOf (N : Nat) (S : Hs) (g : Hg) (a0 : Nat) (x1 : Int32) : Option (Int32 × Hg) := b_X4_latestOf_0 N S g a0 x1
set_option maxHeartbeats 4000000 in
set_option maxRecDepth 100000 in
theorem w_X4_latestOf_0 (hx : p.tables.exec = Jvm.exec) (hb : c.code = cX4_latestOf) (hml : c.maxLocals = 2) (hr : meth.sig.returnType = (some .int)) (hlk : meth.locks = false) (hown : s.vm.findClass RX4 = some m.cls) (hX : Kx D cA lo tS s) (hRf : 1 ≤ R.frames) (hRl : 60 ≤ R.locals) {N : Nat} {rv : Int32} {g1 : Hg} {S : Hs} : ∀ (H : Heap) (locs : List Loc) (ls : Array Slot) (g : Hg) (a0 : Nat) (x1 : Int32), Mm D cA lo S g s H locs → Rf lo S a0 4 → lv_has ls 2 [(0, .ref a0), (1, .int x1)] → b_X4_latestOf_0 N S g a0 x1 = some (rv, g1) → W p l e R s m args below meth c H locs 0 0 (MQ below (Qcx D cA lo S (some (.int rv)) S g1 True) args s 0 0 (fun q : Nat => lo ≤ q)) (F0 m 0 ls []) := by
  intro H locs ls g a0 x1 M ra0 hl q
  unfold b_X4_latestOf_0 at q
  refine lv_iload_n hx hb dX4_latestOf_0 rfl (lv_at hl 1 rfl) ?_
  refine lv_if_lt (tgt := 20) hx hb dX4_latestOf_1 (by decide) (fun c_1 => ?_) (fun c_1 => ?_)
  · replace q := if_t c_1 q
    refine lv_iconst (v := -1) hx hb dX4_latestOf_20 (by decide) ?_
    cases q
    exact x_iret hx hb hr hlk M Ext.rf dX4_latestOf_21
  · replace q := if_f c_1 q
    refine lv_iload_n hx hb dX4_latestOf_4 rfl (lv_at hl 1 rfl) ?_
    refine lv_sipush (v := 400) hx hb dX4_latestOf_5 (by decide) ?_
    refine lv_icmp_ge (tgt := 20) hx hb dX4_latestOf_8 (by decide) (fun c_2 => ?_) (fun c_2 => ?_)
    · replace q := if_t c_2 q
      refine lv_iconst (v := -1) hx hb dX4_latestOf_20 (by decide) ?_
      cases q
      exact x_iret hx hb hr hlk M Ext.rf dX4_latestOf_21
    · replace q := if_f c_2 q
      refine lv_aload_n hx hb dX4_latestOf_11 rfl (lv_at hl 0 rfl) ?_
      replace q := nn_s q
      obtain ⟨a_3, e_a_3, q⟩ := q
      refine x_getR hx hb hown hX M e_a_3 okX4 ra0 (by decide) rfl kw_98 dX4_latestOf_12 (fun ra_3 => ?_)
      refine lv_iload_n hx hb dX4_latestOf_15 rfl (lv_at hl 1 rfl) ?_
      replace q := ck_s q
      obtain ⟨hin, q⟩ := q
      refine x_iald hx hb hX M ra_3 (inb_in hin) dX4_latestOf_16 ?_
      refine lv_goto (tgt := 21) hx hb dX4_latestOf_17 (by decide) ?_
      cases q
      exact x_iret hx hb hr hlk M Ext.rf dX4_latestOf_21
set_option maxRecDepth 100000 in
theorem c_X4_latestOf {l : Launch} {D : va_G} {cA : Nat → ClassId} {lo tS N : Nat} {S : Hs} {g g1 : Hg} {rv : Int32} {a0 : Nat} {x1 : Int32} (ra0 : Rf lo S a0 4) (q : f_X4_latestOf N S g a0 x1 = some (rv, g1)) {d : Nat} (hd : 1 ≤ d) : Ctr l yX4_latestOf cX4_latestOf 2 (some .int) D cA lo tS [.ref a0, .int x1] S g d (some (.int rv)) S g1 True 0 0 := by
  refine x_met (by decide) (Nat.le_of_ble_eq_true rfl) ?_
  intro p e s m below meth c ls hx hb hml hr hlk hown hnm hX M hl
  exact w_X4_latestOf_0 hx hb hml hr hlk hown hX hd (Nat.mul_le_mul_left 60 hd) (N := N) _ _ _ _ _ _ M ra0 (lv_sub hl [0, 1] rfl) q
def b_X4_heed_46 (N : Nat) (S : Hs) (k46 : Hg → Nat → Nat → Int32 → Int32 → Int32 → Option (Unit × Hg)) (g : Hg) (a0 : Nat) (a1 : Nat) (x2 : Int32) (x3 : Int32) (x4 : Int32) : Option (Unit × Hg) :=
nn (rdR g a1 1) (fun a_1 =>
nn (rdR g a_1 1) (fun a_2 =>
ck (inb x2 (hpL S a_2)) (
if (rdI g a_2 x2.toNatClampNeg) ≤ x4 then (
some ((), g)) else (
nn (rdR g a1 2) (fun a_4 =>
ck (inb x4 (hpL S a_4)) (
if (rdI g a_4 x4.toNatClampNeg) = x3 then (
nn (rdR g a0 1) (fun a_7 =>
ck (inb x3 (hpL S a_7)) (
nm (wrI g a_7 x3.toNatClampNeg x4) (fun g_8 =>
nm (x4 + 1) (fun x_9 =>
k46 g_8 a0 a1 x2 x3 x_9))))) else (
nm (x4 + 1) (fun x_6 =>
k46 g a0 a1 x2 x3 x_6))))))))
def n_X4_heed_46 (N : Nat) (S : Hs) : Nat → Hg → Nat → Nat → Int32 → Int32 → Int32 → Option (Unit × Hg)
  | 0 => fun _ _ _ _ _ _ => none
  | n + 1 => fun g a0 a1 x2 x3 x4 => b_X4_heed_46 N S (n_X4_heed_46 N S n) g a0 a1 x2 x3 x4
def b_X4_heed_0 (N : Nat) (S : Hs) (g : Hg) (a0 : Nat) (a1 : Nat) (x2 : Int32) : Option (Unit × Hg) :=
nn (rdR g a1 0) (fun a_1 =>
nn (rdR g a1 1) (fun a_2 =>
nn (rdR g a_2 0) (fun a_3 =>
ck (inb x2 (hpL S a_3)) (
c2 (f_X2_find N S g a_1 (rdI g a_3 x2.toNatClampNeg)) (fun x_5 g_4 =>
if x_5 = (-1 : Int32) then (
some ((), g_4)) else (
nn (rdR g_4 a0 1) (fun a_7 =>
ck (inb x_5 (hpL S a_7)) (
nm (wrI g_4 a_7 x_5.toNatClampNeg (-1 : Int32)) (fun g_8 =>
nn (rdR g_8 a1 1) (fun a_9 =>
nn (rdR g_8 a_9 2) (fun a_10 =>
ck (inb x2 (hpL S a_10)) (
if (rdI g_8 a_10 x2.toNatClampNeg) = 0 then (
n_X4_heed_46 N S N g_8 a0 a1 x2 x_5 (0 : Int32)) else (
some ((), g_8))))))))))))))
def f_X4_heed (N : Nat) (S : Hs) (g : Hg) (a0 : Nat) (a1 : Nat) (x2 : Int32) : Option (Unit × Hg) := b_X4_heed_0 N S g a0 a1 x2
set_option maxHeartbeats 4000000 in
set_option maxRecDepth 100000 in
theorem w_X4_heed_46 (hx : p.tables.exec = Jvm.exec) (hb : c.code = cX4_heed) (hml : c.maxLocals = 5) (hr : meth.sig.returnType = none) (hlk : meth.locks = false) (hown : s.vm.findClass RX4 = some m.cls) (hX : Kx D cA lo tS s) (hRf : 2 ≤ R.frames) (hRl : 120 ≤ R.locals) {N : Nat} {rv : Unit} {g1 : Hg} {S : Hs} {k46 : Hg → Nat → Nat → Int32 → Int32 → Int32 → Option (Unit × Hg)} (hk46 : ∀ (H : Heap) (locs : List Loc) (ls : Array Slot) (g : Hg) (a0 : Nat) (a1 : Nat) (x2 : Int32) (x3 : Int32) (x4 : Int32), Mm D cA lo S g s H locs → Rf lo S a0 4 → Rf lo S a1 3 → lv_has ls 5 [(0, .ref a0), (1, .ref a1), (2, .int x2), (3, .int x3), (4, .int x4)] → k46 g a0 a1 x2 x3 x4 = some (rv, g1) → W p l e R s m args below meth c H locs 0 0 (MQ below (Qcx D cA lo S none S g1 True) args s 0 0 (fun q : Nat => lo ≤ q)) (F0 m 46 ls [])) : ∀ (H : Heap) (locs : List Loc) (ls : Array Slot) (g : Hg) (a0 : Nat) (a1 : Nat) (x2 : Int32) (x3 : Int32) (x4 : Int32), Mm D cA lo S g s H locs → Rf lo S a0 4 → Rf lo S a1 3 → lv_has ls 5 [(0, .ref a0), (1, .ref a1), (2, .int x2), (3, .int x3), (4, .int x4)] → b_X4_heed_46 N S k46 g a0 a1 x2 x3 x4 = some (rv, g1) → W p l e R s m args below meth c H locs 0 0 (MQ below (Qcx D cA lo S none S g1 True) args s 0 0 (fun q : Nat => lo ≤ q)) (F0 m 46 ls []) := by
  intro H locs ls g a0 a1 x2 x3 x4 M ra0 ra1 hl q
  unfold b_X4_heed_46 at q
  refine lv_iload hx hb dX4_heed_46 (lv_at hl 4 rfl) ?_
  refine lv_aload_n hx hb dX4_heed_48 rfl (lv_at hl 1 rfl) ?_
  replace q := nn_s q
  obtain ⟨a_1, e_a_1, q⟩ := q
  refine x_getR hx hb hown hX M e_a_1 okX3 ra1 (by decide) rfl kw_445 dX4_heed_49 (fun ra_1 => ?_)
  replace q := nn_s q
  obtain ⟨a_2, e_a_2, q⟩ := q
  refine x_getR hx hb hown hX M e_a_2 okX5 ra_1 (by decide) rfl kw_424 dX4_heed_52 (fun ra_2 => ?_)
  refine lv_iload_n hx hb dX4_heed_55 rfl (lv_at hl 2 rfl) ?_
  replace q := ck_s q
  obtain ⟨hin, q⟩ := q
  refine x_iald hx hb hX M ra_2 (inb_in hin) dX4_heed_56 ?_
  refine lv_icmp_ge (tgt := 85) hx hb dX4_heed_57 (by decide) (fun c_3 => ?_) (fun c_3 => ?_)
  · replace q := if_t c_3 q
    cases q
    exact x_vret hx hb hr hlk M Ext.rf dX4_heed_85
  · replace q := if_f c_3 q
    refine lv_aload_n hx hb dX4_heed_60 rfl (lv_at hl 1 rfl) ?_
    replace q := nn_s q
    obtain ⟨a_4, e_a_4, q⟩ := q
    refine x_getR hx hb hown hX M e_a_4 okX3 ra1 (by decide) rfl kw_448 dX4_heed_61 (fun ra_4 => ?_)
    refine lv_iload hx hb dX4_heed_64 (lv_at hl 4 rfl) ?_
    replace q := ck_s q
    obtain ⟨hin, q⟩ := q
    refine x_iald hx hb hX M ra_4 (inb_in hin) dX4_heed_66 ?_
    refine lv_iload_n hx hb dX4_heed_67 rfl (lv_at hl 3 rfl) ?_
    refine lv_icmp_ne (tgt := 79) hx hb dX4_heed_68 (by decide) (fun c_5 => ?_) (fun c_5 => ?_)
    · replace q := if_f c_5 q
      obtain ⟨x_6, e_x_6⟩ : ∃ y : Int32, y = x4 + 1 := ⟨_, rfl⟩
      replace q := nm_s q e_x_6
      refine lv_iinc (v := x_6) (lv' := [(4, .int x_6), (0, .ref a0), (1, .ref a1), (2, .int x2), (3, .int x3)]) hx hb dX4_heed_79 hl (k := 4) rfl (by rw [e_x_6]; rfl) (by decide) rfl (fun ls hl => ?_)
      refine lv_goto (tgt := 46) hx hb dX4_heed_82 (by decide) ?_
      exact hk46 _ _ _ _ _ _ _ _ _ M ra0 ra1 (lv_sub hl [1, 2, 3, 4, 0] rfl) q
    · replace q := if_t c_5 q
      refine lv_aload_n hx hb dX4_heed_71 rfl (lv_at hl 0 rfl) ?_
      replace q := nn_s q
      obtain ⟨a_7, e_a_7, q⟩ := q
      refine x_getR hx hb hown hX M e_a_7 okX4 ra0 (by decide) rfl kw_98 dX4_heed_72 (fun ra_7 => ?_)
      refine lv_iload_n hx hb dX4_heed_75 rfl (lv_at hl 3 rfl) ?_
      refine lv_iload hx hb dX4_heed_76 (lv_at hl 4 rfl) ?_
      replace q := ck_s q
      obtain ⟨hin, q⟩ := q
      refine x_iast hx hb hX M ra_7 (inb_in hin) dX4_heed_78 (fun H locs M => ?_)
      replace q := gen_g M q
      obtain ⟨g_8, -, M, q⟩ := q
      obtain ⟨x_9, e_x_9⟩ : ∃ y : Int32, y = x4 + 1 := ⟨_, rfl⟩
      replace q := nm_s q e_x_9
      refine lv_iinc (v := x_9) (lv' := [(4, .int x_9), (0, .ref a0), (1, .ref a1), (2, .int x2), (3, .int x3)]) hx hb dX4_heed_79 hl (k := 4) rfl (by rw [e_x_9]; rfl) (by decide) rfl (fun ls hl => ?_)
      refine lv_goto (tgt := 46) hx hb dX4_heed_82 (by decide) ?_
      exact hk46 _ _ _ _ _ _ _ _ _ M ra0 ra1 (lv_sub hl [1, 2, 3, 4, 0] rfl) q
set_option maxRecDepth 100000 in
theorem l_X4_heed_46 (hx : p.tables.exec = Jvm.exec) (hb : c.code = cX4_heed) (hml : c.maxLocals = 5) (hr : meth.sig.returnType = none) (hlk : meth.locks = false) (hown : s.vm.findClass RX4 = some m.cls) (hX : Kx D cA lo tS s) (hRf : 2 ≤ R.frames) (hRl : 120 ≤ R.locals) {N : Nat} {rv : Unit} {g1 : Hg} {S : Hs} : ∀ (n : Nat), ∀ (H : Heap) (locs : List Loc) (ls : Array Slot) (g : Hg) (a0 : Nat) (a1 : Nat) (x2 : Int32) (x3 : Int32) (x4 : Int32), Mm D cA lo S g s H locs → Rf lo S a0 4 → Rf lo S a1 3 → lv_has ls 5 [(0, .ref a0), (1, .ref a1), (2, .int x2), (3, .int x3), (4, .int x4)] → n_X4_heed_46 N S n g a0 a1 x2 x3 x4 = some (rv, g1) → W p l e R s m args below meth c H locs 0 0 (MQ below (Qcx D cA lo S none S g1 True) args s 0 0 (fun q : Nat => lo ≤ q)) (F0 m 46 ls []) := by
  intro n
  induction n with
  | zero =>
    intro H locs ls g a0 a1 x2 x3 x4 M ra0 ra1 hl q
    exact absurd q (by simp [n_X4_heed_46])
  | succ n ih => exact w_X4_heed_46 hx hb hml hr hlk hown hX hRf hRl (N := N)  ih
set_option maxHeartbeats 4000000 in
set_option maxRecDepth 100000 in
theorem w_X4_heed_0 (hx : p.tables.exec = Jvm.exec) (hb : c.code = cX4_heed) (hml : c.maxLocals = 5) (hr : meth.sig.returnType = none) (hlk : meth.locks = false) (hown : s.vm.findClass RX4 = some m.cls) (hX : Kx D cA lo tS s) (hRf : 2 ≤ R.frames) (hRl : 120 ≤ R.locals) {N : Nat} {rv : Unit} {g1 : Hg} {S : Hs} : ∀ (H : Heap) (locs : List Loc) (ls : Array Slot) (g : Hg) (a0 : Nat) (a1 : Nat) (x2 : Int32), Mm D cA lo S g s H locs → Rf lo S a0 4 → Rf lo S a1 3 → lv_has ls 5 [(0, .ref a0), (1, .ref a1), (2, .int x2)] → b_X4_heed_0 N S g a0 a1 x2 = some (rv, g1) → W p l e R s m args below meth c H locs 0 0 (MQ below (Qcx D cA lo S none S g1 True) args s 0 0 (fun q : Nat => lo ≤ q)) (F0 m 0 ls []) := by
  intro H locs ls g a0 a1 x2 M ra0 ra1 hl q
  unfold b_X4_heed_0 at q
  refine lv_aload_n hx hb dX4_heed_0 rfl (lv_at hl 1 rfl) ?_
  replace q := nn_s q
  obtain ⟨a_1, e_a_1, q⟩ := q
  refine x_getR hx hb hown hX M e_a_1 okX3 ra1 (by decide) rfl kw_441 dX4_heed_1 (fun ra_1 => ?_)
  refine lv_aload_n hx hb dX4_heed_4 rfl (lv_at hl 1 rfl) ?_
  replace q := nn_s q
  obtain ⟨a_2, e_a_2, q⟩ := q
  refine x_getR hx hb hown hX M e_a_2 okX3 ra1 (by decide) rfl kw_445 dX4_heed_5 (fun ra_2 => ?_)
  replace q := nn_s q
  obtain ⟨a_3, e_a_3, q⟩ := q
  refine x_getR hx hb hown hX M e_a_3 okX5 ra_2 (by decide) rfl kw_422 dX4_heed_8 (fun ra_3 => ?_)
  refine lv_iload_n hx hb dX4_heed_11 rfl (lv_at hl 2 rfl) ?_
  replace q := ck_s q
  obtain ⟨hin, q⟩ := q
  refine x_iald hx hb hX M ra_3 (inb_in hin) dX4_heed_12 ?_
  replace q := c2_s q
  obtain ⟨x_5, g_4, qc, q⟩ := q
  refine x_callV hx hb hml hl.1 hown hX M (S1 := S) (As := [.int (rdI g a_3 x2.toNatClampNeg)]) (rest := []) okX2 ra_1 rfl kw_507 kw_508 mok_X2_find (c_X2_find ra_1 qc (Nat.le_refl 1)) kw_628 rfl rfl dX4_heed_13 (Nat.le_of_ble_eq_true rfl) ⟨Nat.le_trans (by decide) hRf, Nat.le_trans (by decide) hRl⟩ (Nat.zero_le _) (Nat.zero_le _) (fun H locs M hEF => ?_)
  refine lv_istore_n (lv' := [(3, .int x_5), (0, .ref a0), (1, .ref a1), (2, .int x2)]) hx hb dX4_heed_16 rfl hl (by decide) rfl (fun ls hl => ?_)
  refine lv_iload_n hx hb dX4_heed_17 rfl (lv_at hl 0 rfl) ?_
  refine lv_iconst (v := -1) hx hb dX4_heed_18 (by decide) ?_
  refine lv_icmp_ne (tgt := 23) hx hb dX4_heed_19 (by decide) (fun c_6 => ?_) (fun c_6 => ?_)
  · replace q := if_f c_6 q
    refine lv_aload_n hx hb dX4_heed_23 rfl (lv_at hl 1 rfl) ?_
    replace q := nn_s q
    obtain ⟨a_7, e_a_7, q⟩ := q
    refine x_getR hx hb hown hX M e_a_7 okX4 ra0 (by decide) rfl kw_98 dX4_heed_24 (fun ra_7 => ?_)
    refine lv_iload_n hx hb dX4_heed_27 rfl (lv_at hl 0 rfl) ?_
    refine lv_iconst (v := -1) hx hb dX4_heed_28 (by decide) ?_
    replace q := ck_s q
    obtain ⟨hin, q⟩ := q
    refine x_iast hx hb hX M ra_7 (inb_in hin) dX4_heed_29 (fun H locs M => ?_)
    replace q := gen_g M q
    obtain ⟨g_8, -, M, q⟩ := q
    refine lv_aload_n hx hb dX4_heed_30 rfl (lv_at hl 2 rfl) ?_
    replace q := nn_s q
    obtain ⟨a_9, e_a_9, q⟩ := q
    refine x_getR hx hb hown hX M e_a_9 okX3 ra1 (by decide) rfl kw_445 dX4_heed_31 (fun ra_9 => ?_)
    replace q := nn_s q
    obtain ⟨a_10, e_a_10, q⟩ := q
    refine x_getR hx hb hown hX M e_a_10 okX5 ra_9 (by decide) rfl kw_426 dX4_heed_34 (fun ra_10 => ?_)
    refine lv_iload_n hx hb dX4_heed_37 rfl (lv_at hl 3 rfl) ?_
    replace q := ck_s q
    obtain ⟨hin, q⟩ := q
    refine x_zald hx hb hX M ra_10 (inb_in hin) dX4_heed_38 ?_
    refine lv_if_eq (tgt := 43) hx hb dX4_heed_39 (by decide) (fun c_11 => ?_) (fun c_11 => ?_)
    · replace q := if_t c_11 q
      refine lv_iconst (v := 0) hx hb dX4_heed_43 (by decide) ?_
      refine lv_istore (lv' := [(4, .int (0 : Int32)), (3, .int x_5), (0, .ref a0), (1, .ref a1), (2, .int x2)]) hx hb dX4_heed_44 hl (by decide) rfl (fun ls hl => ?_)
      exact l_X4_heed_46 hx hb hml hr hlk hown hX hRf hRl (N := N)  N _ _ _ _ _ _ _ _ _ M ra0 ra1 (lv_sub hl [2, 3, 4, 1, 0] rfl) q
    · replace q := if_f c_11 q
      cases q
      exact x_vret hx hb hr hlk M Ext.rf dX4_heed_42
  · replace q := if_t c_6 q
    cases q
    exact x_vret hx hb hr hlk M Ext.rf dX4_heed_22
set_option maxRecDepth 100000 in
theorem c_X4_heed {l : Launch} {D : va_G} {cA : Nat → ClassId} {lo tS N : Nat} {S : Hs} {g g1 : Hg} {rv : Unit} {a0 : Nat} {a1 : Nat} {x2 : Int32} (ra0 : Rf lo S a0 4) (ra1 : Rf lo S a1 3) (q : f_X4_heed N S g a0 a1 x2 = some (rv, g1)) {d : Nat} (hd : 2 ≤ d) : Ctr l yX4_heed cX4_heed 5 none D cA lo tS [.ref a0, .ref a1, .int x2] S g d none S g1 True 0 0 := by
  refine x_met (by decide) (Nat.le_of_ble_eq_true rfl) ?_
  intro p e s m below meth c ls hx hb hml hr hlk hown hnm hX M hl
  exact w_X4_heed_0 hx hb hml hr hlk hown hX hd (Nat.mul_le_mul_left 60 hd) (N := N) _ _ _ _ _ _ _ M ra0 ra1 (lv_sub hl [0, 1, 2] rfl) q
def b_X4_read_86 (N : Nat) (S : Hs) (k86 : Hg → Nat → Nat → Int32 → Option (Unit × Hg)) (g : Hg) (a0 : Nat) (a1 : Nat) (x3 : Int32) : Option (Unit × Hg) :=
nn (rdR g a1 0) (fun a_1 =>
if (rdI g a_1 3) ≤ x3 then (
some ((), g)) else (
nn (rdR g a1 0) (fun a_3 =>
nn (rdR g a_3 2) (fun a_4 =>
ck (inb x3 (hpL S a_4)) (
nm (rdI g a_4 x3.toNatClampNeg) (fun x_5 =>
nn (rdR g a0 1) (fun a_6 =>
ck (inb x_5 (hpL S a_6)) (
if (rdI g a_6 x_5.toNatClampNeg) = (-1 : Int32) then (
nm (x3 + 1) (fun x_8 =>
k86 g a0 a1 x_8)) else (
nn (rdR g a0 2) (fun a_9 =>
ck (inb (rdI g a0 5) (hpL S a_9)) (
nm (wrI g a_9 (rdI g a0 5).toNatClampNeg x_5) (fun g_10 =>
nm (wrI g_10 a0 5 ((rdI g_10 a0 5) + (1 : Int32))) (fun g_11 =>
nm (x3 + 1) (fun x_12 =>
k86 g_11 a0 a1 x_12))))))))))))))
def n_X4_read_86 (N : Nat) (S : Hs) : Nat → Hg → Nat → Nat → Int32 → Option (Unit × Hg)
  | 0 => fun _ _ _ _ => none
  | n + 1 => fun g a0 a1 x3 => b_X4_read_86 N S (n_X4_read_86 N S n) g a0 a1 x3
def b_X4_read_43 (N : Nat) (S : Hs) (k43 : Hg → Nat → Nat → Int32 → Int32 → Option (Unit × Hg)) (g : Hg) (a0 : Nat) (a1 : Nat) (x2 : Int32) (x3 : Int32) : Option (Unit × Hg) :=
nn (rdR g a1 1) (fun a_1 =>
if (rdI g a_1 3) ≤ x3 then (
nm (wrI g a0 5 (0 : Int32)) (fun g_3 =>
n_X4_read_86 N S N g_3 a0 a1 (0 : Int32))) else (
nn (rdR g a1 1) (fun a_4 =>
nn (rdR g a_4 1) (fun a_5 =>
ck (inb x3 (hpL S a_5)) (
if x2 < (rdI g a_5 x3.toNatClampNeg) then (
nm (x3 + 1) (fun x_7 =>
k43 g a0 a1 x2 x_7)) else (
c2 (f_X4_heed N S g a0 a1 x3) (fun u_9 g_8 =>
nm (x3 + 1) (fun x_10 =>
k43 g_8 a0 a1 x2 x_10))))))))
def n_X4_read_43 (N : Nat) (S : Hs) : Nat → Hg → Nat → Nat → Int32 → Int32 → Option (Unit × Hg)
  | 0 => fun _ _ _ _ _ => none
  | n + 1 => fun g a0 a1 x2 x3 => b_X4_read_43 N S (n_X4_read_43 N S n) g a0 a1 x2 x3
def b_X4_read_18 (N : Nat) (S : Hs) (k18 : Hg → Nat → Nat → Int32 → Int32 → Option (Unit × Hg)) (g : Hg) (a0 : Nat) (a1 : Nat) (x2 : Int32) (x3 : Int32) : Option (Unit × Hg) :=
if x2 ≤ x3 then (
n_X4_read_43 N S N g a0 a1 x2 (0 : Int32)) else (
nn (rdR g a0 1) (fun a_2 =>
nn (rdR g a1 2) (fun a_3 =>
ck (inb x3 (hpL S a_3)) (
ck (inb (rdI g a_3 x3.toNatClampNeg) (hpL S a_2)) (
nm (wrI g a_2 (rdI g a_3 x3.toNatClampNeg).toNatClampNeg x3) (fun g_4 =>
nm (x3 + 1) (fun x_5 =>
k18 g_4 a0 a1 x2 x_5)))))))
def n_X4_read_18 (N : Nat) (S : Hs) : Nat → Hg → Nat → Nat → Int32 → Int32 → Option (Unit × Hg)
  | 0 => fun _ _ _ _ _ => none
  | n + 1 => fun g a0 a1 x2 x3 => b_X4_read_18 N S (n_X4_read_18 N S n) g a0 a1 x2 x3
def b_X4_read_0 (N : Nat) (S : Hs) (g : Hg) (a0 : Nat) (a1 : Nat) (x2 : Int32) : Option (Unit × Hg) :=
nn (rdR g a0 1) (fun a_1 =>
nn (rdR g a1 0) (fun a_2 =>
c2 (f_J7_fill_fda19 N S g a_1 (0 : Int32) (rdI g a_2 3) (-1 : Int32)) (fun u_4 g_3 =>
n_X4_read_18 N S N g_3 a0 a1 x2 (0 : Int32))))
def f_X4_read (N : Nat) (S : Hs) (g : Hg) (a0 : Nat) (a1 : Nat) (x2 : Int32) : Option (Unit × Hg) := b_X4_read_0 N S g a0 a1 x2
set_option maxHeartbeats 4000000 in
set_option maxRecDepth 100000 in
theorem w_X4_read_86 (hx : p.tables.exec = Jvm.exec) (hb : c.code = cX4_read) (hml : c.maxLocals = 5) (hr : meth.sig.returnType = none) (hlk : meth.locks = false) (hown : s.vm.findClass RX4 = some m.cls) (hX : Kx D cA lo tS s) (hRf : 3 ≤ R.frames) (hRl : 180 ≤ R.locals) {N : Nat} {rv : Unit} {g1 : Hg} {S : Hs} {k86 : Hg → Nat → Nat → Int32 → Option (Unit × Hg)} (hk86 : ∀ (H : Heap) (locs : List Loc) (ls : Array Slot) (g : Hg) (a0 : Nat) (a1 : Nat) (x3 : Int32), Mm D cA lo S g s H locs → Rf lo S a0 4 → Rf lo S a1 3 → lv_has ls 5 [(0, .ref a0), (1, .ref a1), (3, .int x3)] → k86 g a0 a1 x3 = some (rv, g1) → W p l e R s m args below meth c H locs 0 0 (MQ below (Qcx D cA lo S none S g1 True) args s 0 0 (fun q : Nat => lo ≤ q)) (F0 m 86 ls [])) : ∀ (H : Heap) (locs : List Loc) (ls : Array Slot) (g : Hg) (a0 : Nat) (a1 : Nat) (x3 : Int32), Mm D cA lo S g s H locs → Rf lo S a0 4 → Rf lo S a1 3 → lv_has ls 5 [(0, .ref a0), (1, .ref a1), (3, .int x3)] → b_X4_read_86 N S k86 g a0 a1 x3 = some (rv, g1) → W p l e R s m args below meth c H locs 0 0 (MQ below (Qcx D cA lo S none S g1 True) args s 0 0 (fun q : Nat => lo ≤ q)) (F0 m 86 ls []) := by
  intro H locs ls g a0 a1 x3 M ra0 ra1 hl q
  unfold b_X4_read_86 at q
  refine lv_iload_n hx hb dX4_read_86 rfl (lv_at hl 2 rfl) ?_
  refine lv_aload_n hx hb dX4_read_87 rfl (lv_at hl 1 rfl) ?_
  replace q := nn_s q
  obtain ⟨a_1, e_a_1, q⟩ := q
  refine x_getR hx hb hown hX M e_a_1 okX3 ra1 (by decide) rfl kw_441 dX4_read_88 (fun ra_1 => ?_)
  refine x_getI hx hb hown hX M (k := 3) okX2 ra_1 (by decide) rfl kw_403 dX4_read_91 ?_
  refine lv_icmp_ge (tgt := 146) hx hb dX4_read_94 (by decide) (fun c_2 => ?_) (fun c_2 => ?_)
  · replace q := if_t c_2 q
    cases q
    exact x_vret hx hb hr hlk M Ext.rf dX4_read_146
  · replace q := if_f c_2 q
    refine lv_aload_n hx hb dX4_read_97 rfl (lv_at hl 1 rfl) ?_
    replace q := nn_s q
    obtain ⟨a_3, e_a_3, q⟩ := q
    refine x_getR hx hb hown hX M e_a_3 okX3 ra1 (by decide) rfl kw_441 dX4_read_98 (fun ra_3 => ?_)
    replace q := nn_s q
    obtain ⟨a_4, e_a_4, q⟩ := q
    refine x_getR hx hb hown hX M e_a_4 okX2 ra_3 (by decide) rfl kw_401 dX4_read_101 (fun ra_4 => ?_)
    refine lv_iload_n hx hb dX4_read_104 rfl (lv_at hl 2 rfl) ?_
    replace q := ck_s q
    obtain ⟨hin, q⟩ := q
    refine x_iald hx hb hX M ra_4 (inb_in hin) dX4_read_105 ?_
    refine lv_topi (fun x_5 e_x_5 => ?_)
    replace q := nm_s q e_x_5
    refine lv_istore (lv' := [(4, .int x_5), (0, .ref a0), (1, .ref a1), (3, .int x3)]) hx hb dX4_read_106 hl (by decide) rfl (fun ls hl => ?_)
    refine lv_aload_n hx hb dX4_read_108 rfl (lv_at hl 1 rfl) ?_
    replace q := nn_s q
    obtain ⟨a_6, e_a_6, q⟩ := q
    refine x_getR hx hb hown hX M e_a_6 okX4 ra0 (by decide) rfl kw_98 dX4_read_109 (fun ra_6 => ?_)
    refine lv_iload hx hb dX4_read_112 (lv_at hl 0 rfl) ?_
    replace q := ck_s q
    obtain ⟨hin, q⟩ := q
    refine x_iald hx hb hX M ra_6 (inb_in hin) dX4_read_114 ?_
    refine lv_iconst (v := -1) hx hb dX4_read_115 (by decide) ?_
    refine lv_icmp_eq (tgt := 140) hx hb dX4_read_116 (by decide) (fun c_7 => ?_) (fun c_7 => ?_)
    · replace q := if_t c_7 q
      obtain ⟨x_8, e_x_8⟩ : ∃ y : Int32, y = x3 + 1 := ⟨_, rfl⟩
      replace q := nm_s q e_x_8
      refine lv_iinc (v := x_8) (lv' := [(3, .int x_8), (4, .int x_5), (0, .ref a0), (1, .ref a1)]) hx hb dX4_read_140 hl (k := 3) rfl (by rw [e_x_8]; rfl) (by decide) rfl (fun ls hl => ?_)
      refine lv_goto (tgt := 86) hx hb dX4_read_143 (by decide) ?_
      exact hk86 _ _ _ _ _ _ _ M ra0 ra1 (lv_sub hl [2, 3, 0] rfl) q
    · replace q := if_f c_7 q
      refine lv_aload_n hx hb dX4_read_119 rfl (lv_at hl 1 rfl) ?_
      replace q := nn_s q
      obtain ⟨a_9, e_a_9, q⟩ := q
      refine x_getR hx hb hown hX M e_a_9 okX4 ra0 (by decide) rfl kw_99 dX4_read_120 (fun ra_9 => ?_)
      refine lv_aload_n hx hb dX4_read_123 rfl (lv_at hl 1 rfl) ?_
      refine x_getI hx hb hown hX M (k := 5) okX4 ra0 (by decide) rfl kw_102 dX4_read_124 ?_
      refine lv_iload hx hb dX4_read_127 (lv_at hl 0 rfl) ?_
      replace q := ck_s q
      obtain ⟨hin, q⟩ := q
      refine x_iast hx hb hX M ra_9 (inb_in hin) dX4_read_129 (fun H locs M => ?_)
      replace q := gen_g M q
      obtain ⟨g_10, -, M, q⟩ := q
      refine lv_aload_n hx hb dX4_read_130 rfl (lv_at hl 1 rfl) ?_
      refine lv_dup hx hb dX4_read_131 rfl ?_
      refine x_getI hx hb hown hX M (k := 5) okX4 ra0 (by decide) rfl kw_102 dX4_read_132 ?_
      refine lv_iconst (v := 1) hx hb dX4_read_135 (by decide) ?_
      refine lv_iadd hx hb dX4_read_136 ?_
      refine x_putI hx hb hown hX M (k := 5) okX4 ra0 (by decide) rfl (Or.inl rfl) rfl rfl kw_102 dX4_read_137 (fun H locs M => ?_)
      replace q := gen_g M q
      obtain ⟨g_11, -, M, q⟩ := q
      obtain ⟨x_12, e_x_12⟩ : ∃ y : Int32, y = x3 + 1 := ⟨_, rfl⟩
      replace q := nm_s q e_x_12
      refine lv_iinc (v := x_12) (lv' := [(3, .int x_12), (4, .int x_5), (0, .ref a0), (1, .ref a1)]) hx hb dX4_read_140 hl (k := 3) rfl (by rw [e_x_12]; rfl) (by decide) rfl (fun ls hl => ?_)
      refine lv_goto (tgt := 86) hx hb dX4_read_143 (by decide) ?_
      exact hk86 _ _ _ _ _ _ _ M ra0 ra1 (lv_sub hl [2, 3, 0] rfl) q
set_option maxRecDepth 100000 in
theorem l_X4_read_86 (hx : p.tables.exec = Jvm.exec) (hb : c.code = cX4_read) (hml : c.maxLocals = 5) (hr : meth.sig.returnType = none) (hlk : meth.locks = false) (hown : s.vm.findClass RX4 = some m.cls) (hX : Kx D cA lo tS s) (hRf : 3 ≤ R.frames) (hRl : 180 ≤ R.locals) {N : Nat} {rv : Unit} {g1 : Hg} {S : Hs} : ∀ (n : Nat), ∀ (H : Heap) (locs : List Loc) (ls : Array Slot) (g : Hg) (a0 : Nat) (a1 : Nat) (x3 : Int32), Mm D cA lo S g s H locs → Rf lo S a0 4 → Rf lo S a1 3 → lv_has ls 5 [(0, .ref a0), (1, .ref a1), (3, .int x3)] → n_X4_read_86 N S n g a0 a1 x3 = some (rv, g1) → W p l e R s m args below meth c H locs 0 0 (MQ below (Qcx D cA lo S none S g1 True) args s 0 0 (fun q : Nat => lo ≤ q)) (F0 m 86 ls []) := by
  intro n
  induction n with
  | zero =>
    intro H locs ls g a0 a1 x3 M ra0 ra1 hl q
    exact absurd q (by simp [n_X4_read_86])
  | succ n ih => exact w_X4_read_86 hx hb hml hr hlk hown hX hRf hRl (N := N)  ih
set_option maxHeartbeats 4000000 in
set_option maxRecDepth 100000 in
theorem w_X4_read_43 (hx : p.tables.exec = Jvm.exec) (hb : c.code = cX4_read) (hml : c.maxLocals = 5) (hr : meth.sig.returnType = none) (hlk : meth.locks = false) (hown : s.vm.findClass RX4 = some m.cls) (hX : Kx D cA lo tS s) (hRf : 3 ≤ R.frames) (hRl : 180 ≤ R.locals) {N : Nat} {rv : Unit} {g1 : Hg} {S : Hs} {k43 : Hg → Nat → Nat → Int32 → Int32 → Option (Unit × Hg)} (hk43 : ∀ (H : Heap) (locs : List Loc) (ls : Array Slot) (g : Hg) (a0 : Nat) (a1 : Nat) (x2 : Int32) (x3 : Int32), Mm D cA lo S g s H locs → Rf lo S a0 4 → Rf lo S a1 3 → lv_has ls 5 [(0, .ref a0), (1, .ref a1), (2, .int x2), (3, .int x3)] → k43 g a0 a1 x2 x3 = some (rv, g1) → W p l e R s m args below meth c H locs 0 0 (MQ below (Qcx D cA lo S none S g1 True) args s 0 0 (fun q : Nat => lo ≤ q)) (F0 m 43 ls [])) : ∀ (H : Heap) (locs : List Loc) (ls : Array Slot) (g : Hg) (a0 : Nat) (a1 : Nat) (x2 : Int32) (x3 : Int32), Mm D cA lo S g s H locs → Rf lo S a0 4 → Rf lo S a1 3 → lv_has ls 5 [(0, .ref a0), (1, .ref a1), (2, .int x2), (3, .int x3)] → b_X4_read_43 N S k43 g a0 a1 x2 x3 = some (rv, g1) → W p l e R s m args below meth c H locs 0 0 (MQ below (Qcx D cA lo S none S g1 True) args s 0 0 (fun q : Nat => lo ≤ q)) (F0 m 43 ls []) := by
  intro H locs ls g a0 a1 x2 x3 M ra0 ra1 hl q
  unfold b_X4_read_43 at q
  refine lv_iload_n hx hb dX4_read_43 rfl (lv_at hl 3 rfl) ?_
  refine lv_aload_n hx hb dX4_read_44 rfl (lv_at hl 1 rfl) ?_
  replace q := nn_s q
  obtain ⟨a_1, e_a_1, q⟩ := q
  refine x_getR hx hb hown hX M e_a_1 okX3 ra1 (by decide) rfl kw_445 dX4_read_45 (fun ra_1 => ?_)
  refine x_getI hx hb hown hX M (k := 3) okX5 ra_1 (by decide) rfl kw_429 dX4_read_48 ?_
  refine lv_icmp_ge (tgt := 79) hx hb dX4_read_51 (by decide) (fun c_2 => ?_) (fun c_2 => ?_)
  · replace q := if_t c_2 q
    refine lv_aload_n hx hb dX4_read_79 rfl (lv_at hl 0 rfl) ?_
    refine lv_iconst (v := 0) hx hb dX4_read_80 (by decide) ?_
    refine x_putI hx hb hown hX M (k := 5) okX4 ra0 (by decide) rfl (Or.inl rfl) rfl rfl kw_102 dX4_read_81 (fun H locs M => ?_)
    replace q := gen_g M q
    obtain ⟨g_3, -, M, q⟩ := q
    refine lv_iconst (v := 0) hx hb dX4_read_84 (by decide) ?_
    refine lv_istore_n (lv' := [(3, .int (0 : Int32)), (0, .ref a0), (1, .ref a1), (2, .int x2)]) hx hb dX4_read_85 rfl hl (by decide) rfl (fun ls hl => ?_)
    exact l_X4_read_86 hx hb hml hr hlk hown hX hRf hRl (N := N)  N _ _ _ _ _ _ _ M ra0 ra1 (lv_sub hl [1, 2, 0] rfl) q
  · replace q := if_f c_2 q
    refine lv_aload_n hx hb dX4_read_54 rfl (lv_at hl 1 rfl) ?_
    replace q := nn_s q
    obtain ⟨a_4, e_a_4, q⟩ := q
    refine x_getR hx hb hown hX M e_a_4 okX3 ra1 (by decide) rfl kw_445 dX4_read_55 (fun ra_4 => ?_)
    replace q := nn_s q
    obtain ⟨a_5, e_a_5, q⟩ := q
    refine x_getR hx hb hown hX M e_a_5 okX5 ra_4 (by decide) rfl kw_424 dX4_read_58 (fun ra_5 => ?_)
    refine lv_iload_n hx hb dX4_read_61 rfl (lv_at hl 3 rfl) ?_
    replace q := ck_s q
    obtain ⟨hin, q⟩ := q
    refine x_iald hx hb hX M ra_5 (inb_in hin) dX4_read_62 ?_
    refine lv_iload_n hx hb dX4_read_63 rfl (lv_at hl 2 rfl) ?_
    refine lv_icmp_gt (tgt := 73) hx hb dX4_read_64 (by decide) (fun c_6 => ?_) (fun c_6 => ?_)
    · replace q := if_t c_6 q
      obtain ⟨x_7, e_x_7⟩ : ∃ y : Int32, y = x3 + 1 := ⟨_, rfl⟩
      replace q := nm_s q e_x_7
      refine lv_iinc (v := x_7) (lv' := [(3, .int x_7), (0, .ref a0), (1, .ref a1), (2, .int x2)]) hx hb dX4_read_73 hl (k := 3) rfl (by rw [e_x_7]; rfl) (by decide) rfl (fun ls hl => ?_)
      refine lv_goto (tgt := 43) hx hb dX4_read_76 (by decide) ?_
      exact hk43 _ _ _ _ _ _ _ _ M ra0 ra1 (lv_sub hl [1, 2, 3, 0] rfl) q
    · replace q := if_f c_6 q
      refine lv_aload_n hx hb dX4_read_67 rfl (lv_at hl 0 rfl) ?_
      refine lv_aload_n hx hb dX4_read_68 rfl (lv_at hl 1 rfl) ?_
      refine lv_iload_n hx hb dX4_read_69 rfl (lv_at hl 3 rfl) ?_
      replace q := c2_s q
      obtain ⟨u_9, g_8, qc, q⟩ := q
      refine x_callV hx hb hml hl.1 hown hX M (S1 := S) (As := [.ref a1, .int x3]) (rest := []) okX4 ra0 rfl kw_626 kw_5 mok_X4_heed (c_X4_heed ra0 ra1 qc (Nat.le_refl 2)) kw_624 rfl rfl dX4_read_70 (Nat.le_of_ble_eq_true rfl) ⟨Nat.le_trans (by decide) hRf, Nat.le_trans (by decide) hRl⟩ (Nat.zero_le _) (Nat.zero_le _) (fun H locs M hEF => ?_)
      obtain ⟨x_10, e_x_10⟩ : ∃ y : Int32, y = x3 + 1 := ⟨_, rfl⟩
      replace q := nm_s q e_x_10
      refine lv_iinc (v := x_10) (lv' := [(3, .int x_10), (0, .ref a0), (1, .ref a1), (2, .int x2)]) hx hb dX4_read_73 hl (k := 3) rfl (by rw [e_x_10]; rfl) (by decide) rfl (fun ls hl => ?_)
      refine lv_goto (tgt := 43) hx hb dX4_read_76 (by decide) ?_
      exact hk43 _ _ _ _ _ _ _ _ M ra0 ra1 (lv_sub hl [1, 2, 3, 0] rfl) q
set_option maxRecDepth 100000 in
theorem l_X4_read_43 (hx : p.tables.exec = Jvm.exec) (hb : c.code = cX4_read) (hml : c.maxLocals = 5) (hr : meth.sig.returnType = none) (hlk : meth.locks = false) (hown : s.vm.findClass RX4 = some m.cls) (hX : Kx D cA lo tS s) (hRf : 3 ≤ R.frames) (hRl : 180 ≤ R.locals) {N : Nat} {rv : Unit} {g1 : Hg} {S : Hs} : ∀ (n : Nat), ∀ (H : Heap) (locs : List Loc) (ls : Array Slot) (g : Hg) (a0 : Nat) (a1 : Nat) (x2 : Int32) (x3 : Int32), Mm D cA lo S g s H locs → Rf lo S a0 4 → Rf lo S a1 3 → lv_has ls 5 [(0, .ref a0), (1, .ref a1), (2, .int x2), (3, .int x3)] → n_X4_read_43 N S n g a0 a1 x2 x3 = some (rv, g1) → W p l e R s m args below meth c H locs 0 0 (MQ below (Qcx D cA lo S none S g1 True) args s 0 0 (fun q : Nat => lo ≤ q)) (F0 m 43 ls []) := by
  intro n
  induction n with
  | zero =>
    intro H locs ls g a0 a1 x2 x3 M ra0 ra1 hl q
    exact absurd q (by simp [n_X4_read_43])
  | succ n ih => exact w_X4_read_43 hx hb hml hr hlk hown hX hRf hRl (N := N)  ih
set_option maxHeartbeats 4000000 in
set_option maxRecDepth 100000 in
theorem w_X4_read_18 (hx : p.tables.exec = Jvm.exec) (hb : c.code = cX4_read) (hml : c.maxLocals = 5) (hr : meth.sig.returnType = none) (hlk : meth.locks = false) (hown : s.vm.findClass RX4 = some m.cls) (hX : Kx D cA lo tS s) (hRf : 3 ≤ R.frames) (hRl : 180 ≤ R.locals) {N : Nat} {rv : Unit} {g1 : Hg} {S : Hs} {k18 : Hg → Nat → Nat → Int32 → Int32 → Option (Unit × Hg)} (hk18 : ∀ (H : Heap) (locs : List Loc) (ls : Array Slot) (g : Hg) (a0 : Nat) (a1 : Nat) (x2 : Int32) (x3 : Int32), Mm D cA lo S g s H locs → Rf lo S a0 4 → Rf lo S a1 3 → lv_has ls 5 [(0, .ref a0), (1, .ref a1), (2, .int x2), (3, .int x3)] → k18 g a0 a1 x2 x3 = some (rv, g1) → W p l e R s m args below meth c H locs 0 0 (MQ below (Qcx D cA lo S none S g1 True) args s 0 0 (fun q : Nat => lo ≤ q)) (F0 m 18 ls [])) : ∀ (H : Heap) (locs : List Loc) (ls : Array Slot) (g : Hg) (a0 : Nat) (a1 : Nat) (x2 : Int32) (x3 : Int32), Mm D cA lo S g s H locs → Rf lo S a0 4 → Rf lo S a1 3 → lv_has ls 5 [(0, .ref a0), (1, .ref a1), (2, .int x2), (3, .int x3)] → b_X4_read_18 N S k18 g a0 a1 x2 x3 = some (rv, g1) → W p l e R s m args below meth c H locs 0 0 (MQ below (Qcx D cA lo S none S g1 True) args s 0 0 (fun q : Nat => lo ≤ q)) (F0 m 18 ls []) := by
  intro H locs ls g a0 a1 x2 x3 M ra0 ra1 hl q
  unfold b_X4_read_18 at q
  refine lv_iload_n hx hb dX4_read_18 rfl (lv_at hl 3 rfl) ?_
  refine lv_iload_n hx hb dX4_read_19 rfl (lv_at hl 2 rfl) ?_
  refine lv_icmp_ge (tgt := 41) hx hb dX4_read_20 (by decide) (fun c_1 => ?_) (fun c_1 => ?_)
  · replace q := if_t c_1 q
    refine lv_iconst (v := 0) hx hb dX4_read_41 (by decide) ?_
    refine lv_istore_n (lv' := [(3, .int (0 : Int32)), (0, .ref a0), (1, .ref a1), (2, .int x2)]) hx hb dX4_read_42 rfl hl (by decide) rfl (fun ls hl => ?_)
    exact l_X4_read_43 hx hb hml hr hlk hown hX hRf hRl (N := N)  N _ _ _ _ _ _ _ _ M ra0 ra1 (lv_sub hl [1, 2, 3, 0] rfl) q
  · replace q := if_f c_1 q
    refine lv_aload_n hx hb dX4_read_23 rfl (lv_at hl 0 rfl) ?_
    replace q := nn_s q
    obtain ⟨a_2, e_a_2, q⟩ := q
    refine x_getR hx hb hown hX M e_a_2 okX4 ra0 (by decide) rfl kw_98 dX4_read_24 (fun ra_2 => ?_)
    refine lv_aload_n hx hb dX4_read_27 rfl (lv_at hl 1 rfl) ?_
    replace q := nn_s q
    obtain ⟨a_3, e_a_3, q⟩ := q
    refine x_getR hx hb hown hX M e_a_3 okX3 ra1 (by decide) rfl kw_448 dX4_read_28 (fun ra_3 => ?_)
    refine lv_iload_n hx hb dX4_read_31 rfl (lv_at hl 3 rfl) ?_
    replace q := ck_s q
    obtain ⟨hin, q⟩ := q
    refine x_iald hx hb hX M ra_3 (inb_in hin) dX4_read_32 ?_
    refine lv_iload_n hx hb dX4_read_33 rfl (lv_at hl 3 rfl) ?_
    replace q := ck_s q
    obtain ⟨hin, q⟩ := q
    refine x_iast hx hb hX M ra_2 (inb_in hin) dX4_read_34 (fun H locs M => ?_)
    replace q := gen_g M q
    obtain ⟨g_4, -, M, q⟩ := q
    obtain ⟨x_5, e_x_5⟩ : ∃ y : Int32, y = x3 + 1 := ⟨_, rfl⟩
    replace q := nm_s q e_x_5
    refine lv_iinc (v := x_5) (lv' := [(3, .int x_5), (0, .ref a0), (1, .ref a1), (2, .int x2)]) hx hb dX4_read_35 hl (k := 3) rfl (by rw [e_x_5]; rfl) (by decide) rfl (fun ls hl => ?_)
    refine lv_goto (tgt := 18) hx hb dX4_read_38 (by decide) ?_
    exact hk18 _ _ _ _ _ _ _ _ M ra0 ra1 (lv_sub hl [1, 2, 3, 0] rfl) q
set_option maxRecDepth 100000 in
theorem l_X4_read_18 (hx : p.tables.exec = Jvm.exec) (hb : c.code = cX4_read) (hml : c.maxLocals = 5) (hr : meth.sig.returnType = none) (hlk : meth.locks = false) (hown : s.vm.findClass RX4 = some m.cls) (hX : Kx D cA lo tS s) (hRf : 3 ≤ R.frames) (hRl : 180 ≤ R.locals) {N : Nat} {rv : Unit} {g1 : Hg} {S : Hs} : ∀ (n : Nat), ∀ (H : Heap) (locs : List Loc) (ls : Array Slot) (g : Hg) (a0 : Nat) (a1 : Nat) (x2 : Int32) (x3 : Int32), Mm D cA lo S g s H locs → Rf lo S a0 4 → Rf lo S a1 3 → lv_has ls 5 [(0, .ref a0), (1, .ref a1), (2, .int x2), (3, .int x3)] → n_X4_read_18 N S n g a0 a1 x2 x3 = some (rv, g1) → W p l e R s m args below meth c H locs 0 0 (MQ below (Qcx D cA lo S none S g1 True) args s 0 0 (fun q : Nat => lo ≤ q)) (F0 m 18 ls []) := by
  intro n
  induction n with
  | zero =>
    intro H locs ls g a0 a1 x2 x3 M ra0 ra1 hl q
    exact absurd q (by simp [n_X4_read_18])
  | succ n ih => exact w_X4_read_18 hx hb hml hr hlk hown hX hRf hRl (N := N)  ih
set_option maxHeartbeats 4000000 in
set_option maxRecDepth 100000 in
theorem w_X4_read_0 (hx : p.tables.exec = Jvm.exec) (hb : c.code = cX4_read) (hml : c.maxLocals = 5) (hr : meth.sig.returnType = none) (hlk : meth.locks = false) (hown : s.vm.findClass RX4 = some m.cls) (hX : Kx D cA lo tS s) (hRf : 3 ≤ R.frames) (hRl : 180 ≤ R.locals) {N : Nat} {rv : Unit} {g1 : Hg} {S : Hs} : ∀ (H : Heap) (locs : List Loc) (ls : Array Slot) (g : Hg) (a0 : Nat) (a1 : Nat) (x2 : Int32), Mm D cA lo S g s H locs → Rf lo S a0 4 → Rf lo S a1 3 → lv_has ls 5 [(0, .ref a0), (1, .ref a1), (2, .int x2)] → b_X4_read_0 N S g a0 a1 x2 = some (rv, g1) → W p l e R s m args below meth c H locs 0 0 (MQ below (Qcx D cA lo S none S g1 True) args s 0 0 (fun q : Nat => lo ≤ q)) (F0 m 0 ls []) := by
  intro H locs ls g a0 a1 x2 M ra0 ra1 hl q
  unfold b_X4_read_0 at q
  refine lv_aload_n hx hb dX4_read_0 rfl (lv_at hl 0 rfl) ?_
  replace q := nn_s q
  obtain ⟨a_1, e_a_1, q⟩ := q
  refine x_getR hx hb hown hX M e_a_1 okX4 ra0 (by decide) rfl kw_98 dX4_read_1 (fun ra_1 => ?_)
  refine lv_iconst (v := 0) hx hb dX4_read_4 (by decide) ?_
  refine lv_aload_n hx hb dX4_read_5 rfl (lv_at hl 1 rfl) ?_
  replace q := nn_s q
  obtain ⟨a_2, e_a_2, q⟩ := q
  refine x_getR hx hb hown hX M e_a_2 okX3 ra1 (by decide) rfl kw_441 dX4_read_6 (fun ra_2 => ?_)
  refine x_getI hx hb hown hX M (k := 3) okX2 ra_2 (by decide) rfl kw_403 dX4_read_9 ?_
  refine lv_iconst (v := -1) hx hb dX4_read_12 (by decide) ?_
  replace q := c2_s q
  obtain ⟨u_4, g_3, qc, q⟩ := q
  refine x_callS hx hb hml hl.1 hown hX M (S1 := S) (As := [.ref a_1, .int (0 : Int32), .int (rdI g a_2 3), .int (-1 : Int32)]) (rest := []) kw_619 mok_J7_fill_fda19 (c_J7_fill_fda19 ra_1 qc (Nat.le_refl 2)) kw_618 rfl rfl dX4_read_13 (Nat.le_of_ble_eq_true rfl) ⟨Nat.le_trans (by decide) hRf, Nat.le_trans (by decide) hRl⟩ (Nat.zero_le _) (Nat.zero_le _) (fun H locs M hEF => ?_)
  refine lv_iconst (v := 0) hx hb dX4_read_16 (by decide) ?_
  refine lv_istore_n (lv' := [(3, .int (0 : Int32)), (0, .ref a0), (1, .ref a1), (2, .int x2)]) hx hb dX4_read_17 rfl hl (by decide) rfl (fun ls hl => ?_)
  exact l_X4_read_18 hx hb hml hr hlk hown hX hRf hRl (N := N)  N _ _ _ _ _ _ _ _ M ra0 ra1 (lv_sub hl [1, 2, 3, 0] rfl) q
set_option maxRecDepth 100000 in
theorem c_X4_read {l : Launch} {D : va_G} {cA : Nat → ClassId} {lo tS N : Nat} {S : Hs} {g g1 : Hg} {rv : Unit} {a0 : Nat} {a1 : Nat} {x2 : Int32} (ra0 : Rf lo S a0 4) (ra1 : Rf lo S a1 3) (q : f_X4_read N S g a0 a1 x2 = some (rv, g1)) {d : Nat} (hd : 3 ≤ d) : Ctr l yX4_read cX4_read 5 none D cA lo tS [.ref a0, .ref a1, .int x2] S g d none S g1 True 0 0 := by
  refine x_met (by decide) (Nat.le_of_ble_eq_true rfl) ?_
  intro p e s m below meth c ls hx hb hml hr hlk hown hnm hX M hl
  exact w_X4_read_0 hx hb hml hr hlk hown hX hd (Nat.mul_le_mul_left 60 hd) (N := N) _ _ _ _ _ _ _ M ra0 ra1 (lv_sub hl [0, 1, 2] rfl) q
def b_X11_bitOfWay_0 (N : Nat) (S : Hs) (g : Hg) (a0 : Nat) (x1 : Int32) (x2 : Int32) : Option (Int32 × Hg) :=
ck (inb ((x1 * (8 : Int32)) + (x2 / (32 : Int32))) (hpL S a0)) (
nm (rdI g a0 ((x1 * (8 : Int32)) + (x2 / (32 : Int32))).toNatClampNeg) (fun x_1 =>
some (((x_1.toUInt32 >>> (((31 : Int32) - (x2 - x2 / (32 : Int32) * (32 : Int32))).toUInt32 &&& Int32.toUInt32 31)).toInt32 &&& (1 : Int32)), g)))
def f_X11_bitOfWay (N : Nat) (S : Hs) (g : Hg) (a0 : Nat) (x1 : Int32) (x2 : Int32) : Option (Int32 × Hg) := b_X11_bitOfWay_0 N S g a0 x1 x2
set_option maxHeartbeats 4000000 in
set_option maxRecDepth 100000 in
theorem w_X11_bitOfWay_0 (hx : p.tables.exec = Jvm.exec) (hb : c.code = cX11_bitOfWay) (hml : c.maxLocals = 4) (hr : meth.sig.returnType = (some .int)) (hlk : meth.locks = false) (hown : s.vm.findClass RX11 = some m.cls) (hX : Kx D cA lo tS s) (hRf : 1 ≤ R.frames) (hRl : 60 ≤ R.locals) {N : Nat} {rv : Int32} {g1 : Hg} {S : Hs} : ∀ (H : Heap) (locs : List Loc) (ls : Array Slot) (g : Hg) (a0 : Nat) (x1 : Int32) (x2 : Int32), Mm D cA lo S g s H locs → Rf lo S a0 20 → lv_has ls 4 [(0, .ref a0), (1, .int x1), (2, .int x2)] → b_X11_bitOfWay_0 N S g a0 x1 x2 = some (rv, g1) → W p l e R s m args below meth c H locs 0 0 (MQ below (Qcx D cA lo S (some (.int rv)) S g1 True) args s 0 0 (fun q : Nat => lo ≤ q)) (F0 m 0 ls []) := by
  intro H locs ls g a0 x1 x2 M ra0 hl q
  unfold b_X11_bitOfWay_0 at q
  refine lv_aload_n hx hb dX11_bitOfWay_0 rfl (lv_at hl 0 rfl) ?_
  refine lv_iload_n hx hb dX11_bitOfWay_1 rfl (lv_at hl 1 rfl) ?_
  refine lv_bipush (v := 8) hx hb dX11_bitOfWay_2 (by decide) ?_
  refine lv_imul hx hb dX11_bitOfWay_4 ?_
  refine lv_iload_n hx hb dX11_bitOfWay_5 rfl (lv_at hl 2 rfl) ?_
  refine lv_bipush (v := 32) hx hb dX11_bitOfWay_6 (by decide) ?_
  refine lv_idiv hx hb dX11_bitOfWay_8 (by decide) ?_
  refine lv_iadd hx hb dX11_bitOfWay_9 ?_
  replace q := ck_s q
  obtain ⟨hin, q⟩ := q
  refine x_iald hx hb hX M ra0 (inb_in hin) dX11_bitOfWay_10 ?_
  refine lv_topi (fun x_1 e_x_1 => ?_)
  replace q := nm_s q e_x_1
  refine lv_istore_n (lv' := [(3, .int x_1), (0, .ref a0), (1, .int x1), (2, .int x2)]) hx hb dX11_bitOfWay_11 rfl hl (by decide) rfl (fun ls hl => ?_)
  refine lv_iload_n hx hb dX11_bitOfWay_12 rfl (lv_at hl 0 rfl) ?_
  refine lv_bipush (v := 31) hx hb dX11_bitOfWay_13 (by decide) ?_
  refine lv_iload_n hx hb dX11_bitOfWay_15 rfl (lv_at hl 3 rfl) ?_
  refine lv_bipush (v := 32) hx hb dX11_bitOfWay_16 (by decide) ?_
  refine lv_irem hx hb dX11_bitOfWay_18 (by decide) ?_
  refine lv_isub hx hb dX11_bitOfWay_19 ?_
  refine lv_iushr hx hb dX11_bitOfWay_20 rfl ?_
  refine lv_iconst (v := 1) hx hb dX11_bitOfWay_21 (by decide) ?_
  refine lv_iand hx hb dX11_bitOfWay_22 ?_
  cases q
  exact x_iret hx hb hr hlk M Ext.rf dX11_bitOfWay_23
set_option maxRecDepth 100000 in
theorem c_X11_bitOfWay {l : Launch} {D : va_G} {cA : Nat → ClassId} {lo tS N : Nat} {S : Hs} {g g1 : Hg} {rv : Int32} {a0 : Nat} {x1 : Int32} {x2 : Int32} (ra0 : Rf lo S a0 20) (q : f_X11_bitOfWay N S g a0 x1 x2 = some (rv, g1)) {d : Nat} (hd : 1 ≤ d) : Ctr l yX11_bitOfWay cX11_bitOfWay 4 (some .int) D cA lo tS [.ref a0, .int x1, .int x2] S g d (some (.int rv)) S g1 True 0 0 := by
  refine x_met (by decide) (Nat.le_of_ble_eq_true rfl) ?_
  intro p e s m below meth c ls hx hb hml hr hlk hown hnm hX M hl
  exact w_X11_bitOfWay_0 hx hb hml hr hlk hown hX hd (Nat.mul_le_mul_left 60 hd) (N := N) _ _ _ _ _ _ _ M ra0 (lv_sub hl [0, 1, 2] rfl) q
def b_X4_partingOf_3 (N : Nat) (S : Hs) (k3 : Hg → Nat → Nat → Int32 → Int32 → Int32 → Option (Int32 × Hg)) (g : Hg) (a0 : Nat) (a1 : Nat) (x3 : Int32) (x4 : Int32) (x5 : Int32) : Option (Int32 × Hg) :=
if x3 ≤ x5 then (
some (x5, g)) else (
nn (rdR g a1 1) (fun a_2 =>
nn (rdR g a0 2) (fun a_3 =>
ck (inb x5 (hpL S a_3)) (
c2 (f_X11_bitOfWay N S g a_2 (rdI g a_3 x5.toNatClampNeg) x4) (fun x_5 g_4 =>
if x_5 = 0 then (
nm (x5 + 1) (fun x_7 =>
k3 g_4 a0 a1 x3 x4 x_7)) else (
some (x5, g_4)))))))
def n_X4_partingOf_3 (N : Nat) (S : Hs) : Nat → Hg → Nat → Nat → Int32 → Int32 → Int32 → Option (Int32 × Hg)
  | 0 => fun _ _ _ _ _ _ => none
  | n + 1 => fun g a0 a1 x3 x4 x5 => b_X4_partingOf_3 N S (n_X4_partingOf_3 N S n) g a0 a1 x3 x4 x5
def b_X4_partingOf_0 (N : Nat) (S : Hs) (g : Hg) (a0 : Nat) (a1 : Nat) (x2 : Int32) (x3 : Int32) (x4 : Int32) : Option (Int32 × Hg) :=
n_X4_partingOf_3 N S N g a0 a1 x3 x4 x2
def f_X4_partingOf (N : Nat) (S : Hs) (g : Hg) (a0 : Nat) (a1 : Nat) (x2 : Int32) (x3 : Int32) (x4 : Int32) : Option (Int32 × Hg) := b_X4_partingOf_0 N S g a0 a1 x2 x3 x4
set_option maxHeartbeats 4000000 in
set_option maxRecDepth 100000 in
theorem w_X4_partingOf_3 (hx : p.tables.exec = Jvm.exec) (hb : c.code = cX4_partingOf) (hml : c.maxLocals = 6) (hr : meth.sig.returnType = (some .int)) (hlk : meth.locks = false) (hown : s.vm.findClass RX4 = some m.cls) (hX : Kx D cA lo tS s) (hRf : 2 ≤ R.frames) (hRl : 120 ≤ R.locals) {N : Nat} {rv : Int32} {g1 : Hg} {S : Hs} {k3 : Hg → Nat → Nat → Int32 → Int32 → Int32 → Option (Int32 × Hg)} (hk3 : ∀ (H : Heap) (locs : List Loc) (ls : Array Slot) (g : Hg) (a0 : Nat) (a1 : Nat) (x3 : Int32) (x4 : Int32) (x5 : Int32), Mm D cA lo S g s H locs → Rf lo S a0 4 → Rf lo S a1 2 → lv_has ls 6 [(0, .ref a0), (1, .ref a1), (3, .int x3), (4, .int x4), (5, .int x5)] → k3 g a0 a1 x3 x4 x5 = some (rv, g1) → W p l e R s m args below meth c H locs 0 0 (MQ below (Qcx D cA lo S (some (.int rv)) S g1 True) args s 0 0 (fun q : Nat => lo ≤ q)) (F0 m 3 ls [])) : ∀ (H : Heap) (locs : List Loc) (ls : Array Slot) (g : Hg) (a0 : Nat) (a1 : Nat) (x3 : Int32) (x4 : Int32) (x5 : Int32), Mm D cA lo S g s H locs → Rf lo S a0 4 → Rf lo S a1 2 → lv_has ls 6 [(0, .ref a0), (1, .ref a1), (3, .int x3), (4, .int x4), (5, .int x5)] → b_X4_partingOf_3 N S k3 g a0 a1 x3 x4 x5 = some (rv, g1) → W p l e R s m args below meth c H locs 0 0 (MQ below (Qcx D cA lo S (some (.int rv)) S g1 True) args s 0 0 (fun q : Nat => lo ≤ q)) (F0 m 3 ls []) := by
  intro H locs ls g a0 a1 x3 x4 x5 M ra0 ra1 hl q
  unfold b_X4_partingOf_3 at q
  refine lv_iload hx hb dX4_partingOf_3 (lv_at hl 4 rfl) ?_
  refine lv_iload_n hx hb dX4_partingOf_5 rfl (lv_at hl 2 rfl) ?_
  refine lv_icmp_ge (tgt := 34) hx hb dX4_partingOf_6 (by decide) (fun c_1 => ?_) (fun c_1 => ?_)
  · replace q := if_t c_1 q
    refine lv_iload hx hb dX4_partingOf_34 (lv_at hl 4 rfl) ?_
    cases q
    exact x_iret hx hb hr hlk M Ext.rf dX4_partingOf_36
  · replace q := if_f c_1 q
    refine lv_aload_n hx hb dX4_partingOf_9 rfl (lv_at hl 1 rfl) ?_
    replace q := nn_s q
    obtain ⟨a_2, e_a_2, q⟩ := q
    refine x_getR hx hb hown hX M e_a_2 okX2 ra1 (by decide) rfl kw_399 dX4_partingOf_10 (fun ra_2 => ?_)
    refine lv_aload_n hx hb dX4_partingOf_13 rfl (lv_at hl 0 rfl) ?_
    replace q := nn_s q
    obtain ⟨a_3, e_a_3, q⟩ := q
    refine x_getR hx hb hown hX M e_a_3 okX4 ra0 (by decide) rfl kw_99 dX4_partingOf_14 (fun ra_3 => ?_)
    refine lv_iload hx hb dX4_partingOf_17 (lv_at hl 4 rfl) ?_
    replace q := ck_s q
    obtain ⟨hin, q⟩ := q
    refine x_iald hx hb hX M ra_3 (inb_in hin) dX4_partingOf_19 ?_
    refine lv_iload hx hb dX4_partingOf_20 (lv_at hl 3 rfl) ?_
    replace q := c2_s q
    obtain ⟨x_5, g_4, qc, q⟩ := q
    refine x_callSN hx hb hml hl.1 hown hX M (S1 := S) (As := [.ref a_2, .int (rdI g a_3 x5.toNatClampNeg), .int x4]) (rest := []) kw_711 mok_X11_bitOfWay (c_X11_bitOfWay ra_2 qc (Nat.le_refl 1)) kw_710 rfl rfl dX4_partingOf_22 (Nat.le_of_ble_eq_true rfl) ⟨Nat.le_trans (by decide) hRf, Nat.le_trans (by decide) hRl⟩ (Nat.zero_le _) (Nat.zero_le _) (fun H locs M hEF => ?_)
    refine lv_if_ne (tgt := 34) hx hb dX4_partingOf_25 (by decide) (fun c_6 => ?_) (fun c_6 => ?_)
    · replace q := if_f c_6 q
      refine lv_iload hx hb dX4_partingOf_34 (lv_at hl 4 rfl) ?_
      cases q
      exact x_iret hx hb hr hlk M Ext.rf dX4_partingOf_36
    · replace q := if_t c_6 q
      obtain ⟨x_7, e_x_7⟩ : ∃ y : Int32, y = x5 + 1 := ⟨_, rfl⟩
      replace q := nm_s q e_x_7
      refine lv_iinc (v := x_7) (lv' := [(5, .int x_7), (0, .ref a0), (1, .ref a1), (3, .int x3), (4, .int x4)]) hx hb dX4_partingOf_28 hl (k := 4) rfl (by rw [e_x_7]; rfl) (by decide) rfl (fun ls hl => ?_)
      refine lv_goto (tgt := 3) hx hb dX4_partingOf_31 (by decide) ?_
      exact hk3 _ _ _ _ _ _ _ _ _ M ra0 ra1 (lv_sub hl [1, 2, 3, 4, 0] rfl) q
set_option maxRecDepth 100000 in
theorem l_X4_partingOf_3 (hx : p.tables.exec = Jvm.exec) (hb : c.code = cX4_partingOf) (hml : c.maxLocals = 6) (hr : meth.sig.returnType = (some .int)) (hlk : meth.locks = false) (hown : s.vm.findClass RX4 = some m.cls) (hX : Kx D cA lo tS s) (hRf : 2 ≤ R.frames) (hRl : 120 ≤ R.locals) {N : Nat} {rv : Int32} {g1 : Hg} {S : Hs} : ∀ (n : Nat), ∀ (H : Heap) (locs : List Loc) (ls : Array Slot) (g : Hg) (a0 : Nat) (a1 : Nat) (x3 : Int32) (x4 : Int32) (x5 : Int32), Mm D cA lo S g s H locs → Rf lo S a0 4 → Rf lo S a1 2 → lv_has ls 6 [(0, .ref a0), (1, .ref a1), (3, .int x3), (4, .int x4), (5, .int x5)] → n_X4_partingOf_3 N S n g a0 a1 x3 x4 x5 = some (rv, g1) → W p l e R s m args below meth c H locs 0 0 (MQ below (Qcx D cA lo S (some (.int rv)) S g1 True) args s 0 0 (fun q : Nat => lo ≤ q)) (F0 m 3 ls []) := by
  intro n
  induction n with
  | zero =>
    intro H locs ls g a0 a1 x3 x4 x5 M ra0 ra1 hl q
    exact absurd q (by simp [n_X4_partingOf_3])
  | succ n ih => exact w_X4_partingOf_3 hx hb hml hr hlk hown hX hRf hRl (N := N)  ih
set_option maxHeartbeats 4000000 in
set_option maxRecDepth 100000 in
theorem w_X4_partingOf_0 (hx : p.tables.exec = Jvm.exec) (hb : c.code = cX4_partingOf) (hml : c.maxLocals = 6) (hr : meth.sig.returnType = (some .int)) (hlk : meth.locks = false) (hown : s.vm.findClass RX4 = some m.cls) (hX : Kx D cA lo tS s) (hRf : 2 ≤ R.frames) (hRl : 120 ≤ R.locals) {N : Nat} {rv : Int32} {g1 : Hg} {S : Hs} : ∀ (H : Heap) (locs : List Loc) (ls : Array Slot) (g : Hg) (a0 : Nat) (a1 : Nat) (x2 : Int32) (x3 : Int32) (x4 : Int32), Mm D cA lo S g s H locs → Rf lo S a0 4 → Rf lo S a1 2 → lv_has ls 6 [(0, .ref a0), (1, .ref a1), (2, .int x2), (3, .int x3), (4, .int x4)] → b_X4_partingOf_0 N S g a0 a1 x2 x3 x4 = some (rv, g1) → W p l e R s m args below meth c H locs 0 0 (MQ below (Qcx D cA lo S (some (.int rv)) S g1 True) args s 0 0 (fun q : Nat => lo ≤ q)) (F0 m 0 ls []) := by
  intro H locs ls g a0 a1 x2 x3 x4 M ra0 ra1 hl q
  unfold b_X4_partingOf_0 at q
  refine lv_iload_n hx hb dX4_partingOf_0 rfl (lv_at hl 2 rfl) ?_
  refine lv_istore (lv' := [(5, .int x2), (0, .ref a0), (1, .ref a1), (2, .int x2), (3, .int x3), (4, .int x4)]) hx hb dX4_partingOf_1 hl (by decide) rfl (fun ls hl => ?_)
  exact l_X4_partingOf_3 hx hb hml hr hlk hown hX hRf hRl (N := N)  N _ _ _ _ _ _ _ _ _ M ra0 ra1 (lv_sub hl [1, 2, 4, 5, 0] rfl) q
set_option maxRecDepth 100000 in
theorem c_X4_partingOf {l : Launch} {D : va_G} {cA : Nat → ClassId} {lo tS N : Nat} {S : Hs} {g g1 : Hg} {rv : Int32} {a0 : Nat} {a1 : Nat} {x2 : Int32} {x3 : Int32} {x4 : Int32} (ra0 : Rf lo S a0 4) (ra1 : Rf lo S a1 2) (q : f_X4_partingOf N S g a0 a1 x2 x3 x4 = some (rv, g1)) {d : Nat} (hd : 2 ≤ d) : Ctr l yX4_partingOf cX4_partingOf 6 (some .int) D cA lo tS [.ref a0, .ref a1, .int x2, .int x3, .int x4] S g d (some (.int rv)) S g1 True 0 0 := by
  refine x_met (by decide) (Nat.le_of_ble_eq_true rfl) ?_
  intro p e s m below meth c ls hx hb hml hr hlk hown hnm hX M hl
  exact w_X4_partingOf_0 hx hb hml hr hlk hown hX hd (Nat.mul_le_mul_left 60 hd) (N := N) _ _ _ _ _ _ _ _ _ M ra0 ra1 (lv_sub hl [0, 1, 2, 3, 4] rfl) q
def b_X11_setNought_0 (N : Nat) (S : Hs) (g : Hg) (a0 : Nat) (x1 : Int32) : Option (Unit × Hg) :=
c2 (f_J7_fill_fda19 N S g a0 (x1 * (8 : Int32)) ((x1 * (8 : Int32)) + (8 : Int32)) (0 : Int32)) (fun u_2 g_1 =>
some ((), g_1))
def f_X11_setNought (N : Nat) (S : Hs) (g : Hg) (a0 : Nat) (x1 : Int32) : Option (Unit × Hg) := b_X11_setNought_0 N S g a0 x1
set_option maxHeartbeats 4000000 in
set_option maxRecDepth 100000 in
theorem w_X11_setNought_0 (hx : p.tables.exec = Jvm.exec) (hb : c.code = cX11_setNought) (hml : c.maxLocals = 2) (hr : meth.sig.returnType = none) (hlk : meth.locks = false) (hown : s.vm.findClass RX11 = some m.cls) (hX : Kx D cA lo tS s) (hRf : 3 ≤ R.frames) (hRl : 180 ≤ R.locals) {N : Nat} {rv : Unit} {g1 : Hg} {S : Hs} : ∀ (H : Heap) (locs : List Loc) (ls : Array Slot) (g : Hg) (a0 : Nat) (x1 : Int32), Mm D cA lo S g s H locs → Rf lo S a0 20 → lv_has ls 2 [(0, .ref a0), (1, .int x1)] → b_X11_setNought_0 N S g a0 x1 = some (rv, g1) → W p l e R s m args below meth c H locs 0 0 (MQ below (Qcx D cA lo S none S g1 True) args s 0 0 (fun q : Nat => lo ≤ q)) (F0 m 0 ls []) := by
  intro H locs ls g a0 x1 M ra0 hl q
  unfold b_X11_setNought_0 at q
  refine lv_aload_n hx hb dX11_setNought_0 rfl (lv_at hl 0 rfl) ?_
  refine lv_iload_n hx hb dX11_setNought_1 rfl (lv_at hl 1 rfl) ?_
  refine lv_bipush (v := 8) hx hb dX11_setNought_2 (by decide) ?_
  refine lv_imul hx hb dX11_setNought_4 ?_
  refine lv_iload_n hx hb dX11_setNought_5 rfl (lv_at hl 1 rfl) ?_
  refine lv_bipush (v := 8) hx hb dX11_setNought_6 (by decide) ?_
  refine lv_imul hx hb dX11_setNought_8 ?_
  refine lv_bipush (v := 8) hx hb dX11_setNought_9 (by decide) ?_
  refine lv_iadd hx hb dX11_setNought_11 ?_
  refine lv_iconst (v := 0) hx hb dX11_setNought_12 (by decide) ?_
  replace q := c2_s q
  obtain ⟨u_2, g_1, qc, q⟩ := q
  refine x_callS hx hb hml hl.1 hown hX M (S1 := S) (As := [.ref a0, .int (x1 * (8 : Int32)), .int ((x1 * (8 : Int32)) + (8 : Int32)), .int (0 : Int32)]) (rest := []) kw_619 mok_J7_fill_fda19 (c_J7_fill_fda19 ra0 qc (Nat.le_refl 2)) kw_684 rfl rfl dX11_setNought_13 (Nat.le_of_ble_eq_true rfl) ⟨Nat.le_trans (by decide) hRf, Nat.le_trans (by decide) hRl⟩ (Nat.zero_le _) (Nat.zero_le _) (fun H locs M hEF => ?_)
  cases q
  exact x_vret hx hb hr hlk M Ext.rf dX11_setNought_16
set_option maxRecDepth 100000 in
theorem c_X11_setNought {l : Launch} {D : va_G} {cA : Nat → ClassId} {lo tS N : Nat} {S : Hs} {g g1 : Hg} {rv : Unit} {a0 : Nat} {x1 : Int32} (ra0 : Rf lo S a0 20) (q : f_X11_setNought N S g a0 x1 = some (rv, g1)) {d : Nat} (hd : 3 ≤ d) : Ctr l yX11_setNought cX11_setNought 2 none D cA lo tS [.ref a0, .int x1] S g d none S g1 True 0 0 := by
  refine x_met (by decide) (Nat.le_of_ble_eq_true rfl) ?_
  intro p e s m below meth c ls hx hb hml hr hlk hown hnm hX M hl
  exact w_X11_setNought_0 hx hb hml hr hlk hown hX hd (Nat.mul_le_mul_left 60 hd) (N := N) _ _ _ _ _ _ M ra0 (lv_sub hl [0, 1] rfl) q
end W0
