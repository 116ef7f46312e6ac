section W3
variable {p : Program} {l : Launch} {e : Env} {R : Room} {s : State} {m : MethodId} {args : Array Value} {below : List Frame} {meth : Method} {c : Code} {D : va_G} {cA : Nat → ClassId} {lo tS : Nat}
def b_X1_fullSlots_4 (N : Nat) (S : Hs) (k4 : Hg → Nat → Int32 → Int32 → Option (Int32 × Hg)) (g : Hg) (a0 : Nat) (x1 : Int32) (x2 : Int32) : Option (Int32 × Hg) :=
if (16 : Int32) ≤ x2 then (
some (x1, g)) else (
nn (rdR g a0 2) (fun a_2 =>
ck (inb x2 (hpL S a_2)) (
nn (rdR g a_2 x2.toNatClampNeg) (fun a_3 =>
if (rdI g a_3 5) = 0 then (
nm (x2 + 1) (fun x_5 =>
k4 g a0 x1 x_5)) else (
nm (x1 + 1) (fun x_6 =>
nm (x2 + 1) (fun x_7 =>
k4 g a0 x_6 x_7)))))))
def n_X1_fullSlots_4 (N : Nat) (S : Hs) : Nat → Hg → Nat → Int32 → Int32 → Option (Int32 × Hg)
  | 0 => fun _ _ _ _ => none
  | n + 1 => fun g a0 x1 x2 => b_X1_fullSlots_4 N S (n_X1_fullSlots_4 N S n) g a0 x1 x2
def b_X1_fullSlots_0 (N : Nat) (S : Hs) (g : Hg) (a0 : Nat) : Option (Int32 × Hg) :=
n_X1_fullSlots_4 N S N g a0 (0 : Int32) (0 : Int32)
def f_X1_fullSlots (N : Nat) (S : Hs) (g : Hg) (a0 : Nat) : Option (Int32 × Hg) := b_X1_fullSlots_0 N S g a0
set_option maxHeartbeats 4000000 in
set_option maxRecDepth 100000 in
theorem w_X1_fullSlots_4 (hx : p.tables.exec = Jvm.exec) (hb : c.code = cX1_fullSlots) (hml : c.maxLocals = 3) (hr : meth.sig.returnType = (some .int)) (hlk : meth.locks = false) (hown : s.vm.findClass RX1 = some m.cls) (hX : Kx D cA lo tS s) (hRf : 1 ≤ R.frames) (hRl : 60 ≤ R.locals) {N : Nat} {rv : Int32} {g1 : Hg} {S : Hs} {k4 : Hg → Nat → Int32 → Int32 → Option (Int32 × Hg)} (hk4 : ∀ (H : Heap) (locs : List Loc) (ls : Array Slot) (g : Hg) (a0 : Nat) (x1 : Int32) (x2 : Int32), Mm D cA lo S g s H locs → Rf lo S a0 1 → lv_has ls 3 [(0, .ref a0), (1, .int x1), (2, .int x2)] → k4 g a0 x1 x2 = some (rv, g1) → W p l e R s m args below meth c H locs 0 0 (MQ below (Qcx D cA lo S (some (.int rv)) S g1 True) args s 0 0 (fun q : Nat => lo ≤ q)) (F0 m 4 ls [])) : ∀ (H : Heap) (locs : List Loc) (ls : Array Slot) (g : Hg) (a0 : Nat) (x1 : Int32) (x2 : Int32), Mm D cA lo S g s H locs → Rf lo S a0 1 → lv_has ls 3 [(0, .ref a0), (1, .int x1), (2, .int x2)] → b_X1_fullSlots_4 N S k4 g a0 x1 x2 = some (rv, g1) → W p l e R s m args below meth c H locs 0 0 (MQ below (Qcx D cA lo S (some (.int rv)) S g1 True) args s 0 0 (fun q : Nat => lo ≤ q)) (F0 m 4 ls []) := by
  intro H locs ls g a0 x1 x2 M ra0 hl q
  unfold b_X1_fullSlots_4 at q
  refine lv_iload_n hx hb dX1_fullSlots_4 rfl (lv_at hl 2 rfl) ?_
  refine lv_bipush (v := 16) hx hb dX1_fullSlots_5 (by decide) ?_
  refine lv_icmp_ge (tgt := 31) hx hb dX1_fullSlots_7 (by decide) (fun c_1 => ?_) (fun c_1 => ?_)
  · replace q := if_t c_1 q
    refine lv_iload_n hx hb dX1_fullSlots_31 rfl (lv_at hl 1 rfl) ?_
    cases q
    exact x_iret hx hb hr hlk M Ext.rf dX1_fullSlots_32
  · replace q := if_f c_1 q
    refine lv_aload_n hx hb dX1_fullSlots_10 rfl (lv_at hl 0 rfl) ?_
    replace q := nn_s q
    obtain ⟨a_2, e_a_2, q⟩ := q
    refine x_getR hx hb hown hX M e_a_2 okX1 ra0 (by decide) rfl kw_322 dX1_fullSlots_11 (fun ra_2 => ?_)
    refine lv_iload_n hx hb dX1_fullSlots_14 rfl (lv_at hl 2 rfl) ?_
    replace q := ck_s q
    obtain ⟨hin, q⟩ := q
    replace q := nn_s q
    obtain ⟨a_3, e_a_3, q⟩ := q
    refine x_aaldn24 hx hb hX M ra_2 e_a_3 (inb_in hin) dX1_fullSlots_15 (fun ra_3 => ?_)
    refine x_getI hx hb hown hX M (k := 5) okX7 ra_3 (by decide) rfl kw_197 dX1_fullSlots_16 ?_
    refine lv_if_eq (tgt := 25) hx hb dX1_fullSlots_19 (by decide) (fun c_4 => ?_) (fun c_4 => ?_)
    · replace q := if_t c_4 q
      obtain ⟨x_5, e_x_5⟩ : ∃ y : Int32, y = x2 + 1 := ⟨_, rfl⟩
      replace q := nm_s q e_x_5
      refine lv_iinc (v := x_5) (lv' := [(2, .int x_5), (0, .ref a0), (1, .int x1)]) hx hb dX1_fullSlots_25 hl (k := 2) rfl (by rw [e_x_5]; rfl) (by decide) rfl (fun ls hl => ?_)
      refine lv_goto (tgt := 4) hx hb dX1_fullSlots_28 (by decide) ?_
      exact hk4 _ _ _ _ _ _ _ M ra0 (lv_sub hl [1, 2, 0] rfl) q
    · replace q := if_f c_4 q
      obtain ⟨x_6, e_x_6⟩ : ∃ y : Int32, y = x1 + 1 := ⟨_, rfl⟩
      replace q := nm_s q e_x_6
      refine lv_iinc (v := x_6) (lv' := [(1, .int x_6), (0, .ref a0), (2, .int x2)]) hx hb dX1_fullSlots_22 hl (k := 1) rfl (by rw [e_x_6]; rfl) (by decide) rfl (fun ls hl => ?_)
      obtain ⟨x_7, e_x_7⟩ : ∃ y : Int32, y = x2 + 1 := ⟨_, rfl⟩
      replace q := nm_s q e_x_7
      refine lv_iinc (v := x_7) (lv' := [(2, .int x_7), (1, .int x_6), (0, .ref a0)]) hx hb dX1_fullSlots_25 hl (k := 2) rfl (by rw [e_x_7]; rfl) (by decide) rfl (fun ls hl => ?_)
      refine lv_goto (tgt := 4) hx hb dX1_fullSlots_28 (by decide) ?_
      exact hk4 _ _ _ _ _ _ _ M ra0 (lv_sub hl [2, 1, 0] rfl) q
set_option maxRecDepth 100000 in
theorem l_X1_fullSlots_4 (hx : p.tables.exec = Jvm.exec) (hb : c.code = cX1_fullSlots) (hml : c.maxLocals = 3) (hr : meth.sig.returnType = (some .int)) (hlk : meth.locks = false) (hown : s.vm.findClass RX1 = some m.cls) (hX : Kx D cA lo tS s) (hRf : 1 ≤ R.frames) (hRl : 60 ≤ R.locals) {N : Nat} {rv : Int32} {g1 : Hg} {S : Hs} : ∀ (n : Nat), ∀ (H : Heap) (locs : List Loc) (ls : Array Slot) (g : Hg) (a0 : Nat) (x1 : Int32) (x2 : Int32), Mm D cA lo S g s H locs → Rf lo S a0 1 → lv_has ls 3 [(0, .ref a0), (1, .int x1), (2, .int x2)] → n_X1_fullSlots_4 N S n g a0 x1 x2 = some (rv, g1) → W p l e R s m args below meth c H locs 0 0 (MQ below (Qcx D cA lo S (some (.int rv)) S g1 True) args s 0 0 (fun q : Nat => lo ≤ q)) (F0 m 4 ls []) := by
  intro n
  induction n with
  | zero =>
    intro H locs ls g a0 x1 x2 M ra0 hl q
    exact absurd q (by simp [n_X1_fullSlots_4])
  | succ n ih => exact w_X1_fullSlots_4 hx hb hml hr hlk hown hX hRf hRl (N := N)  ih
set_option maxHeartbeats 4000000 in
set_option maxRecDepth 100000 in
theorem w_X1_fullSlots_0 (hx : p.tables.exec = Jvm.exec) (hb : c.code = cX1_fullSlots) (hml : c.maxLocals = 3) (hr : meth.sig.returnType = (some .int)) (hlk : meth.locks = false) (hown : s.vm.findClass RX1 = some m.cls) (hX : Kx D cA lo tS s) (hRf : 1 ≤ R.frames) (hRl : 60 ≤ R.locals) {N : Nat} {rv : Int32} {g1 : Hg} {S : Hs} : ∀ (H : Heap) (locs : List Loc) (ls : Array Slot) (g : Hg) (a0 : Nat), Mm D cA lo S g s H locs → Rf lo S a0 1 → lv_has ls 3 [(0, .ref a0)] → b_X1_fullSlots_0 N S g a0 = some (rv, g1) → W p l e R s m args below meth c H locs 0 0 (MQ below (Qcx D cA lo S (some (.int rv)) S g1 True) args s 0 0 (fun q : Nat => lo ≤ q)) (F0 m 0 ls []) := by
  intro H locs ls g a0 M ra0 hl q
  unfold b_X1_fullSlots_0 at q
  refine lv_iconst (v := 0) hx hb dX1_fullSlots_0 (by decide) ?_
  refine lv_istore_n (lv' := [(1, .int (0 : Int32)), (0, .ref a0)]) hx hb dX1_fullSlots_1 rfl hl (by decide) rfl (fun ls hl => ?_)
  refine lv_iconst (v := 0) hx hb dX1_fullSlots_2 (by decide) ?_
  refine lv_istore_n (lv' := [(2, .int (0 : Int32)), (1, .int (0 : Int32)), (0, .ref a0)]) hx hb dX1_fullSlots_3 rfl hl (by decide) rfl (fun ls hl => ?_)
  exact l_X1_fullSlots_4 hx hb hml hr hlk hown hX hRf hRl (N := N)  N _ _ _ _ _ _ _ M ra0 (lv_sub hl [2, 1, 0] rfl) q
set_option maxRecDepth 100000 in
theorem c_X1_fullSlots {l : Launch} {D : va_G} {cA : Nat → ClassId} {lo tS N : Nat} {S : Hs} {g g1 : Hg} {rv : Int32} {a0 : Nat} (ra0 : Rf lo S a0 1) (q : f_X1_fullSlots N S g a0 = some (rv, g1)) {d : Nat} (hd : 1 ≤ d) : Ctr l yX1_fullSlots cX1_fullSlots 3 (some .int) D cA lo tS [.ref a0] S g d (some (.int rv)) S g1 True 0 0 := by
  refine x_met (by decide) (Nat.le_of_ble_eq_true rfl) ?_
  intro p e s m below meth c ls hx hb hml hr hlk hown hnm hX M hl
  exact w_X1_fullSlots_0 hx hb hml hr hlk hown hX hd (Nat.mul_le_mul_left 60 hd) (N := N) _ _ _ _ _ M ra0 (lv_sub hl [0] rfl) q
def b_X1_readersWithHead_4 (N : Nat) (S : Hs) (k4 : Hg → Nat → Int32 → Int32 → Option (Int32 × Hg)) (g : Hg) (a0 : Nat) (x1 : Int32) (x2 : Int32) : Option (Int32 × Hg) :=
if (12 : Int32) ≤ x2 then (
some (x1, g)) else (
nn (rdR g a0 3) (fun a_2 =>
ck (inb x2 (hpL S a_2)) (
nn (rdR g a_2 x2.toNatClampNeg) (fun a_3 =>
if (rdI g a_3 3) = 0 then (
nm (x2 + 1) (fun x_5 =>
k4 g a0 x1 x_5)) else (
nm (x1 + 1) (fun x_6 =>
nm (x2 + 1) (fun x_7 =>
k4 g a0 x_6 x_7)))))))
def n_X1_readersWithHead_4 (N : Nat) (S : Hs) : Nat → Hg → Nat → Int32 → Int32 → Option (Int32 × Hg)
  | 0 => fun _ _ _ _ => none
  | n + 1 => fun g a0 x1 x2 => b_X1_readersWithHead_4 N S (n_X1_readersWithHead_4 N S n) g a0 x1 x2
def b_X1_readersWithHead_0 (N : Nat) (S : Hs) (g : Hg) (a0 : Nat) : Option (Int32 × Hg) :=
n_X1_readersWithHead_4 N S N g a0 (0 : Int32) (0 : Int32)
def f_X1_readersWithHead (N : Nat) (S : Hs) (g : Hg) (a0 : Nat) : Option (Int32 × Hg) := b_X1_readersWithHead_0 N S g a0
set_option maxHeartbeats 4000000 in
set_option maxRecDepth 100000 in
theorem w_X1_readersWithHead_4 (hx : p.tables.exec = Jvm.exec) (hb : c.code = cX1_readersWithHead) (hml : c.maxLocals = 3) (hr : meth.sig.returnType = (some .int)) (hlk : meth.locks = false) (hown : s.vm.findClass RX1 = some m.cls) (hX : Kx D cA lo tS s) (hRf : 1 ≤ R.frames) (hRl : 60 ≤ R.locals) {N : Nat} {rv : Int32} {g1 : Hg} {S : Hs} {k4 : Hg → Nat → Int32 → Int32 → Option (Int32 × Hg)} (hk4 : ∀ (H : Heap) (locs : List Loc) (ls : Array Slot) (g : Hg) (a0 : Nat) (x1 : Int32) (x2 : Int32), Mm D cA lo S g s H locs → Rf lo S a0 1 → lv_has ls 3 [(0, .ref a0), (1, .int x1), (2, .int x2)] → k4 g a0 x1 x2 = some (rv, g1) → W p l e R s m args below meth c H locs 0 0 (MQ below (Qcx D cA lo S (some (.int rv)) S g1 True) args s 0 0 (fun q : Nat => lo ≤ q)) (F0 m 4 ls [])) : ∀ (H : Heap) (locs : List Loc) (ls : Array Slot) (g : Hg) (a0 : Nat) (x1 : Int32) (x2 : Int32), Mm D cA lo S g s H locs → Rf lo S a0 1 → lv_has ls 3 [(0, .ref a0), (1, .int x1), (2, .int x2)] → b_X1_readersWithHead_4 N S k4 g a0 x1 x2 = some (rv, g1) → W p l e R s m args below meth c H locs 0 0 (MQ below (Qcx D cA lo S (some (.int rv)) S g1 True) args s 0 0 (fun q : Nat => lo ≤ q)) (F0 m 4 ls []) := by
  intro H locs ls g a0 x1 x2 M ra0 hl q
  unfold b_X1_readersWithHead_4 at q
  refine lv_iload_n hx hb dX1_readersWithHead_4 rfl (lv_at hl 2 rfl) ?_
  refine lv_bipush (v := 12) hx hb dX1_readersWithHead_5 (by decide) ?_
  refine lv_icmp_ge (tgt := 31) hx hb dX1_readersWithHead_7 (by decide) (fun c_1 => ?_) (fun c_1 => ?_)
  · replace q := if_t c_1 q
    refine lv_iload_n hx hb dX1_readersWithHead_31 rfl (lv_at hl 1 rfl) ?_
    cases q
    exact x_iret hx hb hr hlk M Ext.rf dX1_readersWithHead_32
  · replace q := if_f c_1 q
    refine lv_aload_n hx hb dX1_readersWithHead_10 rfl (lv_at hl 0 rfl) ?_
    replace q := nn_s q
    obtain ⟨a_2, e_a_2, q⟩ := q
    refine x_getR hx hb hown hX M e_a_2 okX1 ra0 (by decide) rfl kw_323 dX1_readersWithHead_11 (fun ra_2 => ?_)
    refine lv_iload_n hx hb dX1_readersWithHead_14 rfl (lv_at hl 2 rfl) ?_
    replace q := ck_s q
    obtain ⟨hin, q⟩ := q
    replace q := nn_s q
    obtain ⟨a_3, e_a_3, q⟩ := q
    refine x_aaldn25 hx hb hX M ra_2 e_a_3 (inb_in hin) dX1_readersWithHead_15 (fun ra_3 => ?_)
    refine x_getI hx hb hown hX M (k := 3) okX0 ra_3 (by decide) rfl kw_261 dX1_readersWithHead_16 ?_
    refine lv_if_eq (tgt := 25) hx hb dX1_readersWithHead_19 (by decide) (fun c_4 => ?_) (fun c_4 => ?_)
    · replace q := if_t c_4 q
      obtain ⟨x_5, e_x_5⟩ : ∃ y : Int32, y = x2 + 1 := ⟨_, rfl⟩
      replace q := nm_s q e_x_5
      refine lv_iinc (v := x_5) (lv' := [(2, .int x_5), (0, .ref a0), (1, .int x1)]) hx hb dX1_readersWithHead_25 hl (k := 2) rfl (by rw [e_x_5]; rfl) (by decide) rfl (fun ls hl => ?_)
      refine lv_goto (tgt := 4) hx hb dX1_readersWithHead_28 (by decide) ?_
      exact hk4 _ _ _ _ _ _ _ M ra0 (lv_sub hl [1, 2, 0] rfl) q
    · replace q := if_f c_4 q
      obtain ⟨x_6, e_x_6⟩ : ∃ y : Int32, y = x1 + 1 := ⟨_, rfl⟩
      replace q := nm_s q e_x_6
      refine lv_iinc (v := x_6) (lv' := [(1, .int x_6), (0, .ref a0), (2, .int x2)]) hx hb dX1_readersWithHead_22 hl (k := 1) rfl (by rw [e_x_6]; rfl) (by decide) rfl (fun ls hl => ?_)
      obtain ⟨x_7, e_x_7⟩ : ∃ y : Int32, y = x2 + 1 := ⟨_, rfl⟩
      replace q := nm_s q e_x_7
      refine lv_iinc (v := x_7) (lv' := [(2, .int x_7), (1, .int x_6), (0, .ref a0)]) hx hb dX1_readersWithHead_25 hl (k := 2) rfl (by rw [e_x_7]; rfl) (by decide) rfl (fun ls hl => ?_)
      refine lv_goto (tgt := 4) hx hb dX1_readersWithHead_28 (by decide) ?_
      exact hk4 _ _ _ _ _ _ _ M ra0 (lv_sub hl [2, 1, 0] rfl) q
set_option maxRecDepth 100000 in
theorem l_X1_readersWithHead_4 (hx : p.tables.exec = Jvm.exec) (hb : c.code = cX1_readersWithHead) (hml : c.maxLocals = 3) (hr : meth.sig.returnType = (some .int)) (hlk : meth.locks = false) (hown : s.vm.findClass RX1 = some m.cls) (hX : Kx D cA lo tS s) (hRf : 1 ≤ R.frames) (hRl : 60 ≤ R.locals) {N : Nat} {rv : Int32} {g1 : Hg} {S : Hs} : ∀ (n : Nat), ∀ (H : Heap) (locs : List Loc) (ls : Array Slot) (g : Hg) (a0 : Nat) (x1 : Int32) (x2 : Int32), Mm D cA lo S g s H locs → Rf lo S a0 1 → lv_has ls 3 [(0, .ref a0), (1, .int x1), (2, .int x2)] → n_X1_readersWithHead_4 N S n g a0 x1 x2 = some (rv, g1) → W p l e R s m args below meth c H locs 0 0 (MQ below (Qcx D cA lo S (some (.int rv)) S g1 True) args s 0 0 (fun q : Nat => lo ≤ q)) (F0 m 4 ls []) := by
  intro n
  induction n with
  | zero =>
    intro H locs ls g a0 x1 x2 M ra0 hl q
    exact absurd q (by simp [n_X1_readersWithHead_4])
  | succ n ih => exact w_X1_readersWithHead_4 hx hb hml hr hlk hown hX hRf hRl (N := N)  ih
set_option maxHeartbeats 4000000 in
set_option maxRecDepth 100000 in
theorem w_X1_readersWithHead_0 (hx : p.tables.exec = Jvm.exec) (hb : c.code = cX1_readersWithHead) (hml : c.maxLocals = 3) (hr : meth.sig.returnType = (some .int)) (hlk : meth.locks = false) (hown : s.vm.findClass RX1 = some m.cls) (hX : Kx D cA lo tS s) (hRf : 1 ≤ R.frames) (hRl : 60 ≤ R.locals) {N : Nat} {rv : Int32} {g1 : Hg} {S : Hs} : ∀ (H : Heap) (locs : List Loc) (ls : Array Slot) (g : Hg) (a0 : Nat), Mm D cA lo S g s H locs → Rf lo S a0 1 → lv_has ls 3 [(0, .ref a0)] → b_X1_readersWithHead_0 N S g a0 = some (rv, g1) → W p l e R s m args below meth c H locs 0 0 (MQ below (Qcx D cA lo S (some (.int rv)) S g1 True) args s 0 0 (fun q : Nat => lo ≤ q)) (F0 m 0 ls []) := by
  intro H locs ls g a0 M ra0 hl q
  unfold b_X1_readersWithHead_0 at q
  refine lv_iconst (v := 0) hx hb dX1_readersWithHead_0 (by decide) ?_
  refine lv_istore_n (lv' := [(1, .int (0 : Int32)), (0, .ref a0)]) hx hb dX1_readersWithHead_1 rfl hl (by decide) rfl (fun ls hl => ?_)
  refine lv_iconst (v := 0) hx hb dX1_readersWithHead_2 (by decide) ?_
  refine lv_istore_n (lv' := [(2, .int (0 : Int32)), (1, .int (0 : Int32)), (0, .ref a0)]) hx hb dX1_readersWithHead_3 rfl hl (by decide) rfl (fun ls hl => ?_)
  exact l_X1_readersWithHead_4 hx hb hml hr hlk hown hX hRf hRl (N := N)  N _ _ _ _ _ _ _ M ra0 (lv_sub hl [2, 1, 0] rfl) q
set_option maxRecDepth 100000 in
theorem c_X1_readersWithHead {l : Launch} {D : va_G} {cA : Nat → ClassId} {lo tS N : Nat} {S : Hs} {g g1 : Hg} {rv : Int32} {a0 : Nat} (ra0 : Rf lo S a0 1) (q : f_X1_readersWithHead N S g a0 = some (rv, g1)) {d : Nat} (hd : 1 ≤ d) : Ctr l yX1_readersWithHead cX1_readersWithHead 3 (some .int) D cA lo tS [.ref a0] S g d (some (.int rv)) S g1 True 0 0 := by
  refine x_met (by decide) (Nat.le_of_ble_eq_true rfl) ?_
  intro p e s m below meth c ls hx hb hml hr hlk hown hnm hX M hl
  exact w_X1_readersWithHead_0 hx hb hml hr hlk hown hX hd (Nat.mul_le_mul_left 60 hd) (N := N) _ _ _ _ _ M ra0 (lv_sub hl [0] rfl) q
def b_X11_all_0 (N : Nat) (S : Hs) (g : Hg) (a0 : Nat) (x1 : Int32) : Option (Int32 × Hg) :=
nm x1 (fun x_1 =>
if x_1 = 0 then (
nn (rdR g a0 3) (fun a_2 =>
some ((rdI g a_2 1), g))) else (
if x_1 = 1 then (
nn (rdR g a0 3) (fun a_3 =>
c2 (f_X1_fullSlots N S g a_3) (fun x_5 g_4 =>
some (x_5, g_4)))) else (
if x_1 = 2 then (
nn (rdR g a0 3) (fun a_6 =>
c2 (f_X1_readersWithHead N S g a_6) (fun x_8 g_7 =>
some (x_8, g_7)))) else (
if x_1 = 3 then (
nn (rdR g a0 3) (fun a_9 =>
some ((rdI g a_9 7), g))) else (
if x_1 = 4 then (
nn (rdR g a0 3) (fun a_10 =>
c2 (f_X1_allEntries N S g a_10) (fun x_12 g_11 =>
some (x_12, g_11)))) else (
some ((-1 : Int32), g)))))))
def f_X11_all (N : Nat) (S : Hs) (g : Hg) (a0 : Nat) (x1 : Int32) : Option (Int32 × Hg) := b_X11_all_0 N S g a0 x1
set_option maxHeartbeats 4000000 in
set_option maxRecDepth 100000 in
theorem w_X11_all_0 (hx : p.tables.exec = Jvm.exec) (hb : c.code = cX11_all) (hml : c.maxLocals = 2) (hr : meth.sig.returnType = (some .int)) (hlk : meth.locks = false) (hown : s.vm.findClass RX11 = some m.cls) (hX : Kx D cA lo tS s) (hRf : 2 ≤ R.frames) (hRl : 120 ≤ R.locals) {N : Nat} {rv : Int32} {g1 : Hg} {S : Hs} : ∀ (H : Heap) (locs : List Loc) (ls : Array Slot) (g : Hg) (a0 : Nat) (x1 : Int32), Mm D cA lo S g s H locs → Rf lo S a0 11 → lv_has ls 2 [(0, .ref a0), (1, .int x1)] → b_X11_all_0 N S g a0 x1 = some (rv, g1) → W p l e R s m args below meth c H locs 0 0 (MQ below (Qcx D cA lo S (some (.int rv)) S g1 True) args s 0 0 (fun q : Nat => lo ≤ q)) (F0 m 0 ls []) := by
  intro H locs ls g a0 x1 M ra0 hl q
  unfold b_X11_all_0 at q
  refine lv_iload_n hx hb dX11_all_0 rfl (lv_at hl 1 rfl) ?_
  refine lv_topi (fun x_1 e_x_1 => ?_)
  replace q := nm_s q e_x_1
  clear e_x_1
  by_cases cx_1_0 : x_1 = 0
  · replace q := if_t cx_1_0 q
    subst cx_1_0
    refine lv_tableIn (off := 35) (tgt := 36) hx hb dX11_all_1 (by decide) (by decide) (by decide) (by decide) ?_
    refine lv_aload_n hx hb dX11_all_36 rfl (lv_at hl 0 rfl) ?_
    replace q := nn_s q
    obtain ⟨a_2, e_a_2, q⟩ := q
    refine x_getR hx hb hown hX M e_a_2 okX11 ra0 (by decide) rfl kw_359 dX11_all_37 (fun ra_2 => ?_)
    refine x_getI hx hb hown hX M (k := 1) okX1 ra_2 (by decide) rfl kw_321 dX11_all_40 ?_
    cases q
    exact x_iret hx hb hr hlk M Ext.rf dX11_all_43
  replace q := if_f cx_1_0 q
  by_cases cx_1_1 : x_1 = 1
  · replace q := if_t cx_1_1 q
    subst cx_1_1
    refine lv_tableIn (off := 43) (tgt := 44) hx hb dX11_all_1 (by decide) (by decide) (by decide) (by decide) ?_
    refine lv_aload_n hx hb dX11_all_44 rfl (lv_at hl 0 rfl) ?_
    replace q := nn_s q
    obtain ⟨a_3, e_a_3, q⟩ := q
    refine x_getR hx hb hown hX M e_a_3 okX11 ra0 (by decide) rfl kw_359 dX11_all_45 (fun ra_3 => ?_)
    replace q := c2_s q
    obtain ⟨x_5, g_4, qc, q⟩ := q
    refine x_callV hx hb hml hl.1 hown hX M (S1 := S) (As := []) (rest := []) okX1 ra_3 rfl kw_965 kw_966 mok_X1_fullSlots (c_X1_fullSlots ra_3 qc (Nat.le_refl 1)) kw_964 rfl rfl dX11_all_48 (Nat.le_of_ble_eq_true rfl) ⟨Nat.le_trans (by decide) hRf, Nat.le_trans (by decide) hRl⟩ (Nat.zero_le _) (Nat.zero_le _) (fun H locs M hEF => ?_)
    cases q
    exact x_iret hx hb hr hlk M Ext.rf dX11_all_51
  replace q := if_f cx_1_1 q
  by_cases cx_1_2 : x_1 = 2
  · replace q := if_t cx_1_2 q
    subst cx_1_2
    refine lv_tableIn (off := 51) (tgt := 52) hx hb dX11_all_1 (by decide) (by decide) (by decide) (by decide) ?_
    refine lv_aload_n hx hb dX11_all_52 rfl (lv_at hl 0 rfl) ?_
    replace q := nn_s q
    obtain ⟨a_6, e_a_6, q⟩ := q
    refine x_getR hx hb hown hX M e_a_6 okX11 ra0 (by decide) rfl kw_359 dX11_all_53 (fun ra_6 => ?_)
    replace q := c2_s q
    obtain ⟨x_8, g_7, qc, q⟩ := q
    refine x_callV hx hb hml hl.1 hown hX M (S1 := S) (As := []) (rest := []) okX1 ra_6 rfl kw_969 kw_970 mok_X1_readersWithHead (c_X1_readersWithHead ra_6 qc (Nat.le_refl 1)) kw_968 rfl rfl dX11_all_56 (Nat.le_of_ble_eq_true rfl) ⟨Nat.le_trans (by decide) hRf, Nat.le_trans (by decide) hRl⟩ (Nat.zero_le _) (Nat.zero_le _) (fun H locs M hEF => ?_)
    cases q
    exact x_iret hx hb hr hlk M Ext.rf dX11_all_59
  replace q := if_f cx_1_2 q
  by_cases cx_1_3 : x_1 = 3
  · replace q := if_t cx_1_3 q
    subst cx_1_3
    refine lv_tableIn (off := 59) (tgt := 60) hx hb dX11_all_1 (by decide) (by decide) (by decide) (by decide) ?_
    refine lv_aload_n hx hb dX11_all_60 rfl (lv_at hl 0 rfl) ?_
    replace q := nn_s q
    obtain ⟨a_9, e_a_9, q⟩ := q
    refine x_getR hx hb hown hX M e_a_9 okX11 ra0 (by decide) rfl kw_359 dX11_all_61 (fun ra_9 => ?_)
    refine x_getI hx hb hown hX M (k := 7) okX1 ra_9 (by decide) rfl kw_330 dX11_all_64 ?_
    cases q
    exact x_iret hx hb hr hlk M Ext.rf dX11_all_67
  replace q := if_f cx_1_3 q
  by_cases cx_1_4 : x_1 = 4
  · replace q := if_t cx_1_4 q
    subst cx_1_4
    refine lv_tableIn (off := 67) (tgt := 68) hx hb dX11_all_1 (by decide) (by decide) (by decide) (by decide) ?_
    refine lv_aload_n hx hb dX11_all_68 rfl (lv_at hl 0 rfl) ?_
    replace q := nn_s q
    obtain ⟨a_10, e_a_10, q⟩ := q
    refine x_getR hx hb hown hX M e_a_10 okX11 ra0 (by decide) rfl kw_359 dX11_all_69 (fun ra_10 => ?_)
    replace q := c2_s q
    obtain ⟨x_12, g_11, qc, q⟩ := q
    refine x_callV hx hb hml hl.1 hown hX M (S1 := S) (As := []) (rest := []) okX1 ra_10 rfl kw_973 kw_974 mok_X1_allEntries (c_X1_allEntries ra_10 qc (Nat.le_refl 1)) kw_972 rfl rfl dX11_all_72 (Nat.le_of_ble_eq_true rfl) ⟨Nat.le_trans (by decide) hRf, Nat.le_trans (by decide) hRl⟩ (Nat.zero_le _) (Nat.zero_le _) (fun H locs M hEF => ?_)
    cases q
    exact x_iret hx hb hr hlk M Ext.rf dX11_all_75
  replace q := if_f cx_1_4 q
  refine lv_tableOut (tgt := 76) hx hb dX11_all_1 (sw_def (fun z h1 h2 => ?_)) (by decide) ?_
  · have hz : z = 0 ∨ z = 1 ∨ z = 2 ∨ z = 3 ∨ z = 4 := by omega
    rcases hz with rfl | rfl | rfl | rfl | rfl
    · exact cx_1_0
    · exact cx_1_1
    · exact cx_1_2
    · exact cx_1_3
    · exact cx_1_4
  · refine lv_iconst (v := -1) hx hb dX11_all_76 (by decide) ?_
    cases q
    exact x_iret hx hb hr hlk M Ext.rf dX11_all_77
set_option maxRecDepth 100000 in
theorem c_X11_all {l : Launch} {D : va_G} {cA : Nat → ClassId} {lo tS N : Nat} {S : Hs} {g g1 : Hg} {rv : Int32} {a0 : Nat} {x1 : Int32} (ra0 : Rf lo S a0 11) (q : f_X11_all N S g a0 x1 = some (rv, g1)) {d : Nat} (hd : 2 ≤ d) : Ctr l yX11_all cX11_all 2 (some .int) D cA lo tS [.ref a0, .int x1] S g d (some (.int rv)) S g1 True 0 0 := by
  refine x_met (by decide) (Nat.le_of_ble_eq_true rfl) ?_
  intro p e s m below meth c ls hx hb hml hr hlk hown hnm hX M hl
  exact w_X11_all_0 hx hb hml hr hlk hown hX hd (Nat.mul_le_mul_left 60 hd) (N := N) _ _ _ _ _ _ M ra0 (lv_sub hl [0, 1] rfl) q
def b_X0_copy_0 (N : Nat) (S : Hs) (g : Hg) (a0 : Nat) (a1 : Nat) : Option (Unit × Hg) :=
ck (zb (rdI g a1 3)) (
nm (wrI g a0 3 (rdI g a1 3)) (fun g_1 =>
nm (wrI g_1 a0 4 (rdI g_1 a1 4)) (fun g_2 =>
nm (wrI g_2 a0 5 (rdI g_2 a1 5)) (fun g_3 =>
nm (wrI g_3 a0 6 (rdI g_3 a1 6)) (fun g_4 =>
nn (rdR g_4 a1 0) (fun a_5 =>
nn (rdR g_4 a0 0) (fun a_6 =>
c2 (f_X11_copySum N S g_4 a_5 (0 : Int32) a_6 (0 : Int32)) (fun u_8 g_7 =>
nn (rdR g_7 a1 1) (fun a_9 =>
nn (rdR g_7 a0 1) (fun a_10 =>
c2 (f_X11_copySum N S g_7 a_9 (0 : Int32) a_10 (0 : Int32)) (fun u_12 g_11 =>
nn (rdR g_11 a1 2) (fun a_13 =>
nn (rdR g_11 a0 2) (fun a_14 =>
c2 (f_X11_copySum N S g_11 a_13 (0 : Int32) a_14 (0 : Int32)) (fun u_16 g_15 =>
some ((), g_15)))))))))))))))
def f_X0_copy (N : Nat) (S : Hs) (g : Hg) (a0 : Nat) (a1 : Nat) : Option (Unit × Hg) := b_X0_copy_0 N S g a0 a1
set_option maxHeartbeats 4000000 in
set_option maxRecDepth 100000 in
theorem w_X0_copy_0 (hx : p.tables.exec = Jvm.exec) (hb : c.code = cX0_copy) (hml : c.maxLocals = 2) (hr : meth.sig.returnType = none) (hlk : meth.locks = false) (hown : s.vm.findClass RX0 = some m.cls) (hX : Kx D cA lo tS s) (hRf : 2 ≤ R.frames) (hRl : 120 ≤ R.locals) {N : Nat} {rv : Unit} {g1 : Hg} {S : Hs} : ∀ (H : Heap) (locs : List Loc) (ls : Array Slot) (g : Hg) (a0 : Nat) (a1 : Nat), Mm D cA lo S g s H locs → Rf lo S a0 0 → Rf lo S a1 0 → lv_has ls 2 [(0, .ref a0), (1, .ref a1)] → b_X0_copy_0 N S g a0 a1 = some (rv, g1) → W p l e R s m args below meth c H locs 0 0 (MQ below (Qcx D cA lo S none S g1 True) args s 0 0 (fun q : Nat => lo ≤ q)) (F0 m 0 ls []) := by
  intro H locs ls g a0 a1 M ra0 ra1 hl q
  unfold b_X0_copy_0 at q
  refine lv_aload_n hx hb dX0_copy_0 rfl (lv_at hl 0 rfl) ?_
  refine lv_aload_n hx hb dX0_copy_1 rfl (lv_at hl 1 rfl) ?_
  refine x_getI hx hb hown hX M (k := 3) okX0 ra1 (by decide) rfl kw_259 dX0_copy_2 ?_
  replace q := ck_s q
  obtain ⟨hz, q⟩ := q
  refine x_putI hx hb hown hX M (k := 3) okX0 ra0 (by decide) rfl (Or.inl rfl) (zb_nar hz) (zb_fit hz) kw_259 dX0_copy_5 (fun H locs M => ?_)
  replace q := gen_g M q
  obtain ⟨g_1, -, M, q⟩ := q
  refine lv_aload_n hx hb dX0_copy_8 rfl (lv_at hl 0 rfl) ?_
  refine lv_aload_n hx hb dX0_copy_9 rfl (lv_at hl 1 rfl) ?_
  refine x_getI hx hb hown hX M (k := 4) okX0 ra1 (by decide) rfl kw_262 dX0_copy_10 ?_
  refine x_putI hx hb hown hX M (k := 4) okX0 ra0 (by decide) rfl (Or.inl rfl) rfl rfl kw_262 dX0_copy_13 (fun H locs M => ?_)
  replace q := gen_g M q
  obtain ⟨g_2, -, M, q⟩ := q
  refine lv_aload_n hx hb dX0_copy_16 rfl (lv_at hl 0 rfl) ?_
  refine lv_aload_n hx hb dX0_copy_17 rfl (lv_at hl 1 rfl) ?_
  refine x_getI hx hb hown hX M (k := 5) okX0 ra1 (by decide) rfl kw_266 dX0_copy_18 ?_
  refine x_putI hx hb hown hX M (k := 5) okX0 ra0 (by decide) rfl (Or.inl rfl) rfl rfl kw_266 dX0_copy_21 (fun H locs M => ?_)
  replace q := gen_g M q
  obtain ⟨g_3, -, M, q⟩ := q
  refine lv_aload_n hx hb dX0_copy_24 rfl (lv_at hl 0 rfl) ?_
  refine lv_aload_n hx hb dX0_copy_25 rfl (lv_at hl 1 rfl) ?_
  refine x_getI hx hb hown hX M (k := 6) okX0 ra1 (by decide) rfl kw_269 dX0_copy_26 ?_
  refine x_putI hx hb hown hX M (k := 6) okX0 ra0 (by decide) rfl (Or.inl rfl) rfl rfl kw_269 dX0_copy_29 (fun H locs M => ?_)
  replace q := gen_g M q
  obtain ⟨g_4, -, M, q⟩ := q
  refine lv_aload_n hx hb dX0_copy_32 rfl (lv_at hl 1 rfl) ?_
  replace q := nn_s q
  obtain ⟨a_5, e_a_5, q⟩ := q
  refine x_getR hx hb hown hX M e_a_5 okX0 ra1 (by decide) rfl kw_248 dX0_copy_33 (fun ra_5 => ?_)
  refine lv_iconst (v := 0) hx hb dX0_copy_36 (by decide) ?_
  refine lv_aload_n hx hb dX0_copy_37 rfl (lv_at hl 0 rfl) ?_
  replace q := nn_s q
  obtain ⟨a_6, e_a_6, q⟩ := q
  refine x_getR hx hb hown hX M e_a_6 okX0 ra0 (by decide) rfl kw_248 dX0_copy_38 (fun ra_6 => ?_)
  refine lv_iconst (v := 0) hx hb dX0_copy_41 (by decide) ?_
  replace q := c2_s q
  obtain ⟨u_8, g_7, qc, q⟩ := q
  refine x_callSN hx hb hml hl.1 hown hX M (S1 := S) (As := [.ref a_5, .int (0 : Int32), .ref a_6, .int (0 : Int32)]) (rest := []) kw_669 mok_X11_copySum (c_X11_copySum ra_5 ra_6 qc (Nat.le_refl 1)) kw_883 rfl rfl dX0_copy_42 (Nat.le_of_ble_eq_true rfl) ⟨Nat.le_trans (by decide) hRf, Nat.le_trans (by decide) hRl⟩ (Nat.zero_le _) (Nat.zero_le _) (fun H locs M hEF => ?_)
  refine lv_aload_n hx hb dX0_copy_45 rfl (lv_at hl 1 rfl) ?_
  replace q := nn_s q
  obtain ⟨a_9, e_a_9, q⟩ := q
  refine x_getR hx hb hown hX M e_a_9 okX0 ra1 (by decide) rfl kw_252 dX0_copy_46 (fun ra_9 => ?_)
  refine lv_iconst (v := 0) hx hb dX0_copy_49 (by decide) ?_
  refine lv_aload_n hx hb dX0_copy_50 rfl (lv_at hl 0 rfl) ?_
  replace q := nn_s q
  obtain ⟨a_10, e_a_10, q⟩ := q
  refine x_getR hx hb hown hX M e_a_10 okX0 ra0 (by decide) rfl kw_252 dX0_copy_51 (fun ra_10 => ?_)
  refine lv_iconst (v := 0) hx hb dX0_copy_54 (by decide) ?_
  replace q := c2_s q
  obtain ⟨u_12, g_11, qc, q⟩ := q
  refine x_callSN hx hb hml hl.1 hown hX M (S1 := S) (As := [.ref a_9, .int (0 : Int32), .ref a_10, .int (0 : Int32)]) (rest := []) kw_669 mok_X11_copySum (c_X11_copySum ra_9 ra_10 qc (Nat.le_refl 1)) kw_883 rfl rfl dX0_copy_55 (Nat.le_of_ble_eq_true rfl) ⟨Nat.le_trans (by decide) hRf, Nat.le_trans (by decide) hRl⟩ (Nat.zero_le _) (Nat.zero_le _) (fun H locs M hEF => ?_)
  refine lv_aload_n hx hb dX0_copy_58 rfl (lv_at hl 1 rfl) ?_
  replace q := nn_s q
  obtain ⟨a_13, e_a_13, q⟩ := q
  refine x_getR hx hb hown hX M e_a_13 okX0 ra1 (by decide) rfl kw_256 dX0_copy_59 (fun ra_13 => ?_)
  refine lv_iconst (v := 0) hx hb dX0_copy_62 (by decide) ?_
  refine lv_aload_n hx hb dX0_copy_63 rfl (lv_at hl 0 rfl) ?_
  replace q := nn_s q
  obtain ⟨a_14, e_a_14, q⟩ := q
  refine x_getR hx hb hown hX M e_a_14 okX0 ra0 (by decide) rfl kw_256 dX0_copy_64 (fun ra_14 => ?_)
  refine lv_iconst (v := 0) hx hb dX0_copy_67 (by decide) ?_
  replace q := c2_s q
  obtain ⟨u_16, g_15, qc, q⟩ := q
  refine x_callSN hx hb hml hl.1 hown hX M (S1 := S) (As := [.ref a_13, .int (0 : Int32), .ref a_14, .int (0 : Int32)]) (rest := []) kw_669 mok_X11_copySum (c_X11_copySum ra_13 ra_14 qc (Nat.le_refl 1)) kw_883 rfl rfl dX0_copy_68 (Nat.le_of_ble_eq_true rfl) ⟨Nat.le_trans (by decide) hRf, Nat.le_trans (by decide) hRl⟩ (Nat.zero_le _) (Nat.zero_le _) (fun H locs M hEF => ?_)
  cases q
  exact x_vret hx hb hr hlk M Ext.rf dX0_copy_71
set_option maxRecDepth 100000 in
theorem c_X0_copy {l : Launch} {D : va_G} {cA : Nat → ClassId} {lo tS N : Nat} {S : Hs} {g g1 : Hg} {rv : Unit} {a0 : Nat} {a1 : Nat} (ra0 : Rf lo S a0 0) (ra1 : Rf lo S a1 0) (q : f_X0_copy N S g a0 a1 = some (rv, g1)) {d : Nat} (hd : 2 ≤ d) : Ctr l yX0_copy cX0_copy 2 none D cA lo tS [.ref a0, .ref a1] S g d none S g1 True 0 0 := by
  refine x_met (by decide) (Nat.le_of_ble_eq_true rfl) ?_
  intro p e s m below meth c ls hx hb hml hr hlk hown hnm hX M hl
  exact w_X0_copy_0 hx hb hml hr hlk hown hX hd (Nat.mul_le_mul_left 60 hd) (N := N) _ _ _ _ _ _ M ra0 ra1 (lv_sub hl [0, 1] rfl) q
def b_X10_copy_0 (N : Nat) (S : Hs) (g : Hg) (a0 : Nat) (a1 : Nat) : Option (Unit × Hg) :=
ck (zb (rdI g a1 1)) (
nm (wrI g a0 1 (rdI g a1 1)) (fun g_1 =>
nm (wrI g_1 a0 2 (rdI g_1 a1 2)) (fun g_2 =>
nm (wrI g_2 a0 5 (rdI g_2 a1 5)) (fun g_3 =>
nm (wrI g_3 a0 6 (rdI g_3 a1 6)) (fun g_4 =>
nm (wrI g_4 a0 3 (rdI g_4 a1 3)) (fun g_5 =>
nm (wrI g_5 a0 4 (rdI g_5 a1 4)) (fun g_6 =>
nn (rdR g_6 a1 0) (fun a_7 =>
nn (rdR g_6 a0 0) (fun a_8 =>
ck (cpok (0 : Int32) (0 : Int32) (400 : Int32) (hpL S a_7) (hpL S a_8)) (
nm (cpI g_6 a_7 (0 : Int32).toNatClampNeg a_8 (0 : Int32).toNatClampNeg (400 : Int32).toNatClampNeg) (fun g_9 =>
some ((), g_9))))))))))))
def f_X10_copy (N : Nat) (S : Hs) (g : Hg) (a0 : Nat) (a1 : Nat) : Option (Unit × Hg) := b_X10_copy_0 N S g a0 a1
set_option maxHeartbeats 4000000 in
set_option maxRecDepth 100000 in
theorem w_X10_copy_0 (hx : p.tables.exec = Jvm.exec) (hb : c.code = cX10_copy) (hml : c.maxLocals = 2) (hr : meth.sig.returnType = none) (hlk : meth.locks = false) (hown : s.vm.findClass RX10 = some m.cls) (hX : Kx D cA lo tS s) (hRf : 1 ≤ R.frames) (hRl : 60 ≤ R.locals) {N : Nat} {rv : Unit} {g1 : Hg} {S : Hs} : ∀ (H : Heap) (locs : List Loc) (ls : Array Slot) (g : Hg) (a0 : Nat) (a1 : Nat), Mm D cA lo S g s H locs → Rf lo S a0 10 → Rf lo S a1 10 → lv_has ls 2 [(0, .ref a0), (1, .ref a1)] → b_X10_copy_0 N S g a0 a1 = some (rv, g1) → W p l e R s m args below meth c H locs 0 0 (MQ below (Qcx D cA lo S none S g1 True) args s 0 0 (fun q : Nat => lo ≤ q)) (F0 m 0 ls []) := by
  intro H locs ls g a0 a1 M ra0 ra1 hl q
  unfold b_X10_copy_0 at q
  refine lv_aload_n hx hb dX10_copy_0 rfl (lv_at hl 0 rfl) ?_
  refine lv_aload_n hx hb dX10_copy_1 rfl (lv_at hl 1 rfl) ?_
  refine x_getI hx hb hown hX M (k := 1) okX10 ra1 (by decide) rfl kw_294 dX10_copy_2 ?_
  replace q := ck_s q
  obtain ⟨hz, q⟩ := q
  refine x_putI hx hb hown hX M (k := 1) okX10 ra0 (by decide) rfl (Or.inl rfl) (zb_nar hz) (zb_fit hz) kw_294 dX10_copy_5 (fun H locs M => ?_)
  replace q := gen_g M q
  obtain ⟨g_1, -, M, q⟩ := q
  refine lv_aload_n hx hb dX10_copy_8 rfl (lv_at hl 0 rfl) ?_
  refine lv_aload_n hx hb dX10_copy_9 rfl (lv_at hl 1 rfl) ?_
  refine x_getI hx hb hown hX M (k := 2) okX10 ra1 (by decide) rfl kw_296 dX10_copy_10 ?_
  refine x_putI hx hb hown hX M (k := 2) okX10 ra0 (by decide) rfl (Or.inl rfl) rfl rfl kw_296 dX10_copy_13 (fun H locs M => ?_)
  replace q := gen_g M q
  obtain ⟨g_2, -, M, q⟩ := q
  refine lv_aload_n hx hb dX10_copy_16 rfl (lv_at hl 0 rfl) ?_
  refine lv_aload_n hx hb dX10_copy_17 rfl (lv_at hl 1 rfl) ?_
  refine x_getI hx hb hown hX M (k := 5) okX10 ra1 (by decide) rfl kw_302 dX10_copy_18 ?_
  refine x_putI hx hb hown hX M (k := 5) okX10 ra0 (by decide) rfl (Or.inl rfl) rfl rfl kw_302 dX10_copy_21 (fun H locs M => ?_)
  replace q := gen_g M q
  obtain ⟨g_3, -, M, q⟩ := q
  refine lv_aload_n hx hb dX10_copy_24 rfl (lv_at hl 0 rfl) ?_
  refine lv_aload_n hx hb dX10_copy_25 rfl (lv_at hl 1 rfl) ?_
  refine x_getI hx hb hown hX M (k := 6) okX10 ra1 (by decide) rfl kw_303 dX10_copy_26 ?_
  refine x_putI hx hb hown hX M (k := 6) okX10 ra0 (by decide) rfl (Or.inl rfl) rfl rfl kw_303 dX10_copy_29 (fun H locs M => ?_)
  replace q := gen_g M q
  obtain ⟨g_4, -, M, q⟩ := q
  refine lv_aload_n hx hb dX10_copy_32 rfl (lv_at hl 0 rfl) ?_
  refine lv_aload_n hx hb dX10_copy_33 rfl (lv_at hl 1 rfl) ?_
  refine x_getI hx hb hown hX M (k := 3) okX10 ra1 (by decide) rfl kw_298 dX10_copy_34 ?_
  refine x_putI hx hb hown hX M (k := 3) okX10 ra0 (by decide) rfl (Or.inl rfl) rfl rfl kw_298 dX10_copy_37 (fun H locs M => ?_)
  replace q := gen_g M q
  obtain ⟨g_5, -, M, q⟩ := q
  refine lv_aload_n hx hb dX10_copy_40 rfl (lv_at hl 0 rfl) ?_
  refine lv_aload_n hx hb dX10_copy_41 rfl (lv_at hl 1 rfl) ?_
  refine x_getI hx hb hown hX M (k := 4) okX10 ra1 (by decide) rfl kw_300 dX10_copy_42 ?_
  refine x_putI hx hb hown hX M (k := 4) okX10 ra0 (by decide) rfl (Or.inl rfl) rfl rfl kw_300 dX10_copy_45 (fun H locs M => ?_)
  replace q := gen_g M q
  obtain ⟨g_6, -, M, q⟩ := q
  refine lv_aload_n hx hb dX10_copy_48 rfl (lv_at hl 1 rfl) ?_
  replace q := nn_s q
  obtain ⟨a_7, e_a_7, q⟩ := q
  refine x_getR hx hb hown hX M e_a_7 okX10 ra1 (by decide) rfl kw_293 dX10_copy_49 (fun ra_7 => ?_)
  refine lv_iconst (v := 0) hx hb dX10_copy_52 (by decide) ?_
  refine lv_aload_n hx hb dX10_copy_53 rfl (lv_at hl 0 rfl) ?_
  replace q := nn_s q
  obtain ⟨a_8, e_a_8, q⟩ := q
  refine x_getR hx hb hown hX M e_a_8 okX10 ra0 (by decide) rfl kw_293 dX10_copy_54 (fun ra_8 => ?_)
  refine lv_iconst (v := 0) hx hb dX10_copy_57 (by decide) ?_
  refine lv_sipush (v := 400) hx hb dX10_copy_58 (by decide) ?_
  replace q := ck_s q
  obtain ⟨hz, q⟩ := q
  refine x_copyI hx hb hml hl.1 hown hX M (rest := []) kw_1000 kw_an kw_as kw_ai ra_7 ra_8 hz (Nat.le_of_ble_eq_true rfl) ⟨Nat.le_trans (by omega) hRf, Nat.le_trans (by omega) hRl⟩ dX10_copy_61 (fun H locs M => ?_)
  replace q := gen_g M q
  obtain ⟨g_9, -, M, q⟩ := q
  cases q
  exact x_vret hx hb hr hlk M Ext.rf dX10_copy_64
set_option maxRecDepth 100000 in
theorem c_X10_copy {l : Launch} {D : va_G} {cA : Nat → ClassId} {lo tS N : Nat} {S : Hs} {g g1 : Hg} {rv : Unit} {a0 : Nat} {a1 : Nat} (ra0 : Rf lo S a0 10) (ra1 : Rf lo S a1 10) (q : f_X10_copy N S g a0 a1 = some (rv, g1)) {d : Nat} (hd : 1 ≤ d) : Ctr l yX10_copy cX10_copy 2 none D cA lo tS [.ref a0, .ref a1] S g d none S g1 True 0 0 := by
  refine x_met (by decide) (Nat.le_of_ble_eq_true rfl) ?_
  intro p e s m below meth c ls hx hb hml hr hlk hown hnm hX M hl
  exact w_X10_copy_0 hx hb hml hr hlk hown hX hd (Nat.mul_le_mul_left 60 hd) (N := N) _ _ _ _ _ _ M ra0 ra1 (lv_sub hl [0, 1] rfl) q
def b_X1_firstBlamed_0 (N : Nat) (S : Hs) (g : Hg) (a0 : Nat) (x1 : Int32) : Option (Option Nat × Hg) :=
if x1 < 0 then (
some (none, g)) else (
if (rdI g a0 7) ≤ x1 then (
some (none, g)) else (
nn (rdR g a0 5) (fun a_3 =>
ck (inb x1 (hpL S a_3)) (
some ((rdR g a_3 x1.toNatClampNeg), g)))))
def f_X1_firstBlamed (N : Nat) (S : Hs) (g : Hg) (a0 : Nat) (x1 : Int32) : Option (Option Nat × Hg) := b_X1_firstBlamed_0 N S g a0 x1
set_option maxHeartbeats 4000000 in
set_option maxRecDepth 100000 in
theorem w_X1_firstBlamed_0 (hx : p.tables.exec = Jvm.exec) (hb : c.code = cX1_firstBlamed) (hml : c.maxLocals = 2) (hr : meth.sig.returnType = (some (.object "GlassLog$Head"))) (hlk : meth.locks = false) (hown : s.vm.findClass RX1 = some m.cls) (hX : Kx D cA lo tS s) (hRf : 1 ≤ R.frames) (hRl : 60 ≤ R.locals) {N : Nat} {rv : Option Nat} {g1 : Hg} {S : Hs} : ∀ (H : Heap) (locs : List Loc) (ls : Array Slot) (g : Hg) (a0 : Nat) (x1 : Int32), Mm D cA lo S g s H locs → Rf lo S a0 1 → lv_has ls 2 [(0, .ref a0), (1, .int x1)] → b_X1_firstBlamed_0 N S g a0 x1 = some (rv, g1) → W p l e R s m args below meth c H locs 0 0 (MQ below (Qcx D cA lo S (some (va_rf rv)) S g1 (Ro lo S rv 0)) args s 0 0 (fun q : Nat => lo ≤ q)) (F0 m 0 ls []) := by
  intro H locs ls g a0 x1 M ra0 hl q
  unfold b_X1_firstBlamed_0 at q
  refine lv_iload_n hx hb dX1_firstBlamed_0 rfl (lv_at hl 1 rfl) ?_
  refine lv_if_lt (tgt := 21) hx hb dX1_firstBlamed_1 (by decide) (fun c_1 => ?_) (fun c_1 => ?_)
  · replace q := if_t c_1 q
    refine lv_null hx hb dX1_firstBlamed_21 ?_
    cases q
    exact x_aret (v := none) Ro.none hx hb hr (Or.inl ⟨_, rfl⟩) hlk M Ext.rf dX1_firstBlamed_22
  · replace q := if_f c_1 q
    refine lv_iload_n hx hb dX1_firstBlamed_4 rfl (lv_at hl 1 rfl) ?_
    refine lv_aload_n hx hb dX1_firstBlamed_5 rfl (lv_at hl 0 rfl) ?_
    refine x_getI hx hb hown hX M (k := 7) okX1 ra0 (by decide) rfl kw_329 dX1_firstBlamed_6 ?_
    refine lv_icmp_ge (tgt := 21) hx hb dX1_firstBlamed_9 (by decide) (fun c_2 => ?_) (fun c_2 => ?_)
    · replace q := if_t c_2 q
      refine lv_null hx hb dX1_firstBlamed_21 ?_
      cases q
      exact x_aret (v := none) Ro.none hx hb hr (Or.inl ⟨_, rfl⟩) hlk M Ext.rf dX1_firstBlamed_22
    · replace q := if_f c_2 q
      refine lv_aload_n hx hb dX1_firstBlamed_12 rfl (lv_at hl 0 rfl) ?_
      replace q := nn_s q
      obtain ⟨a_3, e_a_3, q⟩ := q
      refine x_getR hx hb hown hX M e_a_3 okX1 ra0 (by decide) rfl kw_327 dX1_firstBlamed_13 (fun ra_3 => ?_)
      refine lv_iload_n hx hb dX1_firstBlamed_16 rfl (lv_at hl 1 rfl) ?_
      replace q := ck_s q
      obtain ⟨hin, q⟩ := q
      refine x_aald25 hx hb hX M ra_3 (inb_in hin) dX1_firstBlamed_17 (fun rf_4 => ?_)
      refine lv_goto (tgt := 22) hx hb dX1_firstBlamed_18 (by decide) ?_
      cases q
      exact x_aret (v := _) rf_4 hx hb hr (Or.inl ⟨_, rfl⟩) hlk M Ext.rf dX1_firstBlamed_22
set_option maxRecDepth 100000 in
theorem c_X1_firstBlamed {l : Launch} {D : va_G} {cA : Nat → ClassId} {lo tS N : Nat} {S : Hs} {g g1 : Hg} {rv : Option Nat} {a0 : Nat} {x1 : Int32} (ra0 : Rf lo S a0 1) (q : f_X1_firstBlamed N S g a0 x1 = some (rv, g1)) {d : Nat} (hd : 1 ≤ d) : Ctr l yX1_firstBlamed cX1_firstBlamed 2 (some (.object "GlassLog$Head")) D cA lo tS [.ref a0, .int x1] S g d (some (va_rf rv)) S g1 (Ro lo S rv 0) 0 0 := by
  refine x_met (by decide) (Nat.le_of_ble_eq_true rfl) ?_
  intro p e s m below meth c ls hx hb hml hr hlk hown hnm hX M hl
  exact w_X1_firstBlamed_0 hx hb hml hr hlk hown hX hd (Nat.mul_le_mul_left 60 hd) (N := N) _ _ _ _ _ _ M ra0 (lv_sub hl [0, 1] rfl) q
def b_X2_init_0 (N : Nat) (S : Hs) (g : Hg) (a0 : Nat) : Option (Unit × Hs × Hg × Nat × Nat) :=
ck (lenok (400 : Int32)) (
al S g 20 (400 : Int32).toNatClampNeg (fun a_6 S_1 g_2 =>
nm (wrR g_2 a0 0 (some a_6)) (fun g_7 =>
ck (lenok (3200 : Int32)) (
al S_1 g_7 20 (3200 : Int32).toNatClampNeg (fun a_13 S_8 g_9 =>
nm (wrR g_9 a0 1 (some a_13)) (fun g_14 =>
ck (lenok (400 : Int32)) (
al S_8 g_14 20 (400 : Int32).toNatClampNeg (fun a_20 S_15 g_16 =>
nm (wrR g_16 a0 2 (some a_20)) (fun g_21 =>
some ((), S_15, g_21, 0, 0))))))))))
def f_X2_init (N : Nat) (S : Hs) (g : Hg) (a0 : Nat) : Option (Unit × Hs × Hg × Nat × Nat) := b_X2_init_0 N S g a0
set_option maxHeartbeats 4000000 in
set_option maxRecDepth 100000 in
theorem w_X2_init_0 (hx : p.tables.exec = Jvm.exec) (hb : c.code = cX2_init) (hml : c.maxLocals = 1) (hr : meth.sig.returnType = none) (hlk : meth.locks = false) (hown : s.vm.findClass RX2 = some m.cls) (hX : Kx D cA lo tS s) (hRf : 1 ≤ R.frames) (hRl : 60 ≤ R.locals) (hnm : meth.name = "<init>") {N : Nat} {rv : Unit} {g1 : Hg} {S0 S1 : Hs} {cT wT : Nat} (hRc : cT ≤ R.cells) (hRs : wT ≤ R.slots) : ∀ (H : Heap) (locs : List Loc) (ls : Array Slot) (cells slots k w : Nat) (S : Hs) (g : Hg) (a0 : Nat), Mm D cA lo S g s H locs → Ext lo S0 S → Rf lo S a0 2 → lv_has ls 1 [(0, .ref a0)] → b_X2_init_0 N S g a0 = some (rv, S1, g1, k, w) → cells + k = cT → slots + w = wT → W p l e R s m args below meth c H locs cells slots (MQ below (Qcx D cA lo S0 none S1 g1 True) args s cT wT (fun q : Nat => lo ≤ q)) (F0 m 0 ls []) := by
  intro H locs ls cells slots k w S g a0 M hE ra0 hl q hc hs
  unfold b_X2_init_0 at q
  refine lv_aload_n hx hb dX2_init_0 rfl (lv_at hl 0 rfl) ?_
  refine x_objinit hx hb hml hl.1 hown hX (rest := []) kw_396 kw_oi kw_oc dX2_init_1 (Nat.le_of_ble_eq_true rfl) ⟨Nat.le_trans (by omega) hRf, Nat.le_trans (by omega) hRl⟩ ?_
  refine lv_aload_n hx hb dX2_init_4 rfl (lv_at hl 0 rfl) ?_
  refine lv_sipush (v := 400) hx hb dX2_init_5 (by decide) ?_
  replace q := ck_s q
  obtain ⟨hz, q⟩ := q
  replace q := al_s q
  obtain ⟨S_1, g_2, k_3, w_4, eS, eg, ek, ew, q⟩ := q
  refine x_newa20 hx hb hX M hz (hb_step hc ek hRc) (hb_step hs ew hRs) dX2_init_8 (fun H M rn_5 hE1 => ?_)
  rw [← eS, ← eg] at M
  rw [← eS] at rn_5 hE1
  clear eS eg
  replace ra0 := ra0.ext hE1
  replace hE := hE.tr hE1
  replace hc := hc_step hc ek
  replace hs := hc_step hs ew
  clear ek ew
  refine x_putR hx hb hown hX M (k := 0) (K1 := 20) okX2 ra0 (by decide) rfl rn_5 (Or.inr ⟨rfl, hnm, rfl⟩) rfl rfl kw_397 dX2_init_10 (fun H locs M => ?_)
  replace q := gen_g M q
  obtain ⟨g_7, -, M, q⟩ := q
  refine lv_aload_n hx hb dX2_init_13 rfl (lv_at hl 0 rfl) ?_
  refine lv_sipush (v := 3200) hx hb dX2_init_14 (by decide) ?_
  replace q := ck_s q
  obtain ⟨hz, q⟩ := q
  replace q := al_s q
  obtain ⟨S_8, g_9, k_10, w_11, eS, eg, ek, ew, q⟩ := q
  refine x_newa20 hx hb hX M hz (hb_step hc ek hRc) (hb_step hs ew hRs) dX2_init_17 (fun H M rn_12 hE1 => ?_)
  rw [← eS, ← eg] at M
  rw [← eS] at rn_12 hE1
  clear eS eg
  replace ra0 := ra0.ext hE1
  replace hE := hE.tr hE1
  replace hc := hc_step hc ek
  replace hs := hc_step hs ew
  clear ek ew
  refine x_putR hx hb hown hX M (k := 1) (K1 := 20) okX2 ra0 (by decide) rfl rn_12 (Or.inr ⟨rfl, hnm, rfl⟩) rfl rfl kw_398 dX2_init_19 (fun H locs M => ?_)
  replace q := gen_g M q
  obtain ⟨g_14, -, M, q⟩ := q
  refine lv_aload_n hx hb dX2_init_22 rfl (lv_at hl 0 rfl) ?_
  refine lv_sipush (v := 400) hx hb dX2_init_23 (by decide) ?_
  replace q := ck_s q
  obtain ⟨hz, q⟩ := q
  replace q := al_s q
  obtain ⟨S_15, g_16, k_17, w_18, eS, eg, ek, ew, q⟩ := q
  refine x_newa20 hx hb hX M hz (hb_step hc ek hRc) (hb_step hs ew hRs) dX2_init_26 (fun H M rn_19 hE1 => ?_)
  rw [← eS, ← eg] at M
  rw [← eS] at rn_19 hE1
  clear eS eg
  replace ra0 := ra0.ext hE1
  replace hE := hE.tr hE1
  replace hc := hc_step hc ek
  replace hs := hc_step hs ew
  clear ek ew
  refine x_putR hx hb hown hX M (k := 2) (K1 := 20) okX2 ra0 (by decide) rfl rn_19 (Or.inr ⟨rfl, hnm, rfl⟩) rfl rfl kw_400 dX2_init_28 (fun H locs M => ?_)
  replace q := gen_g M q
  obtain ⟨g_21, -, M, q⟩ := q
  cases q
  have hc : cells + 1 + 1 + 1 = cT := hc
  have hs : slots + (400 : Int32).toNatClampNeg + (3200 : Int32).toNatClampNeg + (400 : Int32).toNatClampNeg = wT := hs
  subst hc
  subst hs
  exact x_vret hx hb hr hlk M hE dX2_init_31
set_option maxRecDepth 100000 in
theorem c_X2_init {l : Launch} {D : va_G} {cA : Nat → ClassId} {lo tS N : Nat} {S S1 : Hs} {g g1 : Hg} {k w : Nat} {rv : Unit} {a0 : Nat} (ra0 : Rf lo S a0 2) (q : f_X2_init N S g a0 = some (rv, S1, g1, k, w)) {d : Nat} (hd : 1 ≤ d) : Ctr l yX2_init cX2_init 1 none D cA lo tS [.ref a0] S g d none S1 g1 True k w := by
  refine x_met (by decide) (Nat.le_of_ble_eq_true rfl) ?_
  intro p e s m below meth c ls hx hb hml hr hlk hown hnm hX M hl
  exact w_X2_init_0 hx hb hml hr hlk hown hX hd (Nat.mul_le_mul_left 60 hd) (N := N) hnm (Nat.le_refl k) (Nat.le_refl w) _ _ _ _ _ _ _ _ _ _ M Ext.rf ra0 (lv_sub hl [0] rfl) q (Nat.zero_add k) (Nat.zero_add w)
def b_X5_init_0 (N : Nat) (S : Hs) (g : Hg) (a0 : Nat) : Option (Unit × Hs × Hg × Nat × Nat) :=
ck (lenok (100 : Int32)) (
al S g 20 (100 : Int32).toNatClampNeg (fun a_6 S_1 g_2 =>
nm (wrR g_2 a0 0 (some a_6)) (fun g_7 =>
ck (lenok (100 : Int32)) (
al S_1 g_7 20 (100 : Int32).toNatClampNeg (fun a_13 S_8 g_9 =>
nm (wrR g_9 a0 1 (some a_13)) (fun g_14 =>
ck (lenok (100 : Int32)) (
al S_8 g_14 22 (100 : Int32).toNatClampNeg (fun a_20 S_15 g_16 =>
nm (wrR g_16 a0 2 (some a_20)) (fun g_21 =>
some ((), S_15, g_21, 0, 0))))))))))
def f_X5_init (N : Nat) (S : Hs) (g : Hg) (a0 : Nat) : Option (Unit × Hs × Hg × Nat × Nat) := b_X5_init_0 N S g a0
set_option maxHeartbeats 4000000 in
set_option maxRecDepth 100000 in
theorem w_X5_init_0 (hx : p.tables.exec = Jvm.exec) (hb : c.code = cX5_init) (hml : c.maxLocals = 1) (hr : meth.sig.returnType = none) (hlk : meth.locks = false) (hown : s.vm.findClass RX5 = some m.cls) (hX : Kx D cA lo tS s) (hRf : 1 ≤ R.frames) (hRl : 60 ≤ R.locals) (hnm : meth.name = "<init>") {N : Nat} {rv : Unit} {g1 : Hg} {S0 S1 : Hs} {cT wT : Nat} (hRc : cT ≤ R.cells) (hRs : wT ≤ R.slots) : ∀ (H : Heap) (locs : List Loc) (ls : Array Slot) (cells slots k w : Nat) (S : Hs) (g : Hg) (a0 : Nat), Mm D cA lo S g s H locs → Ext lo S0 S → Rf lo S a0 5 → lv_has ls 1 [(0, .ref a0)] → b_X5_init_0 N S g a0 = some (rv, S1, g1, k, w) → cells + k = cT → slots + w = wT → W p l e R s m args below meth c H locs cells slots (MQ below (Qcx D cA lo S0 none S1 g1 True) args s cT wT (fun q : Nat => lo ≤ q)) (F0 m 0 ls []) := by
  intro H locs ls cells slots k w S g a0 M hE ra0 hl q hc hs
  unfold b_X5_init_0 at q
  refine lv_aload_n hx hb dX5_init_0 rfl (lv_at hl 0 rfl) ?_
  refine x_objinit hx hb hml hl.1 hown hX (rest := []) kw_420 kw_oi kw_oc dX5_init_1 (Nat.le_of_ble_eq_true rfl) ⟨Nat.le_trans (by omega) hRf, Nat.le_trans (by omega) hRl⟩ ?_
  refine lv_aload_n hx hb dX5_init_4 rfl (lv_at hl 0 rfl) ?_
  refine lv_bipush (v := 100) hx hb dX5_init_5 (by decide) ?_
  replace q := ck_s q
  obtain ⟨hz, q⟩ := q
  replace q := al_s q
  obtain ⟨S_1, g_2, k_3, w_4, eS, eg, ek, ew, q⟩ := q
  refine x_newa20 hx hb hX M hz (hb_step hc ek hRc) (hb_step hs ew hRs) dX5_init_7 (fun H M rn_5 hE1 => ?_)
  rw [← eS, ← eg] at M
  rw [← eS] at rn_5 hE1
  clear eS eg
  replace ra0 := ra0.ext hE1
  replace hE := hE.tr hE1
  replace hc := hc_step hc ek
  replace hs := hc_step hs ew
  clear ek ew
  refine x_putR hx hb hown hX M (k := 0) (K1 := 20) okX5 ra0 (by decide) rfl rn_5 (Or.inr ⟨rfl, hnm, rfl⟩) rfl rfl kw_421 dX5_init_9 (fun H locs M => ?_)
  replace q := gen_g M q
  obtain ⟨g_7, -, M, q⟩ := q
  refine lv_aload_n hx hb dX5_init_12 rfl (lv_at hl 0 rfl) ?_
  refine lv_bipush (v := 100) hx hb dX5_init_13 (by decide) ?_
  replace q := ck_s q
  obtain ⟨hz, q⟩ := q
  replace q := al_s q
  obtain ⟨S_8, g_9, k_10, w_11, eS, eg, ek, ew, q⟩ := q
  refine x_newa20 hx hb hX M hz (hb_step hc ek hRc) (hb_step hs ew hRs) dX5_init_15 (fun H M rn_12 hE1 => ?_)
  rw [← eS, ← eg] at M
  rw [← eS] at rn_12 hE1
  clear eS eg
  replace ra0 := ra0.ext hE1
  replace hE := hE.tr hE1
  replace hc := hc_step hc ek
  replace hs := hc_step hs ew
  clear ek ew
  refine x_putR hx hb hown hX M (k := 1) (K1 := 20) okX5 ra0 (by decide) rfl rn_12 (Or.inr ⟨rfl, hnm, rfl⟩) rfl rfl kw_423 dX5_init_17 (fun H locs M => ?_)
  replace q := gen_g M q
  obtain ⟨g_14, -, M, q⟩ := q
  refine lv_aload_n hx hb dX5_init_20 rfl (lv_at hl 0 rfl) ?_
  refine lv_bipush (v := 100) hx hb dX5_init_21 (by decide) ?_
  replace q := ck_s q
  obtain ⟨hz, q⟩ := q
  replace q := al_s q
  obtain ⟨S_15, g_16, k_17, w_18, eS, eg, ek, ew, q⟩ := q
  refine x_newa22 hx hb hX M hz (hb_step hc ek hRc) (hb_step hs ew hRs) dX5_init_23 (fun H M rn_19 hE1 => ?_)
  rw [← eS, ← eg] at M
  rw [← eS] at rn_19 hE1
  clear eS eg
  replace ra0 := ra0.ext hE1
  replace hE := hE.tr hE1
  replace hc := hc_step hc ek
  replace hs := hc_step hs ew
  clear ek ew
  refine x_putR hx hb hown hX M (k := 2) (K1 := 22) okX5 ra0 (by decide) rfl rn_19 (Or.inr ⟨rfl, hnm, rfl⟩) rfl rfl kw_425 dX5_init_25 (fun H locs M => ?_)
  replace q := gen_g M q
  obtain ⟨g_21, -, M, q⟩ := q
  cases q
  have hc : cells + 1 + 1 + 1 = cT := hc
  have hs : slots + (100 : Int32).toNatClampNeg + (100 : Int32).toNatClampNeg + (100 : Int32).toNatClampNeg = wT := hs
  subst hc
  subst hs
  exact x_vret hx hb hr hlk M hE dX5_init_28
set_option maxRecDepth 100000 in
theorem c_X5_init {l : Launch} {D : va_G} {cA : Nat → ClassId} {lo tS N : Nat} {S S1 : Hs} {g g1 : Hg} {k w : Nat} {rv : Unit} {a0 : Nat} (ra0 : Rf lo S a0 5) (q : f_X5_init N S g a0 = some (rv, S1, g1, k, w)) {d : Nat} (hd : 1 ≤ d) : Ctr l yX5_init cX5_init 1 none D cA lo tS [.ref a0] S g d none S1 g1 True k w := by
  refine x_met (by decide) (Nat.le_of_ble_eq_true rfl) ?_
  intro p e s m below meth c ls hx hb hml hr hlk hown hnm hX M hl
  exact w_X5_init_0 hx hb hml hr hlk hown hX hd (Nat.mul_le_mul_left 60 hd) (N := N) hnm (Nat.le_refl k) (Nat.le_refl w) _ _ _ _ _ _ _ _ _ _ M Ext.rf ra0 (lv_sub hl [0] rfl) q (Nat.zero_add k) (Nat.zero_add w)
def b_X3_init_0 (N : Nat) (S : Hs) (g : Hg) (a0 : Nat) : Option (Unit × Hs × Hg × Nat × Nat) :=
al S g 2 4 (fun a_6 S_1 g_2 =>
c5 (f_X2_init N S_1 g_2 a_6) (fun u_8 S_9 g_7 =>
nm (wrR g_7 a0 0 (some a_6)) (fun g_14 =>
al S_9 g_14 5 4 (fun a_20 S_15 g_16 =>
c5 (f_X5_init N S_15 g_16 a_20) (fun u_22 S_23 g_21 =>
nm (wrR g_21 a0 1 (some a_20)) (fun g_28 =>
ck (lenok (400 : Int32)) (
al S_23 g_28 20 (400 : Int32).toNatClampNeg (fun a_34 S_29 g_30 =>
nm (wrR g_30 a0 2 (some a_34)) (fun g_35 =>
ck (lenok (400 : Int32)) (
al S_29 g_35 20 (400 : Int32).toNatClampNeg (fun a_41 S_36 g_37 =>
nm (wrR g_37 a0 3 (some a_41)) (fun g_42 =>
ck (lenok (400 : Int32)) (
al S_36 g_42 21 (400 : Int32).toNatClampNeg (fun a_48 S_43 g_44 =>
nm (wrR g_44 a0 4 (some a_48)) (fun g_49 =>
ck (lenok (6376 : Int32)) (
al S_43 g_49 20 (6376 : Int32).toNatClampNeg (fun a_55 S_50 g_51 =>
nm (wrR g_51 a0 5 (some a_55)) (fun g_56 =>
ck (lenok (8 : Int32)) (
al S_50 g_56 20 (8 : Int32).toNatClampNeg (fun a_62 S_57 g_58 =>
nm (wrR g_58 a0 8 (some a_62)) (fun g_63 =>
nm (wrI g_63 a0 9 (-1 : Int32)) (fun g_64 =>
some ((), S_57, g_64, 0, 0)))))))))))))))))))))))
def f_X3_init (N : Nat) (S : Hs) (g : Hg) (a0 : Nat) : Option (Unit × Hs × Hg × Nat × Nat) := b_X3_init_0 N S g a0
set_option maxHeartbeats 4000000 in
set_option maxRecDepth 100000 in
theorem w_X3_init_0 (hx : p.tables.exec = Jvm.exec) (hb : c.code = cX3_init) (hml : c.maxLocals = 1) (hr : meth.sig.returnType = none) (hlk : meth.locks = false) (hown : s.vm.findClass RX3 = some m.cls) (hX : Kx D cA lo tS s) (hRf : 2 ≤ R.frames) (hRl : 120 ≤ R.locals) (hnm : meth.name = "<init>") {N : Nat} {rv : Unit} {g1 : Hg} {S0 S1 : Hs} {cT wT : Nat} (hRc : cT ≤ R.cells) (hRs : wT ≤ R.slots) : ∀ (H : Heap) (locs : List Loc) (ls : Array Slot) (cells slots k w : Nat) (S : Hs) (g : Hg) (a0 : Nat), Mm D cA lo S g s H locs → Ext lo S0 S → Rf lo S a0 3 → lv_has ls 1 [(0, .ref a0)] → b_X3_init_0 N S g a0 = some (rv, S1, g1, k, w) → cells + k = cT → slots + w = wT → W p l e R s m args below meth c H locs cells slots (MQ below (Qcx D cA lo S0 none S1 g1 True) args s cT wT (fun q : Nat => lo ≤ q)) (F0 m 0 ls []) := by
  intro H locs ls cells slots k w S g a0 M hE ra0 hl q hc hs
  unfold b_X3_init_0 at q
  refine lv_aload_n hx hb dX3_init_0 rfl (lv_at hl 0 rfl) ?_
  refine x_objinit hx hb hml hl.1 hown hX (rest := []) kw_390 kw_oi kw_oc dX3_init_1 (Nat.le_of_ble_eq_true rfl) ⟨Nat.le_trans (by omega) hRf, Nat.le_trans (by omega) hRl⟩ ?_
  refine lv_aload_n hx hb dX3_init_4 rfl (lv_at hl 0 rfl) ?_
  replace q := al_s q
  obtain ⟨S_1, g_2, k_3, w_4, eS, eg, ek, ew, q⟩ := q
  refine x_new hx hb hown hX M okX2 kw_391 kw_392 kw_64 dfX2 (hb_step hc ek hRc) (hb_step hs ew hRs) dX3_init_5 (fun H M rn_5 hE1 => ?_)
  rw [← eS, ← eg] at M
  rw [← eS] at rn_5 hE1
  clear eS eg
  replace ra0 := ra0.ext hE1
  replace hE := hE.tr hE1
  replace hc := hc_step hc ek
  replace hs := hc_step hs ew
  clear ek ew
  refine lv_dup hx hb dX3_init_8 rfl ?_
  replace q := c5_s q
  obtain ⟨u_8, S_9, g_7, k_10, w_11, k_12, w_13, qc, ek, ew, q⟩ := q
  refine x_callIN hx hb hml hl.1 hown hX M (As := []) (rest := [.ref (hpN S), .ref a0]) kw_394 rfl mok_X2_init (c_X2_init rn_5 qc (Nat.le_refl 1)) kw_393 rfl rfl dX3_init_9 (Nat.le_of_ble_eq_true rfl) ⟨Nat.le_trans (by decide) hRf, Nat.le_trans (by decide) hRl⟩ (hb_step hc ek hRc) (hb_step hs ew hRs) (fun H locs M hEF => ?_)
  replace ra0 := ra0.ext hEF.1
  replace rn_5 := rn_5.ext hEF.1
  replace hE := hE.tr hEF.1
  replace hc := hc_step hc ek
  replace hs := hc_step hs ew
  clear ek ew
  refine x_putR hx hb hown hX M (k := 0) (K1 := 2) okX3 ra0 (by decide) rfl rn_5 (Or.inr ⟨rfl, hnm, rfl⟩) rfl rfl kw_440 dX3_init_12 (fun H locs M => ?_)
  replace q := gen_g M q
  obtain ⟨g_14, -, M, q⟩ := q
  refine lv_aload_n hx hb dX3_init_15 rfl (lv_at hl 0 rfl) ?_
  replace q := al_s q
  obtain ⟨S_15, g_16, k_17, w_18, eS, eg, ek, ew, q⟩ := q
  refine x_new hx hb hown hX M okX5 kw_415 kw_416 kw_65 dfX5 (hb_step hc ek hRc) (hb_step hs ew hRs) dX3_init_16 (fun H M rn_19 hE1 => ?_)
  rw [← eS, ← eg] at M
  rw [← eS] at rn_19 hE1
  clear eS eg
  replace ra0 := ra0.ext hE1
  replace hE := hE.tr hE1
  replace hc := hc_step hc ek
  replace hs := hc_step hs ew
  clear ek ew
  refine lv_dup hx hb dX3_init_19 rfl ?_
  replace q := c5_s q
  obtain ⟨u_22, S_23, g_21, k_24, w_25, k_26, w_27, qc, ek, ew, q⟩ := q
  refine x_callIN hx hb hml hl.1 hown hX M (As := []) (rest := [.ref (hpN S_9), .ref a0]) kw_418 rfl mok_X5_init (c_X5_init rn_19 qc (Nat.le_refl 1)) kw_417 rfl rfl dX3_init_20 (Nat.le_of_ble_eq_true rfl) ⟨Nat.le_trans (by decide) hRf, Nat.le_trans (by decide) hRl⟩ (hb_step hc ek hRc) (hb_step hs ew hRs) (fun H locs M hEF => ?_)
  replace ra0 := ra0.ext hEF.1
  replace rn_19 := rn_19.ext hEF.1
  replace hE := hE.tr hEF.1
  replace hc := hc_step hc ek
  replace hs := hc_step hs ew
  clear ek ew
  refine x_putR hx hb hown hX M (k := 1) (K1 := 5) okX3 ra0 (by decide) rfl rn_19 (Or.inr ⟨rfl, hnm, rfl⟩) rfl rfl kw_444 dX3_init_23 (fun H locs M => ?_)
  replace q := gen_g M q
  obtain ⟨g_28, -, M, q⟩ := q
  refine lv_aload_n hx hb dX3_init_26 rfl (lv_at hl 0 rfl) ?_
  refine lv_sipush (v := 400) hx hb dX3_init_27 (by decide) ?_
  replace q := ck_s q
  obtain ⟨hz, q⟩ := q
  replace q := al_s q
  obtain ⟨S_29, g_30, k_31, w_32, eS, eg, ek, ew, q⟩ := q
  refine x_newa20 hx hb hX M hz (hb_step hc ek hRc) (hb_step hs ew hRs) dX3_init_30 (fun H M rn_33 hE1 => ?_)
  rw [← eS, ← eg] at M
  rw [← eS] at rn_33 hE1
  clear eS eg
  replace ra0 := ra0.ext hE1
  replace hE := hE.tr hE1
  replace hc := hc_step hc ek
  replace hs := hc_step hs ew
  clear ek ew
  refine x_putR hx hb hown hX M (k := 2) (K1 := 20) okX3 ra0 (by decide) rfl rn_33 (Or.inr ⟨rfl, hnm, rfl⟩) rfl rfl kw_447 dX3_init_32 (fun H locs M => ?_)
  replace q := gen_g M q
  obtain ⟨g_35, -, M, q⟩ := q
  refine lv_aload_n hx hb dX3_init_35 rfl (lv_at hl 0 rfl) ?_
  refine lv_sipush (v := 400) hx hb dX3_init_36 (by decide) ?_
  replace q := ck_s q
  obtain ⟨hz, q⟩ := q
  replace q := al_s q
  obtain ⟨S_36, g_37, k_38, w_39, eS, eg, ek, ew, q⟩ := q
  refine x_newa20 hx hb hX M hz (hb_step hc ek hRc) (hb_step hs ew hRs) dX3_init_39 (fun H M rn_40 hE1 => ?_)
  rw [← eS, ← eg] at M
  rw [← eS] at rn_40 hE1
  clear eS eg
  replace ra0 := ra0.ext hE1
  replace hE := hE.tr hE1
  replace hc := hc_step hc ek
  replace hs := hc_step hs ew
  clear ek ew
  refine x_putR hx hb hown hX M (k := 3) (K1 := 20) okX3 ra0 (by decide) rfl rn_40 (Or.inr ⟨rfl, hnm, rfl⟩) rfl rfl kw_450 dX3_init_41 (fun H locs M => ?_)
  replace q := gen_g M q
  obtain ⟨g_42, -, M, q⟩ := q
  refine lv_aload_n hx hb dX3_init_44 rfl (lv_at hl 0 rfl) ?_
  refine lv_sipush (v := 400) hx hb dX3_init_45 (by decide) ?_
  replace q := ck_s q
  obtain ⟨hz, q⟩ := q
  replace q := al_s q
  obtain ⟨S_43, g_44, k_45, w_46, eS, eg, ek, ew, q⟩ := q
  refine x_newa21 hx hb hX M hz (hb_step hc ek hRc) (hb_step hs ew hRs) dX3_init_48 (fun H M rn_47 hE1 => ?_)
  rw [← eS, ← eg] at M
  rw [← eS] at rn_47 hE1
  clear eS eg
  replace ra0 := ra0.ext hE1
  replace hE := hE.tr hE1
  replace hc := hc_step hc ek
  replace hs := hc_step hs ew
  clear ek ew
  refine x_putR hx hb hown hX M (k := 4) (K1 := 21) okX3 ra0 (by decide) rfl rn_47 (Or.inr ⟨rfl, hnm, rfl⟩) rfl rfl kw_452 dX3_init_50 (fun H locs M => ?_)
  replace q := gen_g M q
  obtain ⟨g_49, -, M, q⟩ := q
  refine lv_aload_n hx hb dX3_init_53 rfl (lv_at hl 0 rfl) ?_
  refine lv_sipush (v := 6376) hx hb dX3_init_54 (by decide) ?_
  replace q := ck_s q
  obtain ⟨hz, q⟩ := q
  replace q := al_s q
  obtain ⟨S_50, g_51, k_52, w_53, eS, eg, ek, ew, q⟩ := q
  refine x_newa20 hx hb hX M hz (hb_step hc ek hRc) (hb_step hs ew hRs) dX3_init_57 (fun H M rn_54 hE1 => ?_)
  rw [← eS, ← eg] at M
  rw [← eS] at rn_54 hE1
  clear eS eg
  replace ra0 := ra0.ext hE1
  replace hE := hE.tr hE1
  replace hc := hc_step hc ek
  replace hs := hc_step hs ew
  clear ek ew
  refine x_putR hx hb hown hX M (k := 5) (K1 := 20) okX3 ra0 (by decide) rfl rn_54 (Or.inr ⟨rfl, hnm, rfl⟩) rfl rfl kw_453 dX3_init_59 (fun H locs M => ?_)
  replace q := gen_g M q
  obtain ⟨g_56, -, M, q⟩ := q
  refine lv_aload_n hx hb dX3_init_62 rfl (lv_at hl 0 rfl) ?_
  refine lv_bipush (v := 8) hx hb dX3_init_63 (by decide) ?_
  replace q := ck_s q
  obtain ⟨hz, q⟩ := q
  replace q := al_s q
  obtain ⟨S_57, g_58, k_59, w_60, eS, eg, ek, ew, q⟩ := q
  refine x_newa20 hx hb hX M hz (hb_step hc ek hRc) (hb_step hs ew hRs) dX3_init_65 (fun H M rn_61 hE1 => ?_)
  rw [← eS, ← eg] at M
  rw [← eS] at rn_61 hE1
  clear eS eg
  replace ra0 := ra0.ext hE1
  replace hE := hE.tr hE1
  replace hc := hc_step hc ek
  replace hs := hc_step hs ew
  clear ek ew
  refine x_putR hx hb hown hX M (k := 8) (K1 := 20) okX3 ra0 (by decide) rfl rn_61 (Or.inr ⟨rfl, hnm, rfl⟩) rfl rfl kw_461 dX3_init_67 (fun H locs M => ?_)
  replace q := gen_g M q
  obtain ⟨g_63, -, M, q⟩ := q
  refine lv_aload_n hx hb dX3_init_70 rfl (lv_at hl 0 rfl) ?_
  refine lv_iconst (v := -1) hx hb dX3_init_71 (by decide) ?_
  refine x_putI hx hb hown hX M (k := 9) okX3 ra0 (by decide) rfl (Or.inl rfl) rfl rfl kw_463 dX3_init_72 (fun H locs M => ?_)
  replace q := gen_g M q
  obtain ⟨g_64, -, M, q⟩ := q
  cases q
  have hc : cells + 1 + k_10 + 1 + k_24 + 1 + 1 + 1 + 1 + 1 = cT := hc
  have hs : slots + 4 + w_11 + 4 + w_25 + (400 : Int32).toNatClampNeg + (400 : Int32).toNatClampNeg + (400 : Int32).toNatClampNeg + (6376 : Int32).toNatClampNeg + (8 : Int32).toNatClampNeg = wT := hs
  subst hc
  subst hs
  exact x_vret hx hb hr hlk M hE dX3_init_75
set_option maxRecDepth 100000 in
theorem c_X3_init {l : Launch} {D : va_G} {cA : Nat → ClassId} {lo tS N : Nat} {S S1 : Hs} {g g1 : Hg} {k w : Nat} {rv : Unit} {a0 : Nat} (ra0 : Rf lo S a0 3) (q : f_X3_init N S g a0 = some (rv, S1, g1, k, w)) {d : Nat} (hd : 2 ≤ d) : Ctr l yX3_init cX3_init 1 none D cA lo tS [.ref a0] S g d none S1 g1 True k w := by
  refine x_met (by decide) (Nat.le_of_ble_eq_true rfl) ?_
  intro p e s m below meth c ls hx hb hml hr hlk hown hnm hX M hl
  exact w_X3_init_0 hx hb hml hr hlk hown hX hd (Nat.mul_le_mul_left 60 hd) (N := N) hnm (Nat.le_refl k) (Nat.le_refl w) _ _ _ _ _ _ _ _ _ _ M Ext.rf ra0 (lv_sub hl [0] rfl) q (Nat.zero_add k) (Nat.zero_add w)
def b_X1_nextLog_39 (N : Nat) (S : Hs) (g : Hg) (a0 : Nat) : Option (Option Nat × Hs × Hg × Nat × Nat) :=
nm (wrI g a0 1 ((rdI g a0 1) + (1 : Int32))) (fun g_1 =>
nn (rdR g_1 a0 0) (fun a_2 =>
ck (inb ((rdI g_1 a0 1) - (1 : Int32)) (hpL S a_2)) (
some ((rdR g_1 a_2 ((rdI g_1 a0 1) - (1 : Int32)).toNatClampNeg), S, g_1, 0, 0))))
def b_X1_nextLog_0 (N : Nat) (S : Hs) (g : Hg) (a0 : Nat) : Option (Option Nat × Hs × Hg × Nat × Nat) :=
if (rdI g a0 1) < (6 : Int32) then (
nn (rdR g a0 0) (fun a_2 =>
ck (inb (rdI g a0 1) (hpL S a_2)) (
nm (rdR g a_2 (rdI g a0 1).toNatClampNeg) (fun o_4 =>
on o_4 (
nn (rdR g a0 0) (fun a_6 =>
al S g 3 10 (fun a_12 S_7 g_8 =>
c5 (f_X3_init N S_7 g_8 a_12) (fun u_14 S_15 g_13 =>
ck (inb (rdI g a0 1) (hpL S_15 a_6)) (
nm (wrR g_13 a_6 (rdI g a0 1).toNatClampNeg (some a_12)) (fun g_20 =>
b_X1_nextLog_39 N S_15 g_20 a0)))))) (fun a_5 =>
b_X1_nextLog_39 N S g a0))))) else (
some (none, S, g, 0, 0))
def f_X1_nextLog (N : Nat) (S : Hs) (g : Hg) (a0 : Nat) : Option (Option Nat × Hs × Hg × Nat × Nat) := b_X1_nextLog_0 N S g a0
set_option maxHeartbeats 4000000 in
set_option maxRecDepth 100000 in
theorem w_X1_nextLog_39 (hx : p.tables.exec = Jvm.exec) (hb : c.code = cX1_nextLog) (hml : c.maxLocals = 1) (hr : meth.sig.returnType = (some (.object "GlassLog$Log"))) (hlk : meth.locks = false) (hown : s.vm.findClass RX1 = some m.cls) (hX : Kx D cA lo tS s) (hRf : 3 ≤ R.frames) (hRl : 180 ≤ R.locals) {N : Nat} {rv : Option Nat} {g1 : Hg} {S0 S1 : Hs} {cT wT : Nat} (hRc : cT ≤ R.cells) (hRs : wT ≤ R.slots) : ∀ (H : Heap) (locs : List Loc) (ls : Array Slot) (cells slots k w : Nat) (S : Hs) (g : Hg) (a0 : Nat), Mm D cA lo S g s H locs → Ext lo S0 S → Rf lo S a0 1 → lv_has ls 1 [(0, .ref a0)] → b_X1_nextLog_39 N S g a0 = some (rv, S1, g1, k, w) → cells + k = cT → slots + w = wT → W p l e R s m args below meth c H locs cells slots (MQ below (Qcx D cA lo S0 (some (va_rf rv)) S1 g1 (Ro lo S1 rv 3)) args s cT wT (fun q : Nat => lo ≤ q)) (F0 m 39 ls []) := by
  intro H locs ls cells slots k w S g a0 M hE ra0 hl q hc hs
  unfold b_X1_nextLog_39 at q
  refine lv_aload_n hx hb dX1_nextLog_39 rfl (lv_at hl 0 rfl) ?_
  refine lv_dup hx hb dX1_nextLog_40 rfl ?_
  refine x_getI hx hb hown hX M (k := 1) okX1 ra0 (by decide) rfl kw_320 dX1_nextLog_41 ?_
  refine lv_iconst (v := 1) hx hb dX1_nextLog_44 (by decide) ?_
  refine lv_iadd hx hb dX1_nextLog_45 ?_
  refine x_putI hx hb hown hX M (k := 1) okX1 ra0 (by decide) rfl (Or.inl rfl) rfl rfl kw_320 dX1_nextLog_46 (fun H locs M => ?_)
  replace q := gen_g M q
  obtain ⟨g_1, -, M, q⟩ := q
  refine lv_aload_n hx hb dX1_nextLog_49 rfl (lv_at hl 0 rfl) ?_
  replace q := nn_s q
  obtain ⟨a_2, e_a_2, q⟩ := q
  refine x_getR hx hb hown hX M e_a_2 okX1 ra0 (by decide) rfl kw_319 dX1_nextLog_50 (fun ra_2 => ?_)
  refine lv_aload_n hx hb dX1_nextLog_53 rfl (lv_at hl 0 rfl) ?_
  refine x_getI hx hb hown hX M (k := 1) okX1 ra0 (by decide) rfl kw_320 dX1_nextLog_54 ?_
  refine lv_iconst (v := 1) hx hb dX1_nextLog_57 (by decide) ?_
  refine lv_isub hx hb dX1_nextLog_58 ?_
  replace q := ck_s q
  obtain ⟨hin, q⟩ := q
  refine x_aald23 hx hb hX M ra_2 (inb_in hin) dX1_nextLog_59 (fun rf_3 => ?_)
  cases q
  have hc : cells = cT := hc
  have hs : slots = wT := hs
  subst hc
  subst hs
  exact x_aret (v := _) rf_3 hx hb hr (Or.inl ⟨_, rfl⟩) hlk M hE dX1_nextLog_60
set_option maxHeartbeats 4000000 in
set_option maxRecDepth 100000 in
theorem w_X1_nextLog_0 (hx : p.tables.exec = Jvm.exec) (hb : c.code = cX1_nextLog) (hml : c.maxLocals = 1) (hr : meth.sig.returnType = (some (.object "GlassLog$Log"))) (hlk : meth.locks = false) (hown : s.vm.findClass RX1 = some m.cls) (hX : Kx D cA lo tS s) (hRf : 3 ≤ R.frames) (hRl : 180 ≤ R.locals) {N : Nat} {rv : Option Nat} {g1 : Hg} {S0 S1 : Hs} {cT wT : Nat} (hRc : cT ≤ R.cells) (hRs : wT ≤ R.slots) : ∀ (H : Heap) (locs : List Loc) (ls : Array Slot) (cells slots k w : Nat) (S : Hs) (g : Hg) (a0 : Nat), Mm D cA lo S g s H locs → Ext lo S0 S → Rf lo S a0 1 → lv_has ls 1 [(0, .ref a0)] → b_X1_nextLog_0 N S g a0 = some (rv, S1, g1, k, w) → cells + k = cT → slots + w = wT → W p l e R s m args below meth c H locs cells slots (MQ below (Qcx D cA lo S0 (some (va_rf rv)) S1 g1 (Ro lo S1 rv 3)) args s cT wT (fun q : Nat => lo ≤ q)) (F0 m 0 ls []) := by
  intro H locs ls cells slots k w S g a0 M hE ra0 hl q hc hs
  unfold b_X1_nextLog_0 at q
  refine lv_aload_n hx hb dX1_nextLog_0 rfl (lv_at hl 0 rfl) ?_
  refine x_getI hx hb hown hX M (k := 1) okX1 ra0 (by decide) rfl kw_320 dX1_nextLog_1 ?_
  refine lv_bipush (v := 6) hx hb dX1_nextLog_4 (by decide) ?_
  refine lv_icmp_lt (tgt := 11) hx hb dX1_nextLog_6 (by decide) (fun c_1 => ?_) (fun c_1 => ?_)
  · replace q := if_t c_1 q
    refine lv_aload_n hx hb dX1_nextLog_11 rfl (lv_at hl 0 rfl) ?_
    replace q := nn_s q
    obtain ⟨a_2, e_a_2, q⟩ := q
    refine x_getR hx hb hown hX M e_a_2 okX1 ra0 (by decide) rfl kw_319 dX1_nextLog_12 (fun ra_2 => ?_)
    refine lv_aload_n hx hb dX1_nextLog_15 rfl (lv_at hl 0 rfl) ?_
    refine x_getI hx hb hown hX M (k := 1) okX1 ra0 (by decide) rfl kw_320 dX1_nextLog_16 ?_
    replace q := ck_s q
    obtain ⟨hin, q⟩ := q
    refine x_aald23 hx hb hX M ra_2 (inb_in hin) dX1_nextLog_19 (fun rf_3 => ?_)
    refine x_topo (fun o_4 e_o_4 => ?_)
    replace q := nm_s q e_o_4
    rw [← e_o_4] at rf_3
    refine x_ifnonnull (tgt := 39) hx hb dX1_nextLog_20 (by decide) (fun a_5 c_21 => ?_) (fun c_21 => ?_)
    · subst c_21
      replace q := on_s rfl q
      have ra_5 := rf_3 a_5 rfl
      have hl : lv_has ls 1 [(0, .ref a0)] := hl
      exact w_X1_nextLog_39 hx hb hml hr hlk hown hX hRf hRl (N := N) hRc hRs  _ _ _ _ _ _ _ _ _ _ M hE ra0 (lv_sub hl [0] rfl) q hc hs
    · replace q := on_n c_21 q
      refine lv_aload_n hx hb dX1_nextLog_23 rfl (lv_at hl 0 rfl) ?_
      replace q := nn_s q
      obtain ⟨a_6, e_a_6, q⟩ := q
      refine x_getR hx hb hown hX M e_a_6 okX1 ra0 (by decide) rfl kw_319 dX1_nextLog_24 (fun ra_6 => ?_)
      refine lv_aload_n hx hb dX1_nextLog_27 rfl (lv_at hl 0 rfl) ?_
      refine x_getI hx hb hown hX M (k := 1) okX1 ra0 (by decide) rfl kw_320 dX1_nextLog_28 ?_
      replace q := al_s q
      obtain ⟨S_7, g_8, k_9, w_10, eS, eg, ek, ew, q⟩ := q
      refine x_new hx hb hown hX M okX3 kw_167 kw_386 kw_63 dfX3 (hb_step hc ek hRc) (hb_step hs ew hRs) dX1_nextLog_31 (fun H M rn_11 hE1 => ?_)
      rw [← eS, ← eg] at M
      rw [← eS] at rn_11 hE1
      clear eS eg
      replace ra0 := ra0.ext hE1
      replace ra_6 := ra_6.ext hE1
      replace hE := hE.tr hE1
      replace hc := hc_step hc ek
      replace hs := hc_step hs ew
      clear ek ew
      refine lv_dup hx hb dX1_nextLog_34 rfl ?_
      replace q := c5_s q
      obtain ⟨u_14, S_15, g_13, k_16, w_17, k_18, w_19, qc, ek, ew, q⟩ := q
      refine x_callIN hx hb hml hl.1 hown hX M (As := []) (rest := [.ref (hpN S), .int (rdI g a0 1), .ref a_6]) kw_388 rfl mok_X3_init (c_X3_init rn_11 qc (Nat.le_refl 2)) kw_387 rfl rfl dX1_nextLog_35 (Nat.le_of_ble_eq_true rfl) ⟨Nat.le_trans (by decide) hRf, Nat.le_trans (by decide) hRl⟩ (hb_step hc ek hRc) (hb_step hs ew hRs) (fun H locs M hEF => ?_)
      replace ra0 := ra0.ext hEF.1
      replace ra_6 := ra_6.ext hEF.1
      replace rn_11 := rn_11.ext hEF.1
      replace hE := hE.tr hEF.1
      replace hc := hc_step hc ek
      replace hs := hc_step hs ew
      clear ek ew
      replace q := ck_s q
      obtain ⟨hin, q⟩ := q
      refine x_aast23 hx hb hX M ra_6 rn_11 (inb_in hin) dX1_nextLog_38 (fun H locs M => ?_)
      replace q := gen_g M q
      obtain ⟨g_20, -, M, q⟩ := q
      exact w_X1_nextLog_39 hx hb hml hr hlk hown hX hRf hRl (N := N) hRc hRs  _ _ _ _ _ _ _ _ _ _ M hE ra0 (lv_sub hl [0] rfl) q hc hs
  · replace q := if_f c_1 q
    refine lv_null hx hb dX1_nextLog_9 ?_
    cases q
    have hc : cells = cT := hc
    have hs : slots = wT := hs
    subst hc
    subst hs
    exact x_aret (v := none) Ro.none hx hb hr (Or.inl ⟨_, rfl⟩) hlk M hE dX1_nextLog_10
set_option maxRecDepth 100000 in
theorem c_X1_nextLog {l : Launch} {D : va_G} {cA : Nat → ClassId} {lo tS N : Nat} {S S1 : Hs} {g g1 : Hg} {k w : Nat} {rv : Option Nat} {a0 : Nat} (ra0 : Rf lo S a0 1) (q : f_X1_nextLog N S g a0 = some (rv, S1, g1, k, w)) {d : Nat} (hd : 3 ≤ d) : Ctr l yX1_nextLog cX1_nextLog 1 (some (.object "GlassLog$Log")) D cA lo tS [.ref a0] S g d (some (va_rf rv)) S1 g1 (Ro lo S1 rv 3) k w := by
  refine x_met (by decide) (Nat.le_of_ble_eq_true rfl) ?_
  intro p e s m below meth c ls hx hb hml hr hlk hown hnm hX M hl
  exact w_X1_nextLog_0 hx hb hml hr hlk hown hX hd (Nat.mul_le_mul_left 60 hd) (N := N) (Nat.le_refl k) (Nat.le_refl w) _ _ _ _ _ _ _ _ _ _ M Ext.rf ra0 (lv_sub hl [0] rfl) q (Nat.zero_add k) (Nat.zero_add w)
def b_X1_secondBlamed_0 (N : Nat) (S : Hs) (g : Hg) (a0 : Nat) (x1 : Int32) : Option (Option Nat × Hg) :=
if x1 < 0 then (
some (none, g)) else (
if (rdI g a0 7) ≤ x1 then (
some (none, g)) else (
nn (rdR g a0 6) (fun a_3 =>
ck (inb x1 (hpL S a_3)) (
some ((rdR g a_3 x1.toNatClampNeg), g)))))
def f_X1_secondBlamed (N : Nat) (S : Hs) (g : Hg) (a0 : Nat) (x1 : Int32) : Option (Option Nat × Hg) := b_X1_secondBlamed_0 N S g a0 x1
set_option maxHeartbeats 4000000 in
set_option maxRecDepth 100000 in
theorem w_X1_secondBlamed_0 (hx : p.tables.exec = Jvm.exec) (hb : c.code = cX1_secondBlamed) (hml : c.maxLocals = 2) (hr : meth.sig.returnType = (some (.object "GlassLog$Head"))) (hlk : meth.locks = false) (hown : s.vm.findClass RX1 = some m.cls) (hX : Kx D cA lo tS s) (hRf : 1 ≤ R.frames) (hRl : 60 ≤ R.locals) {N : Nat} {rv : Option Nat} {g1 : Hg} {S : Hs} : ∀ (H : Heap) (locs : List Loc) (ls : Array Slot) (g : Hg) (a0 : Nat) (x1 : Int32), Mm D cA lo S g s H locs → Rf lo S a0 1 → lv_has ls 2 [(0, .ref a0), (1, .int x1)] → b_X1_secondBlamed_0 N S g a0 x1 = some (rv, g1) → W p l e R s m args below meth c H locs 0 0 (MQ below (Qcx D cA lo S (some (va_rf rv)) S g1 (Ro lo S rv 0)) args s 0 0 (fun q : Nat => lo ≤ q)) (F0 m 0 ls []) := by
  intro H locs ls g a0 x1 M ra0 hl q
  unfold b_X1_secondBlamed_0 at q
  refine lv_iload_n hx hb dX1_secondBlamed_0 rfl (lv_at hl 1 rfl) ?_
  refine lv_if_lt (tgt := 21) hx hb dX1_secondBlamed_1 (by decide) (fun c_1 => ?_) (fun c_1 => ?_)
  · replace q := if_t c_1 q
    refine lv_null hx hb dX1_secondBlamed_21 ?_
    cases q
    exact x_aret (v := none) Ro.none hx hb hr (Or.inl ⟨_, rfl⟩) hlk M Ext.rf dX1_secondBlamed_22
  · replace q := if_f c_1 q
    refine lv_iload_n hx hb dX1_secondBlamed_4 rfl (lv_at hl 1 rfl) ?_
    refine lv_aload_n hx hb dX1_secondBlamed_5 rfl (lv_at hl 0 rfl) ?_
    refine x_getI hx hb hown hX M (k := 7) okX1 ra0 (by decide) rfl kw_329 dX1_secondBlamed_6 ?_
    refine lv_icmp_ge (tgt := 21) hx hb dX1_secondBlamed_9 (by decide) (fun c_2 => ?_) (fun c_2 => ?_)
    · replace q := if_t c_2 q
      refine lv_null hx hb dX1_secondBlamed_21 ?_
      cases q
      exact x_aret (v := none) Ro.none hx hb hr (Or.inl ⟨_, rfl⟩) hlk M Ext.rf dX1_secondBlamed_22
    · replace q := if_f c_2 q
      refine lv_aload_n hx hb dX1_secondBlamed_12 rfl (lv_at hl 0 rfl) ?_
      replace q := nn_s q
      obtain ⟨a_3, e_a_3, q⟩ := q
      refine x_getR hx hb hown hX M e_a_3 okX1 ra0 (by decide) rfl kw_328 dX1_secondBlamed_13 (fun ra_3 => ?_)
      refine lv_iload_n hx hb dX1_secondBlamed_16 rfl (lv_at hl 1 rfl) ?_
      replace q := ck_s q
      obtain ⟨hin, q⟩ := q
      refine x_aald25 hx hb hX M ra_3 (inb_in hin) dX1_secondBlamed_17 (fun rf_4 => ?_)
      refine lv_goto (tgt := 22) hx hb dX1_secondBlamed_18 (by decide) ?_
      cases q
      exact x_aret (v := _) rf_4 hx hb hr (Or.inl ⟨_, rfl⟩) hlk M Ext.rf dX1_secondBlamed_22
set_option maxRecDepth 100000 in
theorem c_X1_secondBlamed {l : Launch} {D : va_G} {cA : Nat → ClassId} {lo tS N : Nat} {S : Hs} {g g1 : Hg} {rv : Option Nat} {a0 : Nat} {x1 : Int32} (ra0 : Rf lo S a0 1) (q : f_X1_secondBlamed N S g a0 x1 = some (rv, g1)) {d : Nat} (hd : 1 ≤ d) : Ctr l yX1_secondBlamed cX1_secondBlamed 2 (some (.object "GlassLog$Head")) D cA lo tS [.ref a0, .int x1] S g d (some (va_rf rv)) S g1 (Ro lo S rv 0) 0 0 := by
  refine x_met (by decide) (Nat.le_of_ble_eq_true rfl) ?_
  intro p e s m below meth c ls hx hb hml hr hlk hown hnm hX M hl
  exact w_X1_secondBlamed_0 hx hb hml hr hlk hown hX hd (Nat.mul_le_mul_left 60 hd) (N := N) _ _ _ _ _ _ M ra0 (lv_sub hl [0, 1] rfl) q
def b_X0_init_0 (N : Nat) (S : Hs) (g : Hg) (a0 : Nat) : Option (Unit × Hs × Hg × Nat × Nat) :=
ck (lenok (8 : Int32)) (
al S g 20 (8 : Int32).toNatClampNeg (fun a_6 S_1 g_2 =>
nm (wrR g_2 a0 0 (some a_6)) (fun g_7 =>
ck (lenok (8 : Int32)) (
al S_1 g_7 20 (8 : Int32).toNatClampNeg (fun a_13 S_8 g_9 =>
nm (wrR g_9 a0 1 (some a_13)) (fun g_14 =>
ck (lenok (8 : Int32)) (
al S_8 g_14 20 (8 : Int32).toNatClampNeg (fun a_20 S_15 g_16 =>
nm (wrR g_16 a0 2 (some a_20)) (fun g_21 =>
some ((), S_15, g_21, 0, 0))))))))))
def f_X0_init (N : Nat) (S : Hs) (g : Hg) (a0 : Nat) : Option (Unit × Hs × Hg × Nat × Nat) := b_X0_init_0 N S g a0
set_option maxHeartbeats 4000000 in
set_option maxRecDepth 100000 in
theorem w_X0_init_0 (hx : p.tables.exec = Jvm.exec) (hb : c.code = cX0_init) (hml : c.maxLocals = 1) (hr : meth.sig.returnType = none) (hlk : meth.locks = false) (hown : s.vm.findClass RX0 = some m.cls) (hX : Kx D cA lo tS s) (hRf : 1 ≤ R.frames) (hRl : 60 ≤ R.locals) (hnm : meth.name = "<init>") {N : Nat} {rv : Unit} {g1 : Hg} {S0 S1 : Hs} {cT wT : Nat} (hRc : cT ≤ R.cells) (hRs : wT ≤ R.slots) : ∀ (H : Heap) (locs : List Loc) (ls : Array Slot) (cells slots k w : Nat) (S : Hs) (g : Hg) (a0 : Nat), Mm D cA lo S g s H locs → Ext lo S0 S → Rf lo S a0 0 → lv_has ls 1 [(0, .ref a0)] → b_X0_init_0 N S g a0 = some (rv, S1, g1, k, w) → cells + k = cT → slots + w = wT → W p l e R s m args below meth c H locs cells slots (MQ below (Qcx D cA lo S0 none S1 g1 True) args s cT wT (fun q : Nat => lo ≤ q)) (F0 m 0 ls []) := by
  intro H locs ls cells slots k w S g a0 M hE ra0 hl q hc hs
  unfold b_X0_init_0 at q
  refine lv_aload_n hx hb dX0_init_0 rfl (lv_at hl 0 rfl) ?_
  refine x_objinit hx hb hml hl.1 hown hX (rest := []) kw_247 kw_oi kw_oc dX0_init_1 (Nat.le_of_ble_eq_true rfl) ⟨Nat.le_trans (by omega) hRf, Nat.le_trans (by omega) hRl⟩ ?_
  refine lv_aload_n hx hb dX0_init_4 rfl (lv_at hl 0 rfl) ?_
  refine lv_bipush (v := 8) hx hb dX0_init_5 (by decide) ?_
  replace q := ck_s q
  obtain ⟨hz, q⟩ := q
  replace q := al_s q
  obtain ⟨S_1, g_2, k_3, w_4, eS, eg, ek, ew, q⟩ := q
  refine x_newa20 hx hb hX M hz (hb_step hc ek hRc) (hb_step hs ew hRs) dX0_init_7 (fun H M rn_5 hE1 => ?_)
  rw [← eS, ← eg] at M
  rw [← eS] at rn_5 hE1
  clear eS eg
  replace ra0 := ra0.ext hE1
  replace hE := hE.tr hE1
  replace hc := hc_step hc ek
  replace hs := hc_step hs ew
  clear ek ew
  refine x_putR hx hb hown hX M (k := 0) (K1 := 20) okX0 ra0 (by decide) rfl rn_5 (Or.inr ⟨rfl, hnm, rfl⟩) rfl rfl kw_248 dX0_init_9 (fun H locs M => ?_)
  replace q := gen_g M q
  obtain ⟨g_7, -, M, q⟩ := q
  refine lv_aload_n hx hb dX0_init_12 rfl (lv_at hl 0 rfl) ?_
  refine lv_bipush (v := 8) hx hb dX0_init_13 (by decide) ?_
  replace q := ck_s q
  obtain ⟨hz, q⟩ := q
  replace q := al_s q
  obtain ⟨S_8, g_9, k_10, w_11, eS, eg, ek, ew, q⟩ := q
  refine x_newa20 hx hb hX M hz (hb_step hc ek hRc) (hb_step hs ew hRs) dX0_init_15 (fun H M rn_12 hE1 => ?_)
  rw [← eS, ← eg] at M
  rw [← eS] at rn_12 hE1
  clear eS eg
  replace ra0 := ra0.ext hE1
  replace hE := hE.tr hE1
  replace hc := hc_step hc ek
  replace hs := hc_step hs ew
  clear ek ew
  refine x_putR hx hb hown hX M (k := 1) (K1 := 20) okX0 ra0 (by decide) rfl rn_12 (Or.inr ⟨rfl, hnm, rfl⟩) rfl rfl kw_252 dX0_init_17 (fun H locs M => ?_)
  replace q := gen_g M q
  obtain ⟨g_14, -, M, q⟩ := q
  refine lv_aload_n hx hb dX0_init_20 rfl (lv_at hl 0 rfl) ?_
  refine lv_bipush (v := 8) hx hb dX0_init_21 (by decide) ?_
  replace q := ck_s q
  obtain ⟨hz, q⟩ := q
  replace q := al_s q
  obtain ⟨S_15, g_16, k_17, w_18, eS, eg, ek, ew, q⟩ := q
  refine x_newa20 hx hb hX M hz (hb_step hc ek hRc) (hb_step hs ew hRs) dX0_init_23 (fun H M rn_19 hE1 => ?_)
  rw [← eS, ← eg] at M
  rw [← eS] at rn_19 hE1
  clear eS eg
  replace ra0 := ra0.ext hE1
  replace hE := hE.tr hE1
  replace hc := hc_step hc ek
  replace hs := hc_step hs ew
  clear ek ew
  refine x_putR hx hb hown hX M (k := 2) (K1 := 20) okX0 ra0 (by decide) rfl rn_19 (Or.inr ⟨rfl, hnm, rfl⟩) rfl rfl kw_256 dX0_init_25 (fun H locs M => ?_)
  replace q := gen_g M q
  obtain ⟨g_21, -, M, q⟩ := q
  cases q
  have hc : cells + 1 + 1 + 1 = cT := hc
  have hs : slots + (8 : Int32).toNatClampNeg + (8 : Int32).toNatClampNeg + (8 : Int32).toNatClampNeg = wT := hs
  subst hc
  subst hs
  exact x_vret hx hb hr hlk M hE dX0_init_28
set_option maxRecDepth 100000 in
theorem c_X0_init {l : Launch} {D : va_G} {cA : Nat → ClassId} {lo tS N : Nat} {S S1 : Hs} {g g1 : Hg} {k w : Nat} {rv : Unit} {a0 : Nat} (ra0 : Rf lo S a0 0) (q : f_X0_init N S g a0 = some (rv, S1, g1, k, w)) {d : Nat} (hd : 1 ≤ d) : Ctr l yX0_init cX0_init 1 none D cA lo tS [.ref a0] S g d none S1 g1 True k w := by
  refine x_met (by decide) (Nat.le_of_ble_eq_true rfl) ?_
  intro p e s m below meth c ls hx hb hml hr hlk hown hnm hX M hl
  exact w_X0_init_0 hx hb hml hr hlk hown hX hd (Nat.mul_le_mul_left 60 hd) (N := N) hnm (Nat.le_refl k) (Nat.le_refl w) _ _ _ _ _ _ _ _ _ _ M Ext.rf ra0 (lv_sub hl [0] rfl) q (Nat.zero_add k) (Nat.zero_add w)
def b_X1_tellBlame_74 (N : Nat) (S : Hs) (g : Hg) (a0 : Nat) (a1 : Nat) (a2 : Nat) : Option (Unit × Hs × Hg × Nat × Nat) :=
nn (rdR g a0 5) (fun a_1 =>
ck (inb (rdI g a0 7) (hpL S a_1)) (
nn (rdR g a_1 (rdI g a0 7).toNatClampNeg) (fun a_2 =>
c2 (f_X0_copy N S g a_2 a1) (fun u_4 g_3 =>
nn (rdR g_3 a0 6) (fun a_5 =>
ck (inb (rdI g_3 a0 7) (hpL S a_5)) (
nn (rdR g_3 a_5 (rdI g_3 a0 7).toNatClampNeg) (fun a_6 =>
c2 (f_X0_copy N S g_3 a_6 a2) (fun u_8 g_7 =>
nm (wrI g_7 a0 7 ((rdI g_7 a0 7) + (1 : Int32))) (fun g_9 =>
some ((), S, g_9, 0, 0))))))))))
def b_X1_tellBlame_42 (N : Nat) (S : Hs) (g : Hg) (a0 : Nat) (a1 : Nat) (a2 : Nat) : Option (Unit × Hs × Hg × Nat × Nat) :=
nn (rdR g a0 5) (fun a_1 =>
al S g 0 7 (fun a_7 S_2 g_3 =>
c5 (f_X0_init N S_2 g_3 a_7) (fun u_9 S_10 g_8 =>
ck (inb (rdI g a0 7) (hpL S_10 a_1)) (
nm (wrR g_8 a_1 (rdI g a0 7).toNatClampNeg (some a_7)) (fun g_15 =>
nn (rdR g_15 a0 6) (fun a_16 =>
al S_10 g_15 0 7 (fun a_22 S_17 g_18 =>
c5 (f_X0_init N S_17 g_18 a_22) (fun u_24 S_25 g_23 =>
ck (inb (rdI g_15 a0 7) (hpL S_25 a_16)) (
nm (wrR g_23 a_16 (rdI g_15 a0 7).toNatClampNeg (some a_22)) (fun g_30 =>
b_X1_tellBlame_74 N S_25 g_30 a0 a1 a2))))))))))
def b_X1_tellBlame_0 (N : Nat) (S : Hs) (g : Hg) (a0 : Nat) (o1 : Option Nat) (o2 : Option Nat) : Option (Unit × Hs × Hg × Nat × Nat) :=
if (60 : Int32) ≤ (rdI g a0 7) then (
some ((), S, g, 0, 0)) else (
on o1 (
some ((), S, g, 0, 0)) (fun a_2 =>
on o2 (
some ((), S, g, 0, 0)) (fun a_3 =>
nn (rdR g a0 5) (fun a_4 =>
ck (inb (rdI g a0 7) (hpL S a_4)) (
nm (rdR g a_4 (rdI g a0 7).toNatClampNeg) (fun o_6 =>
on o_6 (
b_X1_tellBlame_42 N S g a0 a_2 a_3) (fun a_7 =>
nn (rdR g a0 6) (fun a_8 =>
ck (inb (rdI g a0 7) (hpL S a_8)) (
nm (rdR g a_8 (rdI g a0 7).toNatClampNeg) (fun o_10 =>
on o_10 (
b_X1_tellBlame_42 N S g a0 a_2 a_3) (fun a_11 =>
b_X1_tellBlame_74 N S g a0 a_2 a_3)))))))))))
def f_X1_tellBlame (N : Nat) (S : Hs) (g : Hg) (a0 : Nat) (o1 : Option Nat) (o2 : Option Nat) : Option (Unit × Hs × Hg × Nat × Nat) := b_X1_tellBlame_0 N S g a0 o1 o2
set_option maxHeartbeats 4000000 in
set_option maxRecDepth 100000 in
theorem w_X1_tellBlame_74 (hx : p.tables.exec = Jvm.exec) (hb : c.code = cX1_tellBlame) (hml : c.maxLocals = 3) (hr : meth.sig.returnType = none) (hlk : meth.locks = false) (hown : s.vm.findClass RX1 = some m.cls) (hX : Kx D cA lo tS s) (hRf : 3 ≤ R.frames) (hRl : 180 ≤ R.locals) {N : Nat} {rv : Unit} {g1 : Hg} {S0 S1 : Hs} {cT wT : Nat} (hRc : cT ≤ R.cells) (hRs : wT ≤ R.slots) : ∀ (H : Heap) (locs : List Loc) (ls : Array Slot) (cells slots k w : Nat) (S : Hs) (g : Hg) (a0 : Nat) (a1 : Nat) (a2 : Nat), Mm D cA lo S g s H locs → Ext lo S0 S → Rf lo S a0 1 → Rf lo S a1 0 → Rf lo S a2 0 → lv_has ls 3 [(0, .ref a0), (1, .ref a1), (2, .ref a2)] → b_X1_tellBlame_74 N S g a0 a1 a2 = some (rv, S1, g1, k, w) → cells + k = cT → slots + w = wT → W p l e R s m args below meth c H locs cells slots (MQ below (Qcx D cA lo S0 none S1 g1 True) args s cT wT (fun q : Nat => lo ≤ q)) (F0 m 74 ls []) := by
  intro H locs ls cells slots k w S g a0 a1 a2 M hE ra0 ra1 ra2 hl q hc hs
  unfold b_X1_tellBlame_74 at q
  refine lv_aload_n hx hb dX1_tellBlame_74 rfl (lv_at hl 0 rfl) ?_
  replace q := nn_s q
  obtain ⟨a_1, e_a_1, q⟩ := q
  refine x_getR hx hb hown hX M e_a_1 okX1 ra0 (by decide) rfl kw_327 dX1_tellBlame_75 (fun ra_1 => ?_)
  refine lv_aload_n hx hb dX1_tellBlame_78 rfl (lv_at hl 0 rfl) ?_
  refine x_getI hx hb hown hX M (k := 7) okX1 ra0 (by decide) rfl kw_329 dX1_tellBlame_79 ?_
  replace q := ck_s q
  obtain ⟨hin, q⟩ := q
  replace q := nn_s q
  obtain ⟨a_2, e_a_2, q⟩ := q
  refine x_aaldn25 hx hb hX M ra_1 e_a_2 (inb_in hin) dX1_tellBlame_82 (fun ra_2 => ?_)
  refine lv_aload_n hx hb dX1_tellBlame_83 rfl (lv_at hl 1 rfl) ?_
  replace q := c2_s q
  obtain ⟨u_4, g_3, qc, q⟩ := q
  refine x_callV hx hb hml hl.1 hown hX M (S1 := S) (As := [.ref a1]) (rest := []) okX0 ra_2 rfl kw_880 kw_881 mok_X0_copy (c_X0_copy ra_2 ra1 qc (Nat.le_refl 2)) kw_893 rfl rfl dX1_tellBlame_84 (Nat.le_of_ble_eq_true rfl) ⟨Nat.le_trans (by decide) hRf, Nat.le_trans (by decide) hRl⟩ (hz_step hc hRc) (hz_step hs hRs) (fun H locs M hEF => ?_)
  refine lv_aload_n hx hb dX1_tellBlame_87 rfl (lv_at hl 0 rfl) ?_
  replace q := nn_s q
  obtain ⟨a_5, e_a_5, q⟩ := q
  refine x_getR hx hb hown hX M e_a_5 okX1 ra0 (by decide) rfl kw_328 dX1_tellBlame_88 (fun ra_5 => ?_)
  refine lv_aload_n hx hb dX1_tellBlame_91 rfl (lv_at hl 0 rfl) ?_
  refine x_getI hx hb hown hX M (k := 7) okX1 ra0 (by decide) rfl kw_329 dX1_tellBlame_92 ?_
  replace q := ck_s q
  obtain ⟨hin, q⟩ := q
  replace q := nn_s q
  obtain ⟨a_6, e_a_6, q⟩ := q
  refine x_aaldn25 hx hb hX M ra_5 e_a_6 (inb_in hin) dX1_tellBlame_95 (fun ra_6 => ?_)
  refine lv_aload_n hx hb dX1_tellBlame_96 rfl (lv_at hl 2 rfl) ?_
  replace q := c2_s q
  obtain ⟨u_8, g_7, qc, q⟩ := q
  refine x_callV hx hb hml hl.1 hown hX M (S1 := S) (As := [.ref a2]) (rest := []) okX0 ra_6 rfl kw_880 kw_881 mok_X0_copy (c_X0_copy ra_6 ra2 qc (Nat.le_refl 2)) kw_893 rfl rfl dX1_tellBlame_97 (Nat.le_of_ble_eq_true rfl) ⟨Nat.le_trans (by decide) hRf, Nat.le_trans (by decide) hRl⟩ (hz_step hc hRc) (hz_step hs hRs) (fun H locs M hEF => ?_)
  refine lv_aload_n hx hb dX1_tellBlame_100 rfl (lv_at hl 0 rfl) ?_
  refine lv_dup hx hb dX1_tellBlame_101 rfl ?_
  refine x_getI hx hb hown hX M (k := 7) okX1 ra0 (by decide) rfl kw_329 dX1_tellBlame_102 ?_
  refine lv_iconst (v := 1) hx hb dX1_tellBlame_105 (by decide) ?_
  refine lv_iadd hx hb dX1_tellBlame_106 ?_
  refine x_putI hx hb hown hX M (k := 7) okX1 ra0 (by decide) rfl (Or.inl rfl) rfl rfl kw_329 dX1_tellBlame_107 (fun H locs M => ?_)
  replace q := gen_g M q
  obtain ⟨g_9, -, M, q⟩ := q
  cases q
  have hc : cells = cT := hc
  have hs : slots = wT := hs
  subst hc
  subst hs
  exact x_vret hx hb hr hlk M hE dX1_tellBlame_110
set_option maxHeartbeats 4000000 in
set_option maxRecDepth 100000 in
theorem w_X1_tellBlame_42 (hx : p.tables.exec = Jvm.exec) (hb : c.code = cX1_tellBlame) (hml : c.maxLocals = 3) (hr : meth.sig.returnType = none) (hlk : meth.locks = false) (hown : s.vm.findClass RX1 = some m.cls) (hX : Kx D cA lo tS s) (hRf : 3 ≤ R.frames) (hRl : 180 ≤ R.locals) {N : Nat} {rv : Unit} {g1 : Hg} {S0 S1 : Hs} {cT wT : Nat} (hRc : cT ≤ R.cells) (hRs : wT ≤ R.slots) : ∀ (H : Heap) (locs : List Loc) (ls : Array Slot) (cells slots k w : Nat) (S : Hs) (g : Hg) (a0 : Nat) (a1 : Nat) (a2 : Nat), Mm D cA lo S g s H locs → Ext lo S0 S → Rf lo S a0 1 → Rf lo S a1 0 → Rf lo S a2 0 → lv_has ls 3 [(0, .ref a0), (1, .ref a1), (2, .ref a2)] → b_X1_tellBlame_42 N S g a0 a1 a2 = some (rv, S1, g1, k, w) → cells + k = cT → slots + w = wT → W p l e R s m args below meth c H locs cells slots (MQ below (Qcx D cA lo S0 none S1 g1 True) args s cT wT (fun q : Nat => lo ≤ q)) (F0 m 42 ls []) := by
  intro H locs ls cells slots k w S g a0 a1 a2 M hE ra0 ra1 ra2 hl q hc hs
  unfold b_X1_tellBlame_42 at q
  refine lv_aload_n hx hb dX1_tellBlame_42 rfl (lv_at hl 0 rfl) ?_
  replace q := nn_s q
  obtain ⟨a_1, e_a_1, q⟩ := q
  refine x_getR hx hb hown hX M e_a_1 okX1 ra0 (by decide) rfl kw_327 dX1_tellBlame_43 (fun ra_1 => ?_)
  refine lv_aload_n hx hb dX1_tellBlame_46 rfl (lv_at hl 0 rfl) ?_
  refine x_getI hx hb hown hX M (k := 7) okX1 ra0 (by decide) rfl kw_329 dX1_tellBlame_47 ?_
  replace q := al_s q
  obtain ⟨S_2, g_3, k_4, w_5, eS, eg, ek, ew, q⟩ := q
  refine x_new hx hb hown hX M okX0 kw_171 kw_243 kw_60 dfX0 (hb_step hc ek hRc) (hb_step hs ew hRs) dX1_tellBlame_50 (fun H M rn_6 hE1 => ?_)
  rw [← eS, ← eg] at M
  rw [← eS] at rn_6 hE1
  clear eS eg
  replace ra0 := ra0.ext hE1
  replace ra1 := ra1.ext hE1
  replace ra2 := ra2.ext hE1
  replace ra_1 := ra_1.ext hE1
  replace hE := hE.tr hE1
  replace hc := hc_step hc ek
  replace hs := hc_step hs ew
  clear ek ew
  refine lv_dup hx hb dX1_tellBlame_53 rfl ?_
  replace q := c5_s q
  obtain ⟨u_9, S_10, g_8, k_11, w_12, k_13, w_14, qc, ek, ew, q⟩ := q
  refine x_callIN hx hb hml hl.1 hown hX M (As := []) (rest := [.ref (hpN S), .int (rdI g a0 7), .ref a_1]) kw_245 rfl mok_X0_init (c_X0_init rn_6 qc (Nat.le_refl 1)) kw_244 rfl rfl dX1_tellBlame_54 (Nat.le_of_ble_eq_true rfl) ⟨Nat.le_trans (by decide) hRf, Nat.le_trans (by decide) hRl⟩ (hb_step hc ek hRc) (hb_step hs ew hRs) (fun H locs M hEF => ?_)
  replace ra0 := ra0.ext hEF.1
  replace ra1 := ra1.ext hEF.1
  replace ra2 := ra2.ext hEF.1
  replace ra_1 := ra_1.ext hEF.1
  replace rn_6 := rn_6.ext hEF.1
  replace hE := hE.tr hEF.1
  replace hc := hc_step hc ek
  replace hs := hc_step hs ew
  clear ek ew
  replace q := ck_s q
  obtain ⟨hin, q⟩ := q
  refine x_aast25 hx hb hX M ra_1 rn_6 (inb_in hin) dX1_tellBlame_57 (fun H locs M => ?_)
  replace q := gen_g M q
  obtain ⟨g_15, -, M, q⟩ := q
  refine lv_aload_n hx hb dX1_tellBlame_58 rfl (lv_at hl 0 rfl) ?_
  replace q := nn_s q
  obtain ⟨a_16, e_a_16, q⟩ := q
  refine x_getR hx hb hown hX M e_a_16 okX1 ra0 (by decide) rfl kw_328 dX1_tellBlame_59 (fun ra_16 => ?_)
  refine lv_aload_n hx hb dX1_tellBlame_62 rfl (lv_at hl 0 rfl) ?_
  refine x_getI hx hb hown hX M (k := 7) okX1 ra0 (by decide) rfl kw_329 dX1_tellBlame_63 ?_
  replace q := al_s q
  obtain ⟨S_17, g_18, k_19, w_20, eS, eg, ek, ew, q⟩ := q
  refine x_new hx hb hown hX M okX0 kw_171 kw_243 kw_60 dfX0 (hb_step hc ek hRc) (hb_step hs ew hRs) dX1_tellBlame_66 (fun H M rn_21 hE1 => ?_)
  rw [← eS, ← eg] at M
  rw [← eS] at rn_21 hE1
  clear eS eg
  replace ra0 := ra0.ext hE1
  replace ra1 := ra1.ext hE1
  replace ra2 := ra2.ext hE1
  replace ra_16 := ra_16.ext hE1
  replace hE := hE.tr hE1
  replace hc := hc_step hc ek
  replace hs := hc_step hs ew
  clear ek ew
  refine lv_dup hx hb dX1_tellBlame_69 rfl ?_
  replace q := c5_s q
  obtain ⟨u_24, S_25, g_23, k_26, w_27, k_28, w_29, qc, ek, ew, q⟩ := q
  refine x_callIN hx hb hml hl.1 hown hX M (As := []) (rest := [.ref (hpN S_10), .int (rdI g_15 a0 7), .ref a_16]) kw_245 rfl mok_X0_init (c_X0_init rn_21 qc (Nat.le_refl 1)) kw_244 rfl rfl dX1_tellBlame_70 (Nat.le_of_ble_eq_true rfl) ⟨Nat.le_trans (by decide) hRf, Nat.le_trans (by decide) hRl⟩ (hb_step hc ek hRc) (hb_step hs ew hRs) (fun H locs M hEF => ?_)
  replace ra0 := ra0.ext hEF.1
  replace ra1 := ra1.ext hEF.1
  replace ra2 := ra2.ext hEF.1
  replace ra_16 := ra_16.ext hEF.1
  replace rn_21 := rn_21.ext hEF.1
  replace hE := hE.tr hEF.1
  replace hc := hc_step hc ek
  replace hs := hc_step hs ew
  clear ek ew
  replace q := ck_s q
  obtain ⟨hin, q⟩ := q
  refine x_aast25 hx hb hX M ra_16 rn_21 (inb_in hin) dX1_tellBlame_73 (fun H locs M => ?_)
  replace q := gen_g M q
  obtain ⟨g_30, -, M, q⟩ := q
  exact w_X1_tellBlame_74 hx hb hml hr hlk hown hX hRf hRl (N := N) hRc hRs  _ _ _ _ _ _ _ _ _ _ _ _ M hE ra0 ra1 ra2 (lv_sub hl [0, 1, 2] rfl) q hc hs
set_option maxHeartbeats 4000000 in
set_option maxRecDepth 100000 in
theorem w_X1_tellBlame_0 (hx : p.tables.exec = Jvm.exec) (hb : c.code = cX1_tellBlame) (hml : c.maxLocals = 3) (hr : meth.sig.returnType = none) (hlk : meth.locks = false) (hown : s.vm.findClass RX1 = some m.cls) (hX : Kx D cA lo tS s) (hRf : 3 ≤ R.frames) (hRl : 180 ≤ R.locals) {N : Nat} {rv : Unit} {g1 : Hg} {S0 S1 : Hs} {cT wT : Nat} (hRc : cT ≤ R.cells) (hRs : wT ≤ R.slots) : ∀ (H : Heap) (locs : List Loc) (ls : Array Slot) (cells slots k w : Nat) (S : Hs) (g : Hg) (a0 : Nat) (o1 : Option Nat) (o2 : Option Nat), Mm D cA lo S g s H locs → Ext lo S0 S → Rf lo S a0 1 → Ro lo S o1 0 → Ro lo S o2 0 → lv_has ls 3 [(0, .ref a0), (1, va_rf o1), (2, va_rf o2)] → b_X1_tellBlame_0 N S g a0 o1 o2 = some (rv, S1, g1, k, w) → cells + k = cT → slots + w = wT → W p l e R s m args below meth c H locs cells slots (MQ below (Qcx D cA lo S0 none S1 g1 True) args s cT wT (fun q : Nat => lo ≤ q)) (F0 m 0 ls []) := by
  intro H locs ls cells slots k w S g a0 o1 o2 M hE ra0 ro1 ro2 hl q hc hs
  unfold b_X1_tellBlame_0 at q
  refine lv_aload_n hx hb dX1_tellBlame_0 rfl (lv_at hl 0 rfl) ?_
  refine x_getI hx hb hown hX M (k := 7) okX1 ra0 (by decide) rfl kw_329 dX1_tellBlame_1 ?_
  refine lv_bipush (v := 60) hx hb dX1_tellBlame_4 (by decide) ?_
  refine lv_icmp_ge (tgt := 17) hx hb dX1_tellBlame_6 (by decide) (fun c_1 => ?_) (fun c_1 => ?_)
  · replace q := if_t c_1 q
    cases q
    have hc : cells = cT := hc
    have hs : slots = wT := hs
    subst hc
    subst hs
    exact x_vret hx hb hr hlk M hE dX1_tellBlame_17
  · replace q := if_f c_1 q
    refine x_aload_n hx hb dX1_tellBlame_9 rfl (lv_at hl 1 rfl) ?_
    refine x_ifnull (tgt := 17) hx hb dX1_tellBlame_10 (by decide) (fun c_15 => ?_) (fun a_2 c_15 => ?_)
    · replace q := on_n c_15 q
      cases q
      have hc : cells = cT := hc
      have hs : slots = wT := hs
      subst hc
      subst hs
      exact x_vret hx hb hr hlk M hE dX1_tellBlame_17
    · subst c_15
      replace q := on_s rfl q
      have ra_2 := ro1 a_2 rfl
      have hl : lv_has ls 3 [(0, .ref a0), (1, .ref a_2), (2, va_rf o2)] := hl
      refine x_aload_n hx hb dX1_tellBlame_13 rfl (lv_at hl 2 rfl) ?_
      refine x_ifnonnull (tgt := 18) hx hb dX1_tellBlame_14 (by decide) (fun a_3 c_14 => ?_) (fun c_14 => ?_)
      · subst c_14
        replace q := on_s rfl q
        have ra_3 := ro2 a_3 rfl
        have hl : lv_has ls 3 [(0, .ref a0), (1, .ref a_2), (2, .ref a_3)] := hl
        refine lv_aload_n hx hb dX1_tellBlame_18 rfl (lv_at hl 0 rfl) ?_
        replace q := nn_s q
        obtain ⟨a_4, e_a_4, q⟩ := q
        refine x_getR hx hb hown hX M e_a_4 okX1 ra0 (by decide) rfl kw_327 dX1_tellBlame_19 (fun ra_4 => ?_)
        refine lv_aload_n hx hb dX1_tellBlame_22 rfl (lv_at hl 0 rfl) ?_
        refine x_getI hx hb hown hX M (k := 7) okX1 ra0 (by decide) rfl kw_329 dX1_tellBlame_23 ?_
        replace q := ck_s q
        obtain ⟨hin, q⟩ := q
        refine x_aald25 hx hb hX M ra_4 (inb_in hin) dX1_tellBlame_26 (fun rf_5 => ?_)
        refine x_topo (fun o_6 e_o_6 => ?_)
        replace q := nm_s q e_o_6
        rw [← e_o_6] at rf_5
        refine x_ifnull (tgt := 42) hx hb dX1_tellBlame_27 (by decide) (fun c_13 => ?_) (fun a_7 c_13 => ?_)
        · replace q := on_n c_13 q
          exact w_X1_tellBlame_42 hx hb hml hr hlk hown hX hRf hRl (N := N) hRc hRs  _ _ _ _ _ _ _ _ _ _ _ _ M hE ra0 ra_2 ra_3 (lv_sub hl [0, 1, 2] rfl) q hc hs
        · subst c_13
          replace q := on_s rfl q
          have ra_7 := rf_5 a_7 rfl
          have hl : lv_has ls 3 [(0, .ref a0), (1, .ref a_2), (2, .ref a_3)] := hl
          refine lv_aload_n hx hb dX1_tellBlame_30 rfl (lv_at hl 0 rfl) ?_
          replace q := nn_s q
          obtain ⟨a_8, e_a_8, q⟩ := q
          refine x_getR hx hb hown hX M e_a_8 okX1 ra0 (by decide) rfl kw_328 dX1_tellBlame_31 (fun ra_8 => ?_)
          refine lv_aload_n hx hb dX1_tellBlame_34 rfl (lv_at hl 0 rfl) ?_
          refine x_getI hx hb hown hX M (k := 7) okX1 ra0 (by decide) rfl kw_329 dX1_tellBlame_35 ?_
          replace q := ck_s q
          obtain ⟨hin, q⟩ := q
          refine x_aald25 hx hb hX M ra_8 (inb_in hin) dX1_tellBlame_38 (fun rf_9 => ?_)
          refine x_topo (fun o_10 e_o_10 => ?_)
          replace q := nm_s q e_o_10
          rw [← e_o_10] at rf_9
          refine x_ifnonnull (tgt := 74) hx hb dX1_tellBlame_39 (by decide) (fun a_11 c_12 => ?_) (fun c_12 => ?_)
          · subst c_12
            replace q := on_s rfl q
            have ra_11 := rf_9 a_11 rfl
            have hl : lv_has ls 3 [(0, .ref a0), (1, .ref a_2), (2, .ref a_3)] := hl
            exact w_X1_tellBlame_74 hx hb hml hr hlk hown hX hRf hRl (N := N) hRc hRs  _ _ _ _ _ _ _ _ _ _ _ _ M hE ra0 ra_2 ra_3 (lv_sub hl [0, 1, 2] rfl) q hc hs
          · replace q := on_n c_12 q
            exact w_X1_tellBlame_42 hx hb hml hr hlk hown hX hRf hRl (N := N) hRc hRs  _ _ _ _ _ _ _ _ _ _ _ _ M hE ra0 ra_2 ra_3 (lv_sub hl [0, 1, 2] rfl) q hc hs
      · replace q := on_n c_14 q
        cases q
        have hc : cells = cT := hc
        have hs : slots = wT := hs
        subst hc
        subst hs
        exact x_vret hx hb hr hlk M hE dX1_tellBlame_17
set_option maxRecDepth 100000 in
theorem c_X1_tellBlame {l : Launch} {D : va_G} {cA : Nat → ClassId} {lo tS N : Nat} {S S1 : Hs} {g g1 : Hg} {k w : Nat} {rv : Unit} {a0 : Nat} {o1 : Option Nat} {o2 : Option Nat} (ra0 : Rf lo S a0 1) (ro1 : Ro lo S o1 0) (ro2 : Ro lo S o2 0) (q : f_X1_tellBlame N S g a0 o1 o2 = some (rv, S1, g1, k, w)) {d : Nat} (hd : 3 ≤ d) : Ctr l yX1_tellBlame cX1_tellBlame 3 none D cA lo tS [.ref a0, va_rf o1, va_rf o2] S g d none S1 g1 True k w := by
  refine x_met (by decide) (by cases o1 <;> cases o2 <;> exact Nat.le_of_ble_eq_true rfl) ?_
  intro p e s m below meth c ls hx hb hml hr hlk hown hnm hX M hl
  have hl : lv_has ls 3 [(0, .ref a0), (1, va_rf o1), (2, va_rf o2)] := by cases o1 <;> cases o2 <;> exact hl
  exact w_X1_tellBlame_0 hx hb hml hr hlk hown hX hd (Nat.mul_le_mul_left 60 hd) (N := N) (Nat.le_refl k) (Nat.le_refl w) _ _ _ _ _ _ _ _ _ _ _ _ M Ext.rf ra0 ro1 ro2 (lv_sub hl [0, 1, 2] rfl) q (Nat.zero_add k) (Nat.zero_add w)
def b_X2_copyFirst_38 (N : Nat) (S : Hs) (k38 : Hg → Nat → Nat → Int32 → Int32 → Option (Unit × Hg)) (g : Hg) (a0 : Nat) (a1 : Nat) (x2 : Int32) (x3 : Int32) : Option (Unit × Hg) :=
if (rdI g a1 3) ≤ x3 then (
some ((), g)) else (
if x2 ≤ (rdI g a0 3) then (
some ((), g)) else (
nn (rdR g a1 2) (fun a_3 =>
ck (inb x3 (hpL S a_3)) (
if x2 ≤ (rdI g a_3 x3.toNatClampNeg) then (
nm (x3 + 1) (fun x_5 =>
k38 g a0 a1 x2 x_5)) else (
nn (rdR g a0 2) (fun a_6 =>
nn (rdR g a1 2) (fun a_7 =>
ck (inb x3 (hpL S a_7)) (
ck (inb (rdI g a0 3) (hpL S a_6)) (
nm (wrI g a_6 (rdI g a0 3).toNatClampNeg (rdI g a_7 x3.toNatClampNeg)) (fun g_8 =>
nm (wrI g_8 a0 3 ((rdI g_8 a0 3) + (1 : Int32))) (fun g_9 =>
nm (x3 + 1) (fun x_10 =>
k38 g_9 a0 a1 x2 x_10))))))))))))
def n_X2_copyFirst_38 (N : Nat) (S : Hs) : Nat → Hg → Nat → Nat → Int32 → Int32 → Option (Unit × Hg)
  | 0 => fun _ _ _ _ _ => none
  | n + 1 => fun g a0 a1 x2 x3 => b_X2_copyFirst_38 N S (n_X2_copyFirst_38 N S n) g a0 a1 x2 x3
def b_X2_copyFirst_0 (N : Nat) (S : Hs) (g : Hg) (a0 : Nat) (a1 : Nat) (x2 : Int32) : Option (Unit × Hg) :=
nn (rdR g a1 0) (fun a_1 =>
nn (rdR g a0 0) (fun a_2 =>
ck (cpok (0 : Int32) (0 : Int32) x2 (hpL S a_1) (hpL S a_2)) (
nm (cpI g a_1 (0 : Int32).toNatClampNeg a_2 (0 : Int32).toNatClampNeg x2.toNatClampNeg) (fun g_3 =>
nn (rdR g_3 a1 1) (fun a_4 =>
nn (rdR g_3 a0 1) (fun a_5 =>
ck (cpok (0 : Int32) (0 : Int32) (x2 * (8 : Int32)) (hpL S a_4) (hpL S a_5)) (
nm (cpI g_3 a_4 (0 : Int32).toNatClampNeg a_5 (0 : Int32).toNatClampNeg (x2 * (8 : Int32)).toNatClampNeg) (fun g_6 =>
nm (wrI g_6 a0 3 (0 : Int32)) (fun g_7 =>
n_X2_copyFirst_38 N S N g_7 a0 a1 x2 (0 : Int32))))))))))
def f_X2_copyFirst (N : Nat) (S : Hs) (g : Hg) (a0 : Nat) (a1 : Nat) (x2 : Int32) : Option (Unit × Hg) := b_X2_copyFirst_0 N S g a0 a1 x2
set_option maxHeartbeats 4000000 in
set_option maxRecDepth 100000 in
theorem w_X2_copyFirst_38 (hx : p.tables.exec = Jvm.exec) (hb : c.code = cX2_copyFirst) (hml : c.maxLocals = 4) (hr : meth.sig.returnType = none) (hlk : meth.locks = false) (hown : s.vm.findClass RX2 = some m.cls) (hX : Kx D cA lo tS s) (hRf : 1 ≤ R.frames) (hRl : 60 ≤ R.locals) {N : Nat} {rv : Unit} {g1 : Hg} {S : Hs} {k38 : Hg → Nat → Nat → Int32 → Int32 → Option (Unit × Hg)} (hk38 : ∀ (H : Heap) (locs : List Loc) (ls : Array Slot) (g : Hg) (a0 : Nat) (a1 : Nat) (x2 : Int32) (x3 : Int32), Mm D cA lo S g s H locs → Rf lo S a0 2 → Rf lo S a1 2 → lv_has ls 4 [(0, .ref a0), (1, .ref a1), (2, .int x2), (3, .int x3)] → k38 g a0 a1 x2 x3 = some (rv, g1) → W p l e R s m args below meth c H locs 0 0 (MQ below (Qcx D cA lo S none S g1 True) args s 0 0 (fun q : Nat => lo ≤ q)) (F0 m 38 ls [])) : ∀ (H : Heap) (locs : List Loc) (ls : Array Slot) (g : Hg) (a0 : Nat) (a1 : Nat) (x2 : Int32) (x3 : Int32), Mm D cA lo S g s H locs → Rf lo S a0 2 → Rf lo S a1 2 → lv_has ls 4 [(0, .ref a0), (1, .ref a1), (2, .int x2), (3, .int x3)] → b_X2_copyFirst_38 N S k38 g a0 a1 x2 x3 = some (rv, g1) → W p l e R s m args below meth c H locs 0 0 (MQ below (Qcx D cA lo S none S g1 True) args s 0 0 (fun q : Nat => lo ≤ q)) (F0 m 38 ls []) := by
  intro H locs ls g a0 a1 x2 x3 M ra0 ra1 hl q
  unfold b_X2_copyFirst_38 at q
  refine lv_iload_n hx hb dX2_copyFirst_38 rfl (lv_at hl 3 rfl) ?_
  refine lv_aload_n hx hb dX2_copyFirst_39 rfl (lv_at hl 1 rfl) ?_
  refine x_getI hx hb hown hX M (k := 3) okX2 ra1 (by decide) rfl kw_402 dX2_copyFirst_40 ?_
  refine lv_icmp_ge (tgt := 95) hx hb dX2_copyFirst_43 (by decide) (fun c_1 => ?_) (fun c_1 => ?_)
  · replace q := if_t c_1 q
    cases q
    exact x_vret hx hb hr hlk M Ext.rf dX2_copyFirst_95
  · replace q := if_f c_1 q
    refine lv_aload_n hx hb dX2_copyFirst_46 rfl (lv_at hl 0 rfl) ?_
    refine x_getI hx hb hown hX M (k := 3) okX2 ra0 (by decide) rfl kw_402 dX2_copyFirst_47 ?_
    refine lv_iload_n hx hb dX2_copyFirst_50 rfl (lv_at hl 2 rfl) ?_
    refine lv_icmp_ge (tgt := 95) hx hb dX2_copyFirst_51 (by decide) (fun c_2 => ?_) (fun c_2 => ?_)
    · replace q := if_t c_2 q
      cases q
      exact x_vret hx hb hr hlk M Ext.rf dX2_copyFirst_95
    · replace q := if_f c_2 q
      refine lv_aload_n hx hb dX2_copyFirst_54 rfl (lv_at hl 1 rfl) ?_
      replace q := nn_s q
      obtain ⟨a_3, e_a_3, q⟩ := q
      refine x_getR hx hb hown hX M e_a_3 okX2 ra1 (by decide) rfl kw_400 dX2_copyFirst_55 (fun ra_3 => ?_)
      refine lv_iload_n hx hb dX2_copyFirst_58 rfl (lv_at hl 3 rfl) ?_
      replace q := ck_s q
      obtain ⟨hin, q⟩ := q
      refine x_iald hx hb hX M ra_3 (inb_in hin) dX2_copyFirst_59 ?_
      refine lv_iload_n hx hb dX2_copyFirst_60 rfl (lv_at hl 2 rfl) ?_
      refine lv_icmp_ge (tgt := 89) hx hb dX2_copyFirst_61 (by decide) (fun c_4 => ?_) (fun c_4 => ?_)
      · replace q := if_t c_4 q
        obtain ⟨x_5, e_x_5⟩ : ∃ y : Int32, y = x3 + 1 := ⟨_, rfl⟩
        replace q := nm_s q e_x_5
        refine lv_iinc (v := x_5) (lv' := [(3, .int x_5), (0, .ref a0), (1, .ref a1), (2, .int x2)]) hx hb dX2_copyFirst_89 hl (k := 3) rfl (by rw [e_x_5]; rfl) (by decide) rfl (fun ls hl => ?_)
        refine lv_goto (tgt := 38) hx hb dX2_copyFirst_92 (by decide) ?_
        exact hk38 _ _ _ _ _ _ _ _ M ra0 ra1 (lv_sub hl [1, 2, 3, 0] rfl) q
      · replace q := if_f c_4 q
        refine lv_aload_n hx hb dX2_copyFirst_64 rfl (lv_at hl 0 rfl) ?_
        replace q := nn_s q
        obtain ⟨a_6, e_a_6, q⟩ := q
        refine x_getR hx hb hown hX M e_a_6 okX2 ra0 (by decide) rfl kw_400 dX2_copyFirst_65 (fun ra_6 => ?_)
        refine lv_aload_n hx hb dX2_copyFirst_68 rfl (lv_at hl 0 rfl) ?_
        refine x_getI hx hb hown hX M (k := 3) okX2 ra0 (by decide) rfl kw_402 dX2_copyFirst_69 ?_
        refine lv_aload_n hx hb dX2_copyFirst_72 rfl (lv_at hl 1 rfl) ?_
        replace q := nn_s q
        obtain ⟨a_7, e_a_7, q⟩ := q
        refine x_getR hx hb hown hX M e_a_7 okX2 ra1 (by decide) rfl kw_400 dX2_copyFirst_73 (fun ra_7 => ?_)
        refine lv_iload_n hx hb dX2_copyFirst_76 rfl (lv_at hl 3 rfl) ?_
        replace q := ck_s q
        obtain ⟨hin, q⟩ := q
        refine x_iald hx hb hX M ra_7 (inb_in hin) dX2_copyFirst_77 ?_
        replace q := ck_s q
        obtain ⟨hin, q⟩ := q
        refine x_iast hx hb hX M ra_6 (inb_in hin) dX2_copyFirst_78 (fun H locs M => ?_)
        replace q := gen_g M q
        obtain ⟨g_8, -, M, q⟩ := q
        refine lv_aload_n hx hb dX2_copyFirst_79 rfl (lv_at hl 0 rfl) ?_
        refine lv_dup hx hb dX2_copyFirst_80 rfl ?_
        refine x_getI hx hb hown hX M (k := 3) okX2 ra0 (by decide) rfl kw_402 dX2_copyFirst_81 ?_
        refine lv_iconst (v := 1) hx hb dX2_copyFirst_84 (by decide) ?_
        refine lv_iadd hx hb dX2_copyFirst_85 ?_
        refine x_putI hx hb hown hX M (k := 3) okX2 ra0 (by decide) rfl (Or.inl rfl) rfl rfl kw_402 dX2_copyFirst_86 (fun H locs M => ?_)
        replace q := gen_g M q
        obtain ⟨g_9, -, M, q⟩ := q
        obtain ⟨x_10, e_x_10⟩ : ∃ y : Int32, y = x3 + 1 := ⟨_, rfl⟩
        replace q := nm_s q e_x_10
        refine lv_iinc (v := x_10) (lv' := [(3, .int x_10), (0, .ref a0), (1, .ref a1), (2, .int x2)]) hx hb dX2_copyFirst_89 hl (k := 3) rfl (by rw [e_x_10]; rfl) (by decide) rfl (fun ls hl => ?_)
        refine lv_goto (tgt := 38) hx hb dX2_copyFirst_92 (by decide) ?_
        exact hk38 _ _ _ _ _ _ _ _ M ra0 ra1 (lv_sub hl [1, 2, 3, 0] rfl) q
set_option maxRecDepth 100000 in
theorem l_X2_copyFirst_38 (hx : p.tables.exec = Jvm.exec) (hb : c.code = cX2_copyFirst) (hml : c.maxLocals = 4) (hr : meth.sig.returnType = none) (hlk : meth.locks = false) (hown : s.vm.findClass RX2 = some m.cls) (hX : Kx D cA lo tS s) (hRf : 1 ≤ R.frames) (hRl : 60 ≤ R.locals) {N : Nat} {rv : Unit} {g1 : Hg} {S : Hs} : ∀ (n : Nat), ∀ (H : Heap) (locs : List Loc) (ls : Array Slot) (g : Hg) (a0 : Nat) (a1 : Nat) (x2 : Int32) (x3 : Int32), Mm D cA lo S g s H locs → Rf lo S a0 2 → Rf lo S a1 2 → lv_has ls 4 [(0, .ref a0), (1, .ref a1), (2, .int x2), (3, .int x3)] → n_X2_copyFirst_38 N S n g a0 a1 x2 x3 = some (rv, g1) → W p l e R s m args below meth c H locs 0 0 (MQ below (Qcx D cA lo S none S g1 True) args s 0 0 (fun q : Nat => lo ≤ q)) (F0 m 38 ls []) := by
  intro n
  induction n with
  | zero =>
    intro H locs ls g a0 a1 x2 x3 M ra0 ra1 hl q
    exact absurd q (by simp [n_X2_copyFirst_38])
  | succ n ih => exact w_X2_copyFirst_38 hx hb hml hr hlk hown hX hRf hRl (N := N)  ih
set_option maxHeartbeats 4000000 in
set_option maxRecDepth 100000 in
theorem w_X2_copyFirst_0 (hx : p.tables.exec = Jvm.exec) (hb : c.code = cX2_copyFirst) (hml : c.maxLocals = 4) (hr : meth.sig.returnType = none) (hlk : meth.locks = false) (hown : s.vm.findClass RX2 = some m.cls) (hX : Kx D cA lo tS s) (hRf : 1 ≤ R.frames) (hRl : 60 ≤ R.locals) {N : Nat} {rv : Unit} {g1 : Hg} {S : Hs} : ∀ (H : Heap) (locs : List Loc) (ls : Array Slot) (g : Hg) (a0 : Nat) (a1 : Nat) (x2 : Int32), Mm D cA lo S g s H locs → Rf lo S a0 2 → Rf lo S a1 2 → lv_has ls 4 [(0, .ref a0), (1, .ref a1), (2, .int x2)] → b_X2_copyFirst_0 N S g a0 a1 x2 = some (rv, g1) → W p l e R s m args below meth c H locs 0 0 (MQ below (Qcx D cA lo S none S g1 True) args s 0 0 (fun q : Nat => lo ≤ q)) (F0 m 0 ls []) := by
  intro H locs ls g a0 a1 x2 M ra0 ra1 hl q
  unfold b_X2_copyFirst_0 at q
  refine lv_aload_n hx hb dX2_copyFirst_0 rfl (lv_at hl 1 rfl) ?_
  replace q := nn_s q
  obtain ⟨a_1, e_a_1, q⟩ := q
  refine x_getR hx hb hown hX M e_a_1 okX2 ra1 (by decide) rfl kw_397 dX2_copyFirst_1 (fun ra_1 => ?_)
  refine lv_iconst (v := 0) hx hb dX2_copyFirst_4 (by decide) ?_
  refine lv_aload_n hx hb dX2_copyFirst_5 rfl (lv_at hl 0 rfl) ?_
  replace q := nn_s q
  obtain ⟨a_2, e_a_2, q⟩ := q
  refine x_getR hx hb hown hX M e_a_2 okX2 ra0 (by decide) rfl kw_397 dX2_copyFirst_6 (fun ra_2 => ?_)
  refine lv_iconst (v := 0) hx hb dX2_copyFirst_9 (by decide) ?_
  refine lv_iload_n hx hb dX2_copyFirst_10 rfl (lv_at hl 2 rfl) ?_
  replace q := ck_s q
  obtain ⟨hz, q⟩ := q
  refine x_copyI hx hb hml hl.1 hown hX M (rest := []) kw_564 kw_an kw_as kw_ai ra_1 ra_2 hz (Nat.le_of_ble_eq_true rfl) ⟨Nat.le_trans (by omega) hRf, Nat.le_trans (by omega) hRl⟩ dX2_copyFirst_11 (fun H locs M => ?_)
  replace q := gen_g M q
  obtain ⟨g_3, -, M, q⟩ := q
  refine lv_aload_n hx hb dX2_copyFirst_14 rfl (lv_at hl 1 rfl) ?_
  replace q := nn_s q
  obtain ⟨a_4, e_a_4, q⟩ := q
  refine x_getR hx hb hown hX M e_a_4 okX2 ra1 (by decide) rfl kw_398 dX2_copyFirst_15 (fun ra_4 => ?_)
  refine lv_iconst (v := 0) hx hb dX2_copyFirst_18 (by decide) ?_
  refine lv_aload_n hx hb dX2_copyFirst_19 rfl (lv_at hl 0 rfl) ?_
  replace q := nn_s q
  obtain ⟨a_5, e_a_5, q⟩ := q
  refine x_getR hx hb hown hX M e_a_5 okX2 ra0 (by decide) rfl kw_398 dX2_copyFirst_20 (fun ra_5 => ?_)
  refine lv_iconst (v := 0) hx hb dX2_copyFirst_23 (by decide) ?_
  refine lv_iload_n hx hb dX2_copyFirst_24 rfl (lv_at hl 2 rfl) ?_
  refine lv_bipush (v := 8) hx hb dX2_copyFirst_25 (by decide) ?_
  refine lv_imul hx hb dX2_copyFirst_27 ?_
  replace q := ck_s q
  obtain ⟨hz, q⟩ := q
  refine x_copyI hx hb hml hl.1 hown hX M (rest := []) kw_564 kw_an kw_as kw_ai ra_4 ra_5 hz (Nat.le_of_ble_eq_true rfl) ⟨Nat.le_trans (by omega) hRf, Nat.le_trans (by omega) hRl⟩ dX2_copyFirst_28 (fun H locs M => ?_)
  replace q := gen_g M q
  obtain ⟨g_6, -, M, q⟩ := q
  refine lv_aload_n hx hb dX2_copyFirst_31 rfl (lv_at hl 0 rfl) ?_
  refine lv_iconst (v := 0) hx hb dX2_copyFirst_32 (by decide) ?_
  refine x_putI hx hb hown hX M (k := 3) okX2 ra0 (by decide) rfl (Or.inl rfl) rfl rfl kw_402 dX2_copyFirst_33 (fun H locs M => ?_)
  replace q := gen_g M q
  obtain ⟨g_7, -, M, q⟩ := q
  refine lv_iconst (v := 0) hx hb dX2_copyFirst_36 (by decide) ?_
  refine lv_istore_n (lv' := [(3, .int (0 : Int32)), (0, .ref a0), (1, .ref a1), (2, .int x2)]) hx hb dX2_copyFirst_37 rfl hl (by decide) rfl (fun ls hl => ?_)
  exact l_X2_copyFirst_38 hx hb hml hr hlk hown hX hRf hRl (N := N)  N _ _ _ _ _ _ _ _ M ra0 ra1 (lv_sub hl [1, 2, 3, 0] rfl) q
set_option maxRecDepth 100000 in
theorem c_X2_copyFirst {l : Launch} {D : va_G} {cA : Nat → ClassId} {lo tS N : Nat} {S : Hs} {g g1 : Hg} {rv : Unit} {a0 : Nat} {a1 : Nat} {x2 : Int32} (ra0 : Rf lo S a0 2) (ra1 : Rf lo S a1 2) (q : f_X2_copyFirst N S g a0 a1 x2 = some (rv, g1)) {d : Nat} (hd : 1 ≤ d) : Ctr l yX2_copyFirst cX2_copyFirst 4 none D cA lo tS [.ref a0, .ref a1, .int x2] S g d none S g1 True 0 0 := by
  refine x_met (by decide) (Nat.le_of_ble_eq_true rfl) ?_
  intro p e s m below meth c ls hx hb hml hr hlk hown hnm hX M hl
  exact w_X2_copyFirst_0 hx hb hml hr hlk hown hX hd (Nat.mul_le_mul_left 60 hd) (N := N) _ _ _ _ _ _ _ M ra0 ra1 (lv_sub hl [0, 1, 2] rfl) q
end W3
