section W18
variable {p : Program} {l : Launch} {e : Env} {R : Room} {s : State} {m : MethodId} {args : Array Value} {below : List Frame} {meth : Method} {c : Code} {D : va_G} {cA : Nat → ClassId} {lo tS : Nat}
def b_X12_keep_0 (N : Nat) (S : Hs) (g : Hg) (a0 : Nat) (x1 : Int32) (x2 : Int32) : Option (Int32 × Hg) :=
c2 (f_X12_isLog N S g a0 x1) (fun x_2 g_1 =>
if x_2 = 0 then (
some ((0 : Int32), g_1)) else (
if x2 < 0 then (
some ((0 : Int32), g_1)) else (
c2 (f_X12_many N S g_1 a0 x1) (fun x_6 g_5 =>
if x_6 ≤ x2 then (
some ((0 : Int32), g_5)) else (
nn (rdR g_5 a0 4) (fun a_8 =>
ck (inb (((400 : Int32) * x1) + x2) (hpL S a_8)) (
if (rdI g_5 a_8 (((400 : Int32) * x1) + x2).toNatClampNeg) = 0 then (
nn (rdR g_5 a0 5) (fun a_10 =>
ck (inb (((400 : Int32) * x1) + x2) (hpL S a_10)) (
nm (wrI g_5 a_10 (((400 : Int32) * x1) + x2).toNatClampNeg (1 : Int32)) (fun g_11 =>
some ((1 : Int32), g_11))))) else (
some ((0 : Int32), g_5)))))))))
def f_X12_keep (N : Nat) (S : Hs) (g : Hg) (a0 : Nat) (x1 : Int32) (x2 : Int32) : Option (Int32 × Hg) := b_X12_keep_0 N S g a0 x1 x2
set_option maxHeartbeats 4000000 in
set_option maxRecDepth 100000 in
theorem w_X12_keep_0 (hx : p.tables.exec = Jvm.exec) (hb : c.code = cX12_keep) (hml : c.maxLocals = 3) (hr : meth.sig.returnType = (some .boolean)) (hlk : meth.locks = false) (hown : s.vm.findClass RX12 = some m.cls) (hX : Kx D cA lo tS s) (hRf : 2 ≤ R.frames) (hRl : 120 ≤ R.locals) {N : Nat} {rv : Int32} {g1 : Hg} {S : Hs} : ∀ (H : Heap) (locs : List Loc) (ls : Array Slot) (g : Hg) (a0 : Nat) (x1 : Int32) (x2 : Int32), Mm D cA lo S g s H locs → Rf lo S a0 12 → lv_has ls 3 [(0, .ref a0), (1, .int x1), (2, .int x2)] → b_X12_keep_0 N S g a0 x1 x2 = some (rv, g1) → W p l e R s m args below meth c H locs 0 0 (MQ below (Qcx D cA lo S (some (.int rv)) S g1 True) args s 0 0 (fun q : Nat => lo ≤ q)) (F0 m 0 ls []) := by
  intro H locs ls g a0 x1 x2 M ra0 hl q
  unfold b_X12_keep_0 at q
  refine lv_aload_n hx hb dX12_keep_0 rfl (lv_at hl 0 rfl) ?_
  refine lv_iload_n hx hb dX12_keep_1 rfl (lv_at hl 1 rfl) ?_
  replace q := c2_s q
  obtain ⟨x_2, g_1, qc, q⟩ := q
  refine x_callV hx hb hml hl.1 hown hX M (S1 := S) (As := [.int x1]) (rest := []) okX12 ra0 rfl kw_1221 kw_14 mok_X12_isLog (c_X12_isLog ra0 qc (Nat.le_refl 1)) kw_1219 rfl rfl dX12_keep_2 (Nat.le_of_ble_eq_true rfl) ⟨Nat.le_trans (by decide) hRf, Nat.le_trans (by decide) hRl⟩ (Nat.zero_le _) (Nat.zero_le _) (fun H locs M hEF => ?_)
  refine lv_if_eq (tgt := 36) hx hb dX12_keep_5 (by decide) (fun c_3 => ?_) (fun c_3 => ?_)
  · replace q := if_t c_3 q
    refine lv_iconst (v := 0) hx hb dX12_keep_36 (by decide) ?_
    cases q
    exact x_zret hx hb hr hlk rfl M Ext.rf dX12_keep_37
  · replace q := if_f c_3 q
    refine lv_iload_n hx hb dX12_keep_8 rfl (lv_at hl 2 rfl) ?_
    refine lv_if_lt (tgt := 36) hx hb dX12_keep_9 (by decide) (fun c_4 => ?_) (fun c_4 => ?_)
    · replace q := if_t c_4 q
      refine lv_iconst (v := 0) hx hb dX12_keep_36 (by decide) ?_
      cases q
      exact x_zret hx hb hr hlk rfl M Ext.rf dX12_keep_37
    · replace q := if_f c_4 q
      refine lv_iload_n hx hb dX12_keep_12 rfl (lv_at hl 2 rfl) ?_
      refine lv_aload_n hx hb dX12_keep_13 rfl (lv_at hl 0 rfl) ?_
      refine lv_iload_n hx hb dX12_keep_14 rfl (lv_at hl 1 rfl) ?_
      replace q := c2_s q
      obtain ⟨x_6, g_5, qc, q⟩ := q
      refine x_callV hx hb hml hl.1 hown hX M (S1 := S) (As := [.int x1]) (rest := [.int x2]) okX12 ra0 rfl kw_1225 kw_15 mok_X12_many (c_X12_many ra0 qc (Nat.le_refl 1)) kw_1223 rfl rfl dX12_keep_15 (Nat.le_of_ble_eq_true rfl) ⟨Nat.le_trans (by decide) hRf, Nat.le_trans (by decide) hRl⟩ (Nat.zero_le _) (Nat.zero_le _) (fun H locs M hEF => ?_)
      refine lv_icmp_ge (tgt := 36) hx hb dX12_keep_18 (by decide) (fun c_7 => ?_) (fun c_7 => ?_)
      · replace q := if_t c_7 q
        refine lv_iconst (v := 0) hx hb dX12_keep_36 (by decide) ?_
        cases q
        exact x_zret hx hb hr hlk rfl M Ext.rf dX12_keep_37
      · replace q := if_f c_7 q
        refine lv_aload_n hx hb dX12_keep_21 rfl (lv_at hl 0 rfl) ?_
        replace q := nn_s q
        obtain ⟨a_8, e_a_8, q⟩ := q
        refine x_getR hx hb hown hX M e_a_8 okX12 ra0 (by decide) rfl kw_1016 dX12_keep_22 (fun ra_8 => ?_)
        refine lv_sipush (v := 400) hx hb dX12_keep_25 (by decide) ?_
        refine lv_iload_n hx hb dX12_keep_28 rfl (lv_at hl 1 rfl) ?_
        refine lv_imul hx hb dX12_keep_29 ?_
        refine lv_iload_n hx hb dX12_keep_30 rfl (lv_at hl 2 rfl) ?_
        refine lv_iadd hx hb dX12_keep_31 ?_
        replace q := ck_s q
        obtain ⟨hin, q⟩ := q
        refine x_zald hx hb hX M ra_8 (inb_in hin) dX12_keep_32 ?_
        refine lv_if_eq (tgt := 38) hx hb dX12_keep_33 (by decide) (fun c_9 => ?_) (fun c_9 => ?_)
        · replace q := if_t c_9 q
          refine lv_aload_n hx hb dX12_keep_38 rfl (lv_at hl 0 rfl) ?_
          replace q := nn_s q
          obtain ⟨a_10, e_a_10, q⟩ := q
          refine x_getR hx hb hown hX M e_a_10 okX12 ra0 (by decide) rfl kw_1017 dX12_keep_39 (fun ra_10 => ?_)
          refine lv_sipush (v := 400) hx hb dX12_keep_42 (by decide) ?_
          refine lv_iload_n hx hb dX12_keep_45 rfl (lv_at hl 1 rfl) ?_
          refine lv_imul hx hb dX12_keep_46 ?_
          refine lv_iload_n hx hb dX12_keep_47 rfl (lv_at hl 2 rfl) ?_
          refine lv_iadd hx hb dX12_keep_48 ?_
          refine lv_iconst (v := 1) hx hb dX12_keep_49 (by decide) ?_
          replace q := ck_s q
          obtain ⟨hin, q⟩ := q
          refine x_zast hx hb hX M ra_10 rfl (inb_in hin) dX12_keep_50 (fun H locs M => ?_)
          replace q := gen_g M q
          obtain ⟨g_11, -, M, q⟩ := q
          refine lv_iconst (v := 1) hx hb dX12_keep_51 (by decide) ?_
          cases q
          exact x_zret hx hb hr hlk rfl M Ext.rf dX12_keep_52
        · replace q := if_f c_9 q
          refine lv_iconst (v := 0) hx hb dX12_keep_36 (by decide) ?_
          cases q
          exact x_zret hx hb hr hlk rfl M Ext.rf dX12_keep_37
set_option maxRecDepth 100000 in
theorem c_X12_keep {l : Launch} {D : va_G} {cA : Nat → ClassId} {lo tS N : Nat} {S : Hs} {g g1 : Hg} {rv : Int32} {a0 : Nat} {x1 : Int32} {x2 : Int32} (ra0 : Rf lo S a0 12) (q : f_X12_keep N S g a0 x1 x2 = some (rv, g1)) {d : Nat} (hd : 2 ≤ d) : Ctr l yX12_keep cX12_keep 3 (some .boolean) D cA lo tS [.ref a0, .int x1, .int x2] S g d (some (.int rv)) S g1 True 0 0 := by
  refine x_met (by decide) (Nat.le_of_ble_eq_true rfl) ?_
  intro p e s m below meth c ls hx hb hml hr hlk hown hnm hX M hl
  exact w_X12_keep_0 hx hb hml hr hlk hown hX hd (Nat.mul_le_mul_left 60 hd) (N := N) _ _ _ _ _ _ _ M ra0 (lv_sub hl [0, 1, 2] rfl) q
def b_X12_lag_0 (N : Nat) (S : Hs) (g : Hg) (a0 : Nat) (x1 : Int32) (x2 : Int32) : Option (Int32 × Hg) :=
c2 (f_X12_say N S g a0 x1 x2 (0 : Int32)) (fun x_2 g_1 =>
ck (zb x_2) (
some (x_2, g_1)))
def f_X12_lag (N : Nat) (S : Hs) (g : Hg) (a0 : Nat) (x1 : Int32) (x2 : Int32) : Option (Int32 × Hg) := b_X12_lag_0 N S g a0 x1 x2
set_option maxHeartbeats 4000000 in
set_option maxRecDepth 100000 in
theorem w_X12_lag_0 (hx : p.tables.exec = Jvm.exec) (hb : c.code = cX12_lag) (hml : c.maxLocals = 3) (hr : meth.sig.returnType = (some .boolean)) (hlk : meth.locks = false) (hown : s.vm.findClass RX12 = some m.cls) (hX : Kx D cA lo tS s) (hRf : 3 ≤ R.frames) (hRl : 180 ≤ R.locals) {N : Nat} {rv : Int32} {g1 : Hg} {S : Hs} : ∀ (H : Heap) (locs : List Loc) (ls : Array Slot) (g : Hg) (a0 : Nat) (x1 : Int32) (x2 : Int32), Mm D cA lo S g s H locs → Rf lo S a0 12 → lv_has ls 3 [(0, .ref a0), (1, .int x1), (2, .int x2)] → b_X12_lag_0 N S g a0 x1 x2 = some (rv, g1) → W p l e R s m args below meth c H locs 0 0 (MQ below (Qcx D cA lo S (some (.int rv)) S g1 True) args s 0 0 (fun q : Nat => lo ≤ q)) (F0 m 0 ls []) := by
  intro H locs ls g a0 x1 x2 M ra0 hl q
  unfold b_X12_lag_0 at q
  refine lv_aload_n hx hb dX12_lag_0 rfl (lv_at hl 0 rfl) ?_
  refine lv_iload_n hx hb dX12_lag_1 rfl (lv_at hl 1 rfl) ?_
  refine lv_iload_n hx hb dX12_lag_2 rfl (lv_at hl 2 rfl) ?_
  refine lv_iconst (v := 0) hx hb dX12_lag_3 (by decide) ?_
  replace q := c2_s q
  obtain ⟨x_2, g_1, qc, q⟩ := q
  refine x_callV hx hb hml hl.1 hown hX M (S1 := S) (As := [.int x1, .int x2, .int (0 : Int32)]) (rest := []) okX12 ra0 rfl kw_1241 kw_17 mok_X12_say (c_X12_say ra0 qc (Nat.le_refl 2)) kw_1239 rfl rfl dX12_lag_4 (Nat.le_of_ble_eq_true rfl) ⟨Nat.le_trans (by decide) hRf, Nat.le_trans (by decide) hRl⟩ (Nat.zero_le _) (Nat.zero_le _) (fun H locs M hEF => ?_)
  replace q := ck_s q
  obtain ⟨hz, q⟩ := q
  cases q
  exact x_zret hx hb hr hlk (zb_nar hz) M Ext.rf dX12_lag_7
set_option maxRecDepth 100000 in
theorem c_X12_lag {l : Launch} {D : va_G} {cA : Nat → ClassId} {lo tS N : Nat} {S : Hs} {g g1 : Hg} {rv : Int32} {a0 : Nat} {x1 : Int32} {x2 : Int32} (ra0 : Rf lo S a0 12) (q : f_X12_lag N S g a0 x1 x2 = some (rv, g1)) {d : Nat} (hd : 3 ≤ d) : Ctr l yX12_lag cX12_lag 3 (some .boolean) D cA lo tS [.ref a0, .int x1, .int x2] S g d (some (.int rv)) S g1 True 0 0 := by
  refine x_met (by decide) (Nat.le_of_ble_eq_true rfl) ?_
  intro p e s m below meth c ls hx hb hml hr hlk hown hnm hX M hl
  exact w_X12_lag_0 hx hb hml hr hlk hown hX hd (Nat.mul_le_mul_left 60 hd) (N := N) _ _ _ _ _ _ _ M ra0 (lv_sub hl [0, 1, 2] rfl) q
def b_X12_latest_17 (N : Nat) (S : Hs) (k17 : Hg → Nat → Int32 → Int32 → Int32 → Int32 → Int32 → Option (Int32 × Hg)) (g : Hg) (a0 : Nat) (x1 : Int32) (x2 : Int32) (x3 : Int32) (x4 : Int32) (x5 : Int32) : Option (Int32 × Hg) :=
if x2 ≤ x5 then (
some (x4, g)) else (
nn (rdR g a0 2) (fun a_2 =>
ck (inb (((400 : Int32) * x1) + x5) (hpL S a_2)) (
if (rdI g a_2 (((400 : Int32) * x1) + x5).toNatClampNeg) = x3 then (
c2 (f_X12_counts N S g a0 x1 x2 x5) (fun x_6 g_5 =>
if x_6 = 0 then (
nm (x5 + 1) (fun x_8 =>
k17 g_5 a0 x1 x2 x3 x4 x_8)) else (
nm (x5 + 1) (fun x_9 =>
k17 g_5 a0 x1 x2 x3 x5 x_9)))) else (
nm (x5 + 1) (fun x_4 =>
k17 g a0 x1 x2 x3 x4 x_4)))))
def n_X12_latest_17 (N : Nat) (S : Hs) : Nat → Hg → Nat → Int32 → Int32 → Int32 → Int32 → Int32 → Option (Int32 × Hg)
  | 0 => fun _ _ _ _ _ _ _ => none
  | n + 1 => fun g a0 x1 x2 x3 x4 x5 => b_X12_latest_17 N S (n_X12_latest_17 N S n) g a0 x1 x2 x3 x4 x5
def b_X12_latest_0 (N : Nat) (S : Hs) (g : Hg) (a0 : Nat) (x1 : Int32) (x2 : Int32) (x3 : Int32) : Option (Int32 × Hg) :=
c2 (f_X12_isCount N S g a0 x1 x2) (fun x_2 g_1 =>
if x_2 = 0 then (
some ((-1 : Int32), g_1)) else (
n_X12_latest_17 N S N g_1 a0 x1 x2 x3 (-1 : Int32) (0 : Int32)))
def f_X12_latest (N : Nat) (S : Hs) (g : Hg) (a0 : Nat) (x1 : Int32) (x2 : Int32) (x3 : Int32) : Option (Int32 × Hg) := b_X12_latest_0 N S g a0 x1 x2 x3
set_option maxHeartbeats 4000000 in
set_option maxRecDepth 100000 in
theorem w_X12_latest_17 (hx : p.tables.exec = Jvm.exec) (hb : c.code = cX12_latest) (hml : c.maxLocals = 6) (hr : meth.sig.returnType = (some .int)) (hlk : meth.locks = false) (hown : s.vm.findClass RX12 = some m.cls) (hX : Kx D cA lo tS s) (hRf : 3 ≤ R.frames) (hRl : 180 ≤ R.locals) {N : Nat} {rv : Int32} {g1 : Hg} {S : Hs} {k17 : Hg → Nat → Int32 → Int32 → Int32 → Int32 → Int32 → Option (Int32 × Hg)} (hk17 : ∀ (H : Heap) (locs : List Loc) (ls : Array Slot) (g : Hg) (a0 : Nat) (x1 : Int32) (x2 : Int32) (x3 : Int32) (x4 : Int32) (x5 : Int32), Mm D cA lo S g s H locs → Rf lo S a0 12 → lv_has ls 6 [(0, .ref a0), (1, .int x1), (2, .int x2), (3, .int x3), (4, .int x4), (5, .int x5)] → k17 g a0 x1 x2 x3 x4 x5 = some (rv, g1) → W p l e R s m args below meth c H locs 0 0 (MQ below (Qcx D cA lo S (some (.int rv)) S g1 True) args s 0 0 (fun q : Nat => lo ≤ q)) (F0 m 17 ls [])) : ∀ (H : Heap) (locs : List Loc) (ls : Array Slot) (g : Hg) (a0 : Nat) (x1 : Int32) (x2 : Int32) (x3 : Int32) (x4 : Int32) (x5 : Int32), Mm D cA lo S g s H locs → Rf lo S a0 12 → lv_has ls 6 [(0, .ref a0), (1, .int x1), (2, .int x2), (3, .int x3), (4, .int x4), (5, .int x5)] → b_X12_latest_17 N S k17 g a0 x1 x2 x3 x4 x5 = some (rv, g1) → W p l e R s m args below meth c H locs 0 0 (MQ below (Qcx D cA lo S (some (.int rv)) S g1 True) args s 0 0 (fun q : Nat => lo ≤ q)) (F0 m 17 ls []) := by
  intro H locs ls g a0 x1 x2 x3 x4 x5 M ra0 hl q
  unfold b_X12_latest_17 at q
  refine lv_iload hx hb dX12_latest_17 (lv_at hl 5 rfl) ?_
  refine lv_iload_n hx hb dX12_latest_19 rfl (lv_at hl 2 rfl) ?_
  refine lv_icmp_ge (tgt := 61) hx hb dX12_latest_20 (by decide) (fun c_1 => ?_) (fun c_1 => ?_)
  · replace q := if_t c_1 q
    refine lv_iload hx hb dX12_latest_61 (lv_at hl 4 rfl) ?_
    cases q
    exact x_iret hx hb hr hlk M Ext.rf dX12_latest_63
  · replace q := if_f c_1 q
    refine lv_aload_n hx hb dX12_latest_23 rfl (lv_at hl 0 rfl) ?_
    replace q := nn_s q
    obtain ⟨a_2, e_a_2, q⟩ := q
    refine x_getR hx hb hown hX M e_a_2 okX12 ra0 (by decide) rfl kw_1014 dX12_latest_24 (fun ra_2 => ?_)
    refine lv_sipush (v := 400) hx hb dX12_latest_27 (by decide) ?_
    refine lv_iload_n hx hb dX12_latest_30 rfl (lv_at hl 1 rfl) ?_
    refine lv_imul hx hb dX12_latest_31 ?_
    refine lv_iload hx hb dX12_latest_32 (lv_at hl 5 rfl) ?_
    refine lv_iadd hx hb dX12_latest_34 ?_
    replace q := ck_s q
    obtain ⟨hin, q⟩ := q
    refine x_iald hx hb hX M ra_2 (inb_in hin) dX12_latest_35 ?_
    refine lv_iload_n hx hb dX12_latest_36 rfl (lv_at hl 3 rfl) ?_
    refine lv_icmp_ne (tgt := 55) hx hb dX12_latest_37 (by decide) (fun c_3 => ?_) (fun c_3 => ?_)
    · replace q := if_f c_3 q
      obtain ⟨x_4, e_x_4⟩ : ∃ y : Int32, y = x5 + 1 := ⟨_, rfl⟩
      replace q := nm_s q e_x_4
      refine lv_iinc (v := x_4) (lv' := [(5, .int x_4), (0, .ref a0), (1, .int x1), (2, .int x2), (3, .int x3), (4, .int x4)]) hx hb dX12_latest_55 hl (k := 5) rfl (by rw [e_x_4]; rfl) (by decide) rfl (fun ls hl => ?_)
      refine lv_goto (tgt := 17) hx hb dX12_latest_58 (by decide) ?_
      exact hk17 _ _ _ _ _ _ _ _ _ _ M ra0 (lv_sub hl [1, 2, 3, 4, 5, 0] rfl) q
    · replace q := if_t c_3 q
      refine lv_aload_n hx hb dX12_latest_40 rfl (lv_at hl 0 rfl) ?_
      refine lv_iload_n hx hb dX12_latest_41 rfl (lv_at hl 1 rfl) ?_
      refine lv_iload_n hx hb dX12_latest_42 rfl (lv_at hl 2 rfl) ?_
      refine lv_iload hx hb dX12_latest_43 (lv_at hl 5 rfl) ?_
      replace q := c2_s q
      obtain ⟨x_6, g_5, qc, q⟩ := q
      refine x_callV hx hb hml hl.1 hown hX M (S1 := S) (As := [.int x1, .int x2, .int x5]) (rest := []) okX12 ra0 rfl kw_1269 kw_20 mok_X12_counts (c_X12_counts ra0 qc (Nat.le_refl 2)) kw_1267 rfl rfl dX12_latest_45 (Nat.le_of_ble_eq_true rfl) ⟨Nat.le_trans (by decide) hRf, Nat.le_trans (by decide) hRl⟩ (Nat.zero_le _) (Nat.zero_le _) (fun H locs M hEF => ?_)
      refine lv_if_eq (tgt := 55) hx hb dX12_latest_48 (by decide) (fun c_7 => ?_) (fun c_7 => ?_)
      · replace q := if_t c_7 q
        obtain ⟨x_8, e_x_8⟩ : ∃ y : Int32, y = x5 + 1 := ⟨_, rfl⟩
        replace q := nm_s q e_x_8
        refine lv_iinc (v := x_8) (lv' := [(5, .int x_8), (0, .ref a0), (1, .int x1), (2, .int x2), (3, .int x3), (4, .int x4)]) hx hb dX12_latest_55 hl (k := 5) rfl (by rw [e_x_8]; rfl) (by decide) rfl (fun ls hl => ?_)
        refine lv_goto (tgt := 17) hx hb dX12_latest_58 (by decide) ?_
        exact hk17 _ _ _ _ _ _ _ _ _ _ M ra0 (lv_sub hl [1, 2, 3, 4, 5, 0] rfl) q
      · replace q := if_f c_7 q
        refine lv_iload hx hb dX12_latest_51 (lv_at hl 5 rfl) ?_
        refine lv_istore (lv' := [(4, .int x5), (0, .ref a0), (1, .int x1), (2, .int x2), (3, .int x3), (5, .int x5)]) hx hb dX12_latest_53 hl (by decide) rfl (fun ls hl => ?_)
        obtain ⟨x_9, e_x_9⟩ : ∃ y : Int32, y = x5 + 1 := ⟨_, rfl⟩
        replace q := nm_s q e_x_9
        refine lv_iinc (v := x_9) (lv' := [(5, .int x_9), (4, .int x5), (0, .ref a0), (1, .int x1), (2, .int x2), (3, .int x3)]) hx hb dX12_latest_55 hl (k := 5) rfl (by rw [e_x_9]; rfl) (by decide) rfl (fun ls hl => ?_)
        refine lv_goto (tgt := 17) hx hb dX12_latest_58 (by decide) ?_
        exact hk17 _ _ _ _ _ _ _ _ _ _ M ra0 (lv_sub hl [2, 3, 4, 5, 1, 0] rfl) q
set_option maxRecDepth 100000 in
theorem l_X12_latest_17 (hx : p.tables.exec = Jvm.exec) (hb : c.code = cX12_latest) (hml : c.maxLocals = 6) (hr : meth.sig.returnType = (some .int)) (hlk : meth.locks = false) (hown : s.vm.findClass RX12 = some m.cls) (hX : Kx D cA lo tS s) (hRf : 3 ≤ R.frames) (hRl : 180 ≤ R.locals) {N : Nat} {rv : Int32} {g1 : Hg} {S : Hs} : ∀ (n : Nat), ∀ (H : Heap) (locs : List Loc) (ls : Array Slot) (g : Hg) (a0 : Nat) (x1 : Int32) (x2 : Int32) (x3 : Int32) (x4 : Int32) (x5 : Int32), Mm D cA lo S g s H locs → Rf lo S a0 12 → lv_has ls 6 [(0, .ref a0), (1, .int x1), (2, .int x2), (3, .int x3), (4, .int x4), (5, .int x5)] → n_X12_latest_17 N S n g a0 x1 x2 x3 x4 x5 = some (rv, g1) → W p l e R s m args below meth c H locs 0 0 (MQ below (Qcx D cA lo S (some (.int rv)) S g1 True) args s 0 0 (fun q : Nat => lo ≤ q)) (F0 m 17 ls []) := by
  intro n
  induction n with
  | zero =>
    intro H locs ls g a0 x1 x2 x3 x4 x5 M ra0 hl q
    exact absurd q (by simp [n_X12_latest_17])
  | succ n ih => exact w_X12_latest_17 hx hb hml hr hlk hown hX hRf hRl (N := N)  ih
set_option maxHeartbeats 4000000 in
set_option maxRecDepth 100000 in
theorem w_X12_latest_0 (hx : p.tables.exec = Jvm.exec) (hb : c.code = cX12_latest) (hml : c.maxLocals = 6) (hr : meth.sig.returnType = (some .int)) (hlk : meth.locks = false) (hown : s.vm.findClass RX12 = some m.cls) (hX : Kx D cA lo tS s) (hRf : 3 ≤ R.frames) (hRl : 180 ≤ R.locals) {N : Nat} {rv : Int32} {g1 : Hg} {S : Hs} : ∀ (H : Heap) (locs : List Loc) (ls : Array Slot) (g : Hg) (a0 : Nat) (x1 : Int32) (x2 : Int32) (x3 : Int32), Mm D cA lo S g s H locs → Rf lo S a0 12 → lv_has ls 6 [(0, .ref a0), (1, .int x1), (2, .int x2), (3, .int x3)] → b_X12_latest_0 N S g a0 x1 x2 x3 = some (rv, g1) → W p l e R s m args below meth c H locs 0 0 (MQ below (Qcx D cA lo S (some (.int rv)) S g1 True) args s 0 0 (fun q : Nat => lo ≤ q)) (F0 m 0 ls []) := by
  intro H locs ls g a0 x1 x2 x3 M ra0 hl q
  unfold b_X12_latest_0 at q
  refine lv_aload_n hx hb dX12_latest_0 rfl (lv_at hl 0 rfl) ?_
  refine lv_iload_n hx hb dX12_latest_1 rfl (lv_at hl 1 rfl) ?_
  refine lv_iload_n hx hb dX12_latest_2 rfl (lv_at hl 2 rfl) ?_
  replace q := c2_s q
  obtain ⟨x_2, g_1, qc, q⟩ := q
  refine x_callV hx hb hml hl.1 hown hX M (S1 := S) (As := [.int x1, .int x2]) (rest := []) okX12 ra0 rfl kw_1233 kw_16 mok_X12_isCount (c_X12_isCount ra0 qc (Nat.le_refl 2)) kw_1231 rfl rfl dX12_latest_3 (Nat.le_of_ble_eq_true rfl) ⟨Nat.le_trans (by decide) hRf, Nat.le_trans (by decide) hRl⟩ (Nat.zero_le _) (Nat.zero_le _) (fun H locs M hEF => ?_)
  refine lv_if_ne (tgt := 11) hx hb dX12_latest_6 (by decide) (fun c_3 => ?_) (fun c_3 => ?_)
  · replace q := if_f c_3 q
    refine lv_iconst (v := -1) hx hb dX12_latest_11 (by decide) ?_
    refine lv_istore (lv' := [(4, .int (-1 : Int32)), (0, .ref a0), (1, .int x1), (2, .int x2), (3, .int x3)]) hx hb dX12_latest_12 hl (by decide) rfl (fun ls hl => ?_)
    refine lv_iconst (v := 0) hx hb dX12_latest_14 (by decide) ?_
    refine lv_istore (lv' := [(5, .int (0 : Int32)), (4, .int (-1 : Int32)), (0, .ref a0), (1, .int x1), (2, .int x2), (3, .int x3)]) hx hb dX12_latest_15 hl (by decide) rfl (fun ls hl => ?_)
    exact l_X12_latest_17 hx hb hml hr hlk hown hX hRf hRl (N := N)  N _ _ _ _ _ _ _ _ _ _ M ra0 (lv_sub hl [2, 3, 4, 5, 1, 0] rfl) q
  · replace q := if_t c_3 q
    refine lv_iconst (v := -1) hx hb dX12_latest_9 (by decide) ?_
    cases q
    exact x_iret hx hb hr hlk M Ext.rf dX12_latest_10
set_option maxRecDepth 100000 in
theorem c_X12_latest {l : Launch} {D : va_G} {cA : Nat → ClassId} {lo tS N : Nat} {S : Hs} {g g1 : Hg} {rv : Int32} {a0 : Nat} {x1 : Int32} {x2 : Int32} {x3 : Int32} (ra0 : Rf lo S a0 12) (q : f_X12_latest N S g a0 x1 x2 x3 = some (rv, g1)) {d : Nat} (hd : 3 ≤ d) : Ctr l yX12_latest cX12_latest 6 (some .int) D cA lo tS [.ref a0, .int x1, .int x2, .int x3] S g d (some (.int rv)) S g1 True 0 0 := by
  refine x_met (by decide) (Nat.le_of_ble_eq_true rfl) ?_
  intro p e s m below meth c ls hx hb hml hr hlk hown hnm hX M hl
  exact w_X12_latest_0 hx hb hml hr hlk hown hX hd (Nat.mul_le_mul_left 60 hd) (N := N) _ _ _ _ _ _ _ _ M ra0 (lv_sub hl [0, 1, 2, 3] rfl) q
def b_X12_open_0 (N : Nat) (S : Hs) (g : Hg) (a0 : Nat) (x1 : Int32) : Option (Int32 × Hg) :=
if x1 < 0 then (
some ((-1 : Int32), g)) else (
if (3 : Int32) < x1 then (
some ((-1 : Int32), g)) else (
if (rdI g a0 1) = (6 : Int32) then (
some ((-1 : Int32), g)) else (
nn (rdR g a0 0) (fun a_4 =>
ck (inb ((4 : Int32) * (rdI g a0 1)) (hpL S a_4)) (
nm (wrI g a_4 ((4 : Int32) * (rdI g a0 1)).toNatClampNeg x1) (fun g_5 =>
nn (rdR g_5 a0 0) (fun a_6 =>
ck (inb (((4 : Int32) * (rdI g_5 a0 1)) + (1 : Int32)) (hpL S a_6)) (
nm (wrI g_5 a_6 (((4 : Int32) * (rdI g_5 a0 1)) + (1 : Int32)).toNatClampNeg (0 : Int32)) (fun g_7 =>
nn (rdR g_7 a0 0) (fun a_8 =>
ck (inb (((4 : Int32) * (rdI g_7 a0 1)) + (2 : Int32)) (hpL S a_8)) (
nm (wrI g_7 a_8 (((4 : Int32) * (rdI g_7 a0 1)) + (2 : Int32)).toNatClampNeg (0 : Int32)) (fun g_9 =>
nn (rdR g_9 a0 0) (fun a_10 =>
ck (inb (((4 : Int32) * (rdI g_9 a0 1)) + (3 : Int32)) (hpL S a_10)) (
nm (wrI g_9 a_10 (((4 : Int32) * (rdI g_9 a0 1)) + (3 : Int32)).toNatClampNeg (0 : Int32)) (fun g_11 =>
nm (wrI g_11 a0 1 ((rdI g_11 a0 1) + (1 : Int32))) (fun g_12 =>
some (((rdI g_12 a0 1) - (1 : Int32)), g_12)))))))))))))))))
def f_X12_open (N : Nat) (S : Hs) (g : Hg) (a0 : Nat) (x1 : Int32) : Option (Int32 × Hg) := b_X12_open_0 N S g a0 x1
set_option maxHeartbeats 4000000 in
set_option maxRecDepth 100000 in
theorem w_X12_open_0 (hx : p.tables.exec = Jvm.exec) (hb : c.code = cX12_open) (hml : c.maxLocals = 2) (hr : meth.sig.returnType = (some .int)) (hlk : meth.locks = false) (hown : s.vm.findClass RX12 = some m.cls) (hX : Kx D cA lo tS s) (hRf : 1 ≤ R.frames) (hRl : 60 ≤ R.locals) {N : Nat} {rv : Int32} {g1 : Hg} {S : Hs} : ∀ (H : Heap) (locs : List Loc) (ls : Array Slot) (g : Hg) (a0 : Nat) (x1 : Int32), Mm D cA lo S g s H locs → Rf lo S a0 12 → lv_has ls 2 [(0, .ref a0), (1, .int x1)] → b_X12_open_0 N S g a0 x1 = some (rv, g1) → W p l e R s m args below meth c H locs 0 0 (MQ below (Qcx D cA lo S (some (.int rv)) S g1 True) args s 0 0 (fun q : Nat => lo ≤ q)) (F0 m 0 ls []) := by
  intro H locs ls g a0 x1 M ra0 hl q
  unfold b_X12_open_0 at q
  refine lv_iload_n hx hb dX12_open_0 rfl (lv_at hl 1 rfl) ?_
  refine lv_if_lt (tgt := 18) hx hb dX12_open_1 (by decide) (fun c_1 => ?_) (fun c_1 => ?_)
  · replace q := if_t c_1 q
    refine lv_iconst (v := -1) hx hb dX12_open_18 (by decide) ?_
    cases q
    exact x_iret hx hb hr hlk M Ext.rf dX12_open_19
  · replace q := if_f c_1 q
    refine lv_iload_n hx hb dX12_open_4 rfl (lv_at hl 1 rfl) ?_
    refine lv_iconst (v := 3) hx hb dX12_open_5 (by decide) ?_
    refine lv_icmp_gt (tgt := 18) hx hb dX12_open_6 (by decide) (fun c_2 => ?_) (fun c_2 => ?_)
    · replace q := if_t c_2 q
      refine lv_iconst (v := -1) hx hb dX12_open_18 (by decide) ?_
      cases q
      exact x_iret hx hb hr hlk M Ext.rf dX12_open_19
    · replace q := if_f c_2 q
      refine lv_aload_n hx hb dX12_open_9 rfl (lv_at hl 0 rfl) ?_
      refine x_getI hx hb hown hX M (k := 1) okX12 ra0 (by decide) rfl kw_1013 dX12_open_10 ?_
      refine lv_bipush (v := 6) hx hb dX12_open_13 (by decide) ?_
      refine lv_icmp_ne (tgt := 20) hx hb dX12_open_15 (by decide) (fun c_3 => ?_) (fun c_3 => ?_)
      · replace q := if_f c_3 q
        refine lv_aload_n hx hb dX12_open_20 rfl (lv_at hl 0 rfl) ?_
        replace q := nn_s q
        obtain ⟨a_4, e_a_4, q⟩ := q
        refine x_getR hx hb hown hX M e_a_4 okX12 ra0 (by decide) rfl kw_1012 dX12_open_21 (fun ra_4 => ?_)
        refine lv_iconst (v := 4) hx hb dX12_open_24 (by decide) ?_
        refine lv_aload_n hx hb dX12_open_25 rfl (lv_at hl 0 rfl) ?_
        refine x_getI hx hb hown hX M (k := 1) okX12 ra0 (by decide) rfl kw_1013 dX12_open_26 ?_
        refine lv_imul hx hb dX12_open_29 ?_
        refine lv_iload_n hx hb dX12_open_30 rfl (lv_at hl 1 rfl) ?_
        replace q := ck_s q
        obtain ⟨hin, q⟩ := q
        refine x_iast hx hb hX M ra_4 (inb_in hin) dX12_open_31 (fun H locs M => ?_)
        replace q := gen_g M q
        obtain ⟨g_5, -, M, q⟩ := q
        refine lv_aload_n hx hb dX12_open_32 rfl (lv_at hl 0 rfl) ?_
        replace q := nn_s q
        obtain ⟨a_6, e_a_6, q⟩ := q
        refine x_getR hx hb hown hX M e_a_6 okX12 ra0 (by decide) rfl kw_1012 dX12_open_33 (fun ra_6 => ?_)
        refine lv_iconst (v := 4) hx hb dX12_open_36 (by decide) ?_
        refine lv_aload_n hx hb dX12_open_37 rfl (lv_at hl 0 rfl) ?_
        refine x_getI hx hb hown hX M (k := 1) okX12 ra0 (by decide) rfl kw_1013 dX12_open_38 ?_
        refine lv_imul hx hb dX12_open_41 ?_
        refine lv_iconst (v := 1) hx hb dX12_open_42 (by decide) ?_
        refine lv_iadd hx hb dX12_open_43 ?_
        refine lv_iconst (v := 0) hx hb dX12_open_44 (by decide) ?_
        replace q := ck_s q
        obtain ⟨hin, q⟩ := q
        refine x_iast hx hb hX M ra_6 (inb_in hin) dX12_open_45 (fun H locs M => ?_)
        replace q := gen_g M q
        obtain ⟨g_7, -, M, q⟩ := q
        refine lv_aload_n hx hb dX12_open_46 rfl (lv_at hl 0 rfl) ?_
        replace q := nn_s q
        obtain ⟨a_8, e_a_8, q⟩ := q
        refine x_getR hx hb hown hX M e_a_8 okX12 ra0 (by decide) rfl kw_1012 dX12_open_47 (fun ra_8 => ?_)
        refine lv_iconst (v := 4) hx hb dX12_open_50 (by decide) ?_
        refine lv_aload_n hx hb dX12_open_51 rfl (lv_at hl 0 rfl) ?_
        refine x_getI hx hb hown hX M (k := 1) okX12 ra0 (by decide) rfl kw_1013 dX12_open_52 ?_
        refine lv_imul hx hb dX12_open_55 ?_
        refine lv_iconst (v := 2) hx hb dX12_open_56 (by decide) ?_
        refine lv_iadd hx hb dX12_open_57 ?_
        refine lv_iconst (v := 0) hx hb dX12_open_58 (by decide) ?_
        replace q := ck_s q
        obtain ⟨hin, q⟩ := q
        refine x_iast hx hb hX M ra_8 (inb_in hin) dX12_open_59 (fun H locs M => ?_)
        replace q := gen_g M q
        obtain ⟨g_9, -, M, q⟩ := q
        refine lv_aload_n hx hb dX12_open_60 rfl (lv_at hl 0 rfl) ?_
        replace q := nn_s q
        obtain ⟨a_10, e_a_10, q⟩ := q
        refine x_getR hx hb hown hX M e_a_10 okX12 ra0 (by decide) rfl kw_1012 dX12_open_61 (fun ra_10 => ?_)
        refine lv_iconst (v := 4) hx hb dX12_open_64 (by decide) ?_
        refine lv_aload_n hx hb dX12_open_65 rfl (lv_at hl 0 rfl) ?_
        refine x_getI hx hb hown hX M (k := 1) okX12 ra0 (by decide) rfl kw_1013 dX12_open_66 ?_
        refine lv_imul hx hb dX12_open_69 ?_
        refine lv_iconst (v := 3) hx hb dX12_open_70 (by decide) ?_
        refine lv_iadd hx hb dX12_open_71 ?_
        refine lv_iconst (v := 0) hx hb dX12_open_72 (by decide) ?_
        replace q := ck_s q
        obtain ⟨hin, q⟩ := q
        refine x_iast hx hb hX M ra_10 (inb_in hin) dX12_open_73 (fun H locs M => ?_)
        replace q := gen_g M q
        obtain ⟨g_11, -, M, q⟩ := q
        refine lv_aload_n hx hb dX12_open_74 rfl (lv_at hl 0 rfl) ?_
        refine lv_dup hx hb dX12_open_75 rfl ?_
        refine x_getI hx hb hown hX M (k := 1) okX12 ra0 (by decide) rfl kw_1013 dX12_open_76 ?_
        refine lv_iconst (v := 1) hx hb dX12_open_79 (by decide) ?_
        refine lv_iadd hx hb dX12_open_80 ?_
        refine x_putI hx hb hown hX M (k := 1) okX12 ra0 (by decide) rfl (Or.inl rfl) rfl rfl kw_1013 dX12_open_81 (fun H locs M => ?_)
        replace q := gen_g M q
        obtain ⟨g_12, -, M, q⟩ := q
        refine lv_aload_n hx hb dX12_open_84 rfl (lv_at hl 0 rfl) ?_
        refine x_getI hx hb hown hX M (k := 1) okX12 ra0 (by decide) rfl kw_1013 dX12_open_85 ?_
        refine lv_iconst (v := 1) hx hb dX12_open_88 (by decide) ?_
        refine lv_isub hx hb dX12_open_89 ?_
        cases q
        exact x_iret hx hb hr hlk M Ext.rf dX12_open_90
      · replace q := if_t c_3 q
        refine lv_iconst (v := -1) hx hb dX12_open_18 (by decide) ?_
        cases q
        exact x_iret hx hb hr hlk M Ext.rf dX12_open_19
set_option maxRecDepth 100000 in
theorem c_X12_open {l : Launch} {D : va_G} {cA : Nat → ClassId} {lo tS N : Nat} {S : Hs} {g g1 : Hg} {rv : Int32} {a0 : Nat} {x1 : Int32} (ra0 : Rf lo S a0 12) (q : f_X12_open N S g a0 x1 = some (rv, g1)) {d : Nat} (hd : 1 ≤ d) : Ctr l yX12_open cX12_open 2 (some .int) D cA lo tS [.ref a0, .int x1] S g d (some (.int rv)) S g1 True 0 0 := by
  refine x_met (by decide) (Nat.le_of_ble_eq_true rfl) ?_
  intro p e s m below meth c ls hx hb hml hr hlk hown hnm hX M hl
  exact w_X12_open_0 hx hb hml hr hlk hown hX hd (Nat.mul_le_mul_left 60 hd) (N := N) _ _ _ _ _ _ M ra0 (lv_sub hl [0, 1] rfl) q
def b_X12_proof_127 (N : Nat) (S : Hs) (g : Hg) (a0 : Nat) (x1 : Int32) : Option (Int32 × Hg) :=
nn (rdR g a0 10) (fun a_1 =>
ck (inb ((40 : Int32) * x1) (hpL S a_1)) (
some ((rdI g a_1 ((40 : Int32) * x1).toNatClampNeg), g)))
def b_X12_proof_0 (N : Nat) (S : Hs) (g : Hg) (a0 : Nat) (x1 : Int32) (x2 : Int32) : Option (Int32 × Hg) :=
c2 (f_X12_isSlot N S g a0 x1) (fun x_2 g_1 =>
if x_2 = 0 then (
some ((-1 : Int32), g_1)) else (
nn (rdR g_1 a0 9) (fun a_4 =>
ck (inb ((8 : Int32) * x1) (hpL S a_4)) (
nm (rdI g_1 a_4 ((8 : Int32) * x1).toNatClampNeg) (fun x_5 =>
nm x2 (fun x_6 =>
if x_6 = 0 then (
some (x_5, g_1)) else (
if x_6 = 1 then (
nn (rdR g_1 a0 9) (fun a_7 =>
ck (inb (((8 : Int32) * x1) + x2) (hpL S a_7)) (
some ((rdI g_1 a_7 (((8 : Int32) * x1) + x2).toNatClampNeg), g_1)))) else (
if x_6 = 2 then (
nn (rdR g_1 a0 9) (fun a_8 =>
ck (inb (((8 : Int32) * x1) + x2) (hpL S a_8)) (
some ((rdI g_1 a_8 (((8 : Int32) * x1) + x2).toNatClampNeg), g_1)))) else (
if x_6 = 3 then (
nn (rdR g_1 a0 9) (fun a_9 =>
ck (inb (((8 : Int32) * x1) + x2) (hpL S a_9)) (
some ((rdI g_1 a_9 (((8 : Int32) * x1) + x2).toNatClampNeg), g_1)))) else (
if x_6 = 4 then (
nn (rdR g_1 a0 9) (fun a_10 =>
ck (inb (((8 : Int32) * x1) + x2) (hpL S a_10)) (
some ((rdI g_1 a_10 (((8 : Int32) * x1) + x2).toNatClampNeg), g_1)))) else (
if x_6 = 5 then (
if x_5 = (1 : Int32) then (
b_X12_proof_127 N S g_1 a0 x1) else (
if x_5 = (3 : Int32) then (
b_X12_proof_127 N S g_1 a0 x1) else (
if x_5 = (4 : Int32) then (
b_X12_proof_127 N S g_1 a0 x1) else (
if x_5 = (5 : Int32) then (
nn (rdR g_1 a0 9) (fun a_15 =>
ck (inb (((8 : Int32) * x1) + (4 : Int32)) (hpL S a_15)) (
nn (rdR g_1 a0 9) (fun a_16 =>
ck (inb (((8 : Int32) * x1) + (3 : Int32)) (hpL S a_16)) (
if (rdI g_1 a_15 (((8 : Int32) * x1) + (4 : Int32)).toNatClampNeg) ≤ (rdI g_1 a_16 (((8 : Int32) * x1) + (3 : Int32)).toNatClampNeg) then (
some ((0 : Int32), g_1)) else (
b_X12_proof_127 N S g_1 a0 x1)))))) else (
some ((0 : Int32), g_1)))))) else (
if x_6 = 6 then (
nn (rdR g_1 a0 9) (fun a_18 =>
ck (inb (((8 : Int32) * x1) + (5 : Int32)) (hpL S a_18)) (
some ((rdI g_1 a_18 (((8 : Int32) * x1) + (5 : Int32)).toNatClampNeg), g_1)))) else (
if x_6 = 7 then (
nn (rdR g_1 a0 9) (fun a_19 =>
ck (inb (((8 : Int32) * x1) + (6 : Int32)) (hpL S a_19)) (
some ((rdI g_1 a_19 (((8 : Int32) * x1) + (6 : Int32)).toNatClampNeg), g_1)))) else (
some ((-1 : Int32), g_1)))))))))))))))
def f_X12_proof (N : Nat) (S : Hs) (g : Hg) (a0 : Nat) (x1 : Int32) (x2 : Int32) : Option (Int32 × Hg) := b_X12_proof_0 N S g a0 x1 x2
set_option maxHeartbeats 4000000 in
set_option maxRecDepth 100000 in
theorem w_X12_proof_127 (hx : p.tables.exec = Jvm.exec) (hb : c.code = cX12_proof) (hml : c.maxLocals = 4) (hr : meth.sig.returnType = (some .int)) (hlk : meth.locks = false) (hown : s.vm.findClass RX12 = some m.cls) (hX : Kx D cA lo tS s) (hRf : 2 ≤ R.frames) (hRl : 120 ≤ R.locals) {N : Nat} {rv : Int32} {g1 : Hg} {S : Hs} : ∀ (H : Heap) (locs : List Loc) (ls : Array Slot) (g : Hg) (a0 : Nat) (x1 : Int32), Mm D cA lo S g s H locs → Rf lo S a0 12 → lv_has ls 4 [(0, .ref a0), (1, .int x1)] → b_X12_proof_127 N S g a0 x1 = some (rv, g1) → W p l e R s m args below meth c H locs 0 0 (MQ below (Qcx D cA lo S (some (.int rv)) S g1 True) args s 0 0 (fun q : Nat => lo ≤ q)) (F0 m 127 ls []) := by
  intro H locs ls g a0 x1 M ra0 hl q
  unfold b_X12_proof_127 at q
  refine lv_aload_n hx hb dX12_proof_127 rfl (lv_at hl 0 rfl) ?_
  replace q := nn_s q
  obtain ⟨a_1, e_a_1, q⟩ := q
  refine x_getR hx hb hown hX M e_a_1 okX12 ra0 (by decide) rfl kw_1022 dX12_proof_128 (fun ra_1 => ?_)
  refine lv_bipush (v := 40) hx hb dX12_proof_131 (by decide) ?_
  refine lv_iload_n hx hb dX12_proof_133 rfl (lv_at hl 1 rfl) ?_
  refine lv_imul hx hb dX12_proof_134 ?_
  replace q := ck_s q
  obtain ⟨hin, q⟩ := q
  refine x_iald hx hb hX M ra_1 (inb_in hin) dX12_proof_135 ?_
  refine lv_goto (tgt := 140) hx hb dX12_proof_136 (by decide) ?_
  cases q
  exact x_iret hx hb hr hlk M Ext.rf dX12_proof_140
set_option maxHeartbeats 4000000 in
set_option maxRecDepth 100000 in
theorem w_X12_proof_0 (hx : p.tables.exec = Jvm.exec) (hb : c.code = cX12_proof) (hml : c.maxLocals = 4) (hr : meth.sig.returnType = (some .int)) (hlk : meth.locks = false) (hown : s.vm.findClass RX12 = some m.cls) (hX : Kx D cA lo tS s) (hRf : 2 ≤ R.frames) (hRl : 120 ≤ R.locals) {N : Nat} {rv : Int32} {g1 : Hg} {S : Hs} : ∀ (H : Heap) (locs : List Loc) (ls : Array Slot) (g : Hg) (a0 : Nat) (x1 : Int32) (x2 : Int32), Mm D cA lo S g s H locs → Rf lo S a0 12 → lv_has ls 4 [(0, .ref a0), (1, .int x1), (2, .int x2)] → b_X12_proof_0 N S g a0 x1 x2 = some (rv, g1) → W p l e R s m args below meth c H locs 0 0 (MQ below (Qcx D cA lo S (some (.int rv)) S g1 True) args s 0 0 (fun q : Nat => lo ≤ q)) (F0 m 0 ls []) := by
  intro H locs ls g a0 x1 x2 M ra0 hl q
  unfold b_X12_proof_0 at q
  refine lv_aload_n hx hb dX12_proof_0 rfl (lv_at hl 0 rfl) ?_
  refine lv_iload_n hx hb dX12_proof_1 rfl (lv_at hl 1 rfl) ?_
  replace q := c2_s q
  obtain ⟨x_2, g_1, qc, q⟩ := q
  refine x_callV hx hb hml hl.1 hown hX M (S1 := S) (As := [.int x1]) (rest := []) okX12 ra0 rfl kw_1357 kw_37 mok_X12_isSlot (c_X12_isSlot ra0 qc (Nat.le_refl 1)) kw_1355 rfl rfl dX12_proof_2 (Nat.le_of_ble_eq_true rfl) ⟨Nat.le_trans (by decide) hRf, Nat.le_trans (by decide) hRl⟩ (Nat.zero_le _) (Nat.zero_le _) (fun H locs M hEF => ?_)
  refine lv_if_ne (tgt := 10) hx hb dX12_proof_5 (by decide) (fun c_3 => ?_) (fun c_3 => ?_)
  · replace q := if_f c_3 q
    refine lv_aload_n hx hb dX12_proof_10 rfl (lv_at hl 0 rfl) ?_
    replace q := nn_s q
    obtain ⟨a_4, e_a_4, q⟩ := q
    refine x_getR hx hb hown hX M e_a_4 okX12 ra0 (by decide) rfl kw_1021 dX12_proof_11 (fun ra_4 => ?_)
    refine lv_bipush (v := 8) hx hb dX12_proof_14 (by decide) ?_
    refine lv_iload_n hx hb dX12_proof_16 rfl (lv_at hl 1 rfl) ?_
    refine lv_imul hx hb dX12_proof_17 ?_
    replace q := ck_s q
    obtain ⟨hin, q⟩ := q
    refine x_iald hx hb hX M ra_4 (inb_in hin) dX12_proof_18 ?_
    refine lv_topi (fun x_5 e_x_5 => ?_)
    replace q := nm_s q e_x_5
    refine lv_istore_n (lv' := [(3, .int x_5), (0, .ref a0), (1, .int x1), (2, .int x2)]) hx hb dX12_proof_19 rfl hl (by decide) rfl (fun ls hl => ?_)
    refine lv_iload_n hx hb dX12_proof_20 rfl (lv_at hl 3 rfl) ?_
    refine lv_topi (fun x_6 e_x_6 => ?_)
    replace q := nm_s q e_x_6
    clear e_x_6
    by_cases cx_6_0 : x_6 = 0
    · replace q := if_t cx_6_0 q
      subst cx_6_0
      refine lv_tableIn (off := 47) (tgt := 68) hx hb dX12_proof_21 (by decide) (by decide) (by decide) (by decide) ?_
      refine lv_iload_n hx hb dX12_proof_68 rfl (lv_at hl 0 rfl) ?_
      cases q
      exact x_iret hx hb hr hlk M Ext.rf dX12_proof_69
    replace q := if_f cx_6_0 q
    by_cases cx_6_1 : x_6 = 1
    · replace q := if_t cx_6_1 q
      subst cx_6_1
      refine lv_tableIn (off := 49) (tgt := 70) hx hb dX12_proof_21 (by decide) (by decide) (by decide) (by decide) ?_
      refine lv_aload_n hx hb dX12_proof_70 rfl (lv_at hl 1 rfl) ?_
      replace q := nn_s q
      obtain ⟨a_7, e_a_7, q⟩ := q
      refine x_getR hx hb hown hX M e_a_7 okX12 ra0 (by decide) rfl kw_1021 dX12_proof_71 (fun ra_7 => ?_)
      refine lv_bipush (v := 8) hx hb dX12_proof_74 (by decide) ?_
      refine lv_iload_n hx hb dX12_proof_76 rfl (lv_at hl 2 rfl) ?_
      refine lv_imul hx hb dX12_proof_77 ?_
      refine lv_iload_n hx hb dX12_proof_78 rfl (lv_at hl 3 rfl) ?_
      refine lv_iadd hx hb dX12_proof_79 ?_
      replace q := ck_s q
      obtain ⟨hin, q⟩ := q
      refine x_iald hx hb hX M ra_7 (inb_in hin) dX12_proof_80 ?_
      cases q
      exact x_iret hx hb hr hlk M Ext.rf dX12_proof_81
    replace q := if_f cx_6_1 q
    by_cases cx_6_2 : x_6 = 2
    · replace q := if_t cx_6_2 q
      subst cx_6_2
      refine lv_tableIn (off := 49) (tgt := 70) hx hb dX12_proof_21 (by decide) (by decide) (by decide) (by decide) ?_
      refine lv_aload_n hx hb dX12_proof_70 rfl (lv_at hl 1 rfl) ?_
      replace q := nn_s q
      obtain ⟨a_8, e_a_8, q⟩ := q
      refine x_getR hx hb hown hX M e_a_8 okX12 ra0 (by decide) rfl kw_1021 dX12_proof_71 (fun ra_8 => ?_)
      refine lv_bipush (v := 8) hx hb dX12_proof_74 (by decide) ?_
      refine lv_iload_n hx hb dX12_proof_76 rfl (lv_at hl 2 rfl) ?_
      refine lv_imul hx hb dX12_proof_77 ?_
      refine lv_iload_n hx hb dX12_proof_78 rfl (lv_at hl 3 rfl) ?_
      refine lv_iadd hx hb dX12_proof_79 ?_
      replace q := ck_s q
      obtain ⟨hin, q⟩ := q
      refine x_iald hx hb hX M ra_8 (inb_in hin) dX12_proof_80 ?_
      cases q
      exact x_iret hx hb hr hlk M Ext.rf dX12_proof_81
    replace q := if_f cx_6_2 q
    by_cases cx_6_3 : x_6 = 3
    · replace q := if_t cx_6_3 q
      subst cx_6_3
      refine lv_tableIn (off := 49) (tgt := 70) hx hb dX12_proof_21 (by decide) (by decide) (by decide) (by decide) ?_
      refine lv_aload_n hx hb dX12_proof_70 rfl (lv_at hl 1 rfl) ?_
      replace q := nn_s q
      obtain ⟨a_9, e_a_9, q⟩ := q
      refine x_getR hx hb hown hX M e_a_9 okX12 ra0 (by decide) rfl kw_1021 dX12_proof_71 (fun ra_9 => ?_)
      refine lv_bipush (v := 8) hx hb dX12_proof_74 (by decide) ?_
      refine lv_iload_n hx hb dX12_proof_76 rfl (lv_at hl 2 rfl) ?_
      refine lv_imul hx hb dX12_proof_77 ?_
      refine lv_iload_n hx hb dX12_proof_78 rfl (lv_at hl 3 rfl) ?_
      refine lv_iadd hx hb dX12_proof_79 ?_
      replace q := ck_s q
      obtain ⟨hin, q⟩ := q
      refine x_iald hx hb hX M ra_9 (inb_in hin) dX12_proof_80 ?_
      cases q
      exact x_iret hx hb hr hlk M Ext.rf dX12_proof_81
    replace q := if_f cx_6_3 q
    by_cases cx_6_4 : x_6 = 4
    · replace q := if_t cx_6_4 q
      subst cx_6_4
      refine lv_tableIn (off := 49) (tgt := 70) hx hb dX12_proof_21 (by decide) (by decide) (by decide) (by decide) ?_
      refine lv_aload_n hx hb dX12_proof_70 rfl (lv_at hl 1 rfl) ?_
      replace q := nn_s q
      obtain ⟨a_10, e_a_10, q⟩ := q
      refine x_getR hx hb hown hX M e_a_10 okX12 ra0 (by decide) rfl kw_1021 dX12_proof_71 (fun ra_10 => ?_)
      refine lv_bipush (v := 8) hx hb dX12_proof_74 (by decide) ?_
      refine lv_iload_n hx hb dX12_proof_76 rfl (lv_at hl 2 rfl) ?_
      refine lv_imul hx hb dX12_proof_77 ?_
      refine lv_iload_n hx hb dX12_proof_78 rfl (lv_at hl 3 rfl) ?_
      refine lv_iadd hx hb dX12_proof_79 ?_
      replace q := ck_s q
      obtain ⟨hin, q⟩ := q
      refine x_iald hx hb hX M ra_10 (inb_in hin) dX12_proof_80 ?_
      cases q
      exact x_iret hx hb hr hlk M Ext.rf dX12_proof_81
    replace q := if_f cx_6_4 q
    by_cases cx_6_5 : x_6 = 5
    · replace q := if_t cx_6_5 q
      subst cx_6_5
      refine lv_tableIn (off := 61) (tgt := 82) hx hb dX12_proof_21 (by decide) (by decide) (by decide) (by decide) ?_
      refine lv_iload_n hx hb dX12_proof_82 rfl (lv_at hl 0 rfl) ?_
      refine lv_iconst (v := 1) hx hb dX12_proof_83 (by decide) ?_
      refine lv_icmp_eq (tgt := 127) hx hb dX12_proof_84 (by decide) (fun c_11 => ?_) (fun c_11 => ?_)
      · replace q := if_t c_11 q
        exact w_X12_proof_127 hx hb hml hr hlk hown hX hRf hRl (N := N)  _ _ _ _ _ _ M ra0 (lv_sub hl [1, 2] rfl) q
      · replace q := if_f c_11 q
        refine lv_iload_n hx hb dX12_proof_87 rfl (lv_at hl 0 rfl) ?_
        refine lv_iconst (v := 3) hx hb dX12_proof_88 (by decide) ?_
        refine lv_icmp_eq (tgt := 127) hx hb dX12_proof_89 (by decide) (fun c_12 => ?_) (fun c_12 => ?_)
        · replace q := if_t c_12 q
          exact w_X12_proof_127 hx hb hml hr hlk hown hX hRf hRl (N := N)  _ _ _ _ _ _ M ra0 (lv_sub hl [1, 2] rfl) q
        · replace q := if_f c_12 q
          refine lv_iload_n hx hb dX12_proof_92 rfl (lv_at hl 0 rfl) ?_
          refine lv_iconst (v := 4) hx hb dX12_proof_93 (by decide) ?_
          refine lv_icmp_eq (tgt := 127) hx hb dX12_proof_94 (by decide) (fun c_13 => ?_) (fun c_13 => ?_)
          · replace q := if_t c_13 q
            exact w_X12_proof_127 hx hb hml hr hlk hown hX hRf hRl (N := N)  _ _ _ _ _ _ M ra0 (lv_sub hl [1, 2] rfl) q
          · replace q := if_f c_13 q
            refine lv_iload_n hx hb dX12_proof_97 rfl (lv_at hl 0 rfl) ?_
            refine lv_iconst (v := 5) hx hb dX12_proof_98 (by decide) ?_
            refine lv_icmp_ne (tgt := 139) hx hb dX12_proof_99 (by decide) (fun c_14 => ?_) (fun c_14 => ?_)
            · replace q := if_f c_14 q
              refine lv_iconst (v := 0) hx hb dX12_proof_139 (by decide) ?_
              cases q
              exact x_iret hx hb hr hlk M Ext.rf dX12_proof_140
            · replace q := if_t c_14 q
              refine lv_aload_n hx hb dX12_proof_102 rfl (lv_at hl 1 rfl) ?_
              replace q := nn_s q
              obtain ⟨a_15, e_a_15, q⟩ := q
              refine x_getR hx hb hown hX M e_a_15 okX12 ra0 (by decide) rfl kw_1021 dX12_proof_103 (fun ra_15 => ?_)
              refine lv_bipush (v := 8) hx hb dX12_proof_106 (by decide) ?_
              refine lv_iload_n hx hb dX12_proof_108 rfl (lv_at hl 2 rfl) ?_
              refine lv_imul hx hb dX12_proof_109 ?_
              refine lv_iconst (v := 4) hx hb dX12_proof_110 (by decide) ?_
              refine lv_iadd hx hb dX12_proof_111 ?_
              replace q := ck_s q
              obtain ⟨hin, q⟩ := q
              refine x_iald hx hb hX M ra_15 (inb_in hin) dX12_proof_112 ?_
              refine lv_aload_n hx hb dX12_proof_113 rfl (lv_at hl 1 rfl) ?_
              replace q := nn_s q
              obtain ⟨a_16, e_a_16, q⟩ := q
              refine x_getR hx hb hown hX M e_a_16 okX12 ra0 (by decide) rfl kw_1021 dX12_proof_114 (fun ra_16 => ?_)
              refine lv_bipush (v := 8) hx hb dX12_proof_117 (by decide) ?_
              refine lv_iload_n hx hb dX12_proof_119 rfl (lv_at hl 2 rfl) ?_
              refine lv_imul hx hb dX12_proof_120 ?_
              refine lv_iconst (v := 3) hx hb dX12_proof_121 (by decide) ?_
              refine lv_iadd hx hb dX12_proof_122 ?_
              replace q := ck_s q
              obtain ⟨hin, q⟩ := q
              refine x_iald hx hb hX M ra_16 (inb_in hin) dX12_proof_123 ?_
              refine lv_icmp_le (tgt := 139) hx hb dX12_proof_124 (by decide) (fun c_17 => ?_) (fun c_17 => ?_)
              · replace q := if_t c_17 q
                refine lv_iconst (v := 0) hx hb dX12_proof_139 (by decide) ?_
                cases q
                exact x_iret hx hb hr hlk M Ext.rf dX12_proof_140
              · replace q := if_f c_17 q
                exact w_X12_proof_127 hx hb hml hr hlk hown hX hRf hRl (N := N)  _ _ _ _ _ _ M ra0 (lv_sub hl [1, 2] rfl) q
    replace q := if_f cx_6_5 q
    by_cases cx_6_6 : x_6 = 6
    · replace q := if_t cx_6_6 q
      subst cx_6_6
      refine lv_tableIn (off := 120) (tgt := 141) hx hb dX12_proof_21 (by decide) (by decide) (by decide) (by decide) ?_
      refine lv_aload_n hx hb dX12_proof_141 rfl (lv_at hl 1 rfl) ?_
      replace q := nn_s q
      obtain ⟨a_18, e_a_18, q⟩ := q
      refine x_getR hx hb hown hX M e_a_18 okX12 ra0 (by decide) rfl kw_1021 dX12_proof_142 (fun ra_18 => ?_)
      refine lv_bipush (v := 8) hx hb dX12_proof_145 (by decide) ?_
      refine lv_iload_n hx hb dX12_proof_147 rfl (lv_at hl 2 rfl) ?_
      refine lv_imul hx hb dX12_proof_148 ?_
      refine lv_iconst (v := 5) hx hb dX12_proof_149 (by decide) ?_
      refine lv_iadd hx hb dX12_proof_150 ?_
      replace q := ck_s q
      obtain ⟨hin, q⟩ := q
      refine x_iald hx hb hX M ra_18 (inb_in hin) dX12_proof_151 ?_
      cases q
      exact x_iret hx hb hr hlk M Ext.rf dX12_proof_152
    replace q := if_f cx_6_6 q
    by_cases cx_6_7 : x_6 = 7
    · replace q := if_t cx_6_7 q
      subst cx_6_7
      refine lv_tableIn (off := 132) (tgt := 153) hx hb dX12_proof_21 (by decide) (by decide) (by decide) (by decide) ?_
      refine lv_aload_n hx hb dX12_proof_153 rfl (lv_at hl 1 rfl) ?_
      replace q := nn_s q
      obtain ⟨a_19, e_a_19, q⟩ := q
      refine x_getR hx hb hown hX M e_a_19 okX12 ra0 (by decide) rfl kw_1021 dX12_proof_154 (fun ra_19 => ?_)
      refine lv_bipush (v := 8) hx hb dX12_proof_157 (by decide) ?_
      refine lv_iload_n hx hb dX12_proof_159 rfl (lv_at hl 2 rfl) ?_
      refine lv_imul hx hb dX12_proof_160 ?_
      refine lv_bipush (v := 6) hx hb dX12_proof_161 (by decide) ?_
      refine lv_iadd hx hb dX12_proof_163 ?_
      replace q := ck_s q
      obtain ⟨hin, q⟩ := q
      refine x_iald hx hb hX M ra_19 (inb_in hin) dX12_proof_164 ?_
      cases q
      exact x_iret hx hb hr hlk M Ext.rf dX12_proof_165
    replace q := if_f cx_6_7 q
    refine lv_tableOut (tgt := 166) hx hb dX12_proof_21 (sw_def (fun z h1 h2 => ?_)) (by decide) ?_
    · have hz : z = 0 ∨ z = 1 ∨ z = 2 ∨ z = 3 ∨ z = 4 ∨ z = 5 ∨ z = 6 ∨ z = 7 := by omega
      rcases hz with rfl | rfl | rfl | rfl | rfl | rfl | rfl | rfl
      · exact cx_6_0
      · exact cx_6_1
      · exact cx_6_2
      · exact cx_6_3
      · exact cx_6_4
      · exact cx_6_5
      · exact cx_6_6
      · exact cx_6_7
    · refine lv_iconst (v := -1) hx hb dX12_proof_166 (by decide) ?_
      cases q
      exact x_iret hx hb hr hlk M Ext.rf dX12_proof_167
  · replace q := if_t c_3 q
    refine lv_iconst (v := -1) hx hb dX12_proof_8 (by decide) ?_
    cases q
    exact x_iret hx hb hr hlk M Ext.rf dX12_proof_9
set_option maxRecDepth 100000 in
theorem c_X12_proof {l : Launch} {D : va_G} {cA : Nat → ClassId} {lo tS N : Nat} {S : Hs} {g g1 : Hg} {rv : Int32} {a0 : Nat} {x1 : Int32} {x2 : Int32} (ra0 : Rf lo S a0 12) (q : f_X12_proof N S g a0 x1 x2 = some (rv, g1)) {d : Nat} (hd : 2 ≤ d) : Ctr l yX12_proof cX12_proof 4 (some .int) D cA lo tS [.ref a0, .int x1, .int x2] S g d (some (.int rv)) S g1 True 0 0 := by
  refine x_met (by decide) (Nat.le_of_ble_eq_true rfl) ?_
  intro p e s m below meth c ls hx hb hml hr hlk hown hnm hX M hl
  exact w_X12_proof_0 hx hb hml hr hlk hown hX hd (Nat.mul_le_mul_left 60 hd) (N := N) _ _ _ _ _ _ _ M ra0 (lv_sub hl [0, 1, 2] rfl) q
def b_X12_prune_16 (N : Nat) (S : Hs) (k16 : Hg → Nat → Int32 → Int32 → Int32 → Int32 → Option (Int32 × Hg)) (g : Hg) (a0 : Nat) (x1 : Int32) (x2 : Int32) (x3 : Int32) (x4 : Int32) : Option (Int32 × Hg) :=
if x2 ≤ x4 then (
some (x3, g)) else (
nm (((400 : Int32) * x1) + x4) (fun x_2 =>
nn (rdR g a0 4) (fun a_3 =>
ck (inb x_2 (hpL S a_3)) (
if (rdI g a_3 x_2.toNatClampNeg) = 0 then (
nn (rdR g a0 5) (fun a_6 =>
ck (inb x_2 (hpL S a_6)) (
if (rdI g a_6 x_2.toNatClampNeg) = 0 then (
nn (rdR g a0 4) (fun a_8 =>
ck (inb x_2 (hpL S a_8)) (
nm (wrI g a_8 x_2.toNatClampNeg (1 : Int32)) (fun g_9 =>
nm (x3 + 1) (fun x_10 =>
nm (x4 + 1) (fun x_11 =>
k16 g_9 a0 x1 x2 x_10 x_11)))))) else (
nm (x4 + 1) (fun x_12 =>
k16 g a0 x1 x2 x3 x_12))))) else (
nm (x4 + 1) (fun x_5 =>
k16 g a0 x1 x2 x3 x_5))))))
def n_X12_prune_16 (N : Nat) (S : Hs) : Nat → Hg → Nat → Int32 → Int32 → Int32 → Int32 → Option (Int32 × Hg)
  | 0 => fun _ _ _ _ _ _ => none
  | n + 1 => fun g a0 x1 x2 x3 x4 => b_X12_prune_16 N S (n_X12_prune_16 N S n) g a0 x1 x2 x3 x4
def b_X12_prune_0 (N : Nat) (S : Hs) (g : Hg) (a0 : Nat) (x1 : Int32) (x2 : Int32) : Option (Int32 × Hg) :=
c2 (f_X12_isCount N S g a0 x1 x2) (fun x_2 g_1 =>
if x_2 = 0 then (
some ((-1 : Int32), g_1)) else (
n_X12_prune_16 N S N g_1 a0 x1 x2 (0 : Int32) (0 : Int32)))
def f_X12_prune (N : Nat) (S : Hs) (g : Hg) (a0 : Nat) (x1 : Int32) (x2 : Int32) : Option (Int32 × Hg) := b_X12_prune_0 N S g a0 x1 x2
set_option maxHeartbeats 4000000 in
set_option maxRecDepth 100000 in
theorem w_X12_prune_16 (hx : p.tables.exec = Jvm.exec) (hb : c.code = cX12_prune) (hml : c.maxLocals = 6) (hr : meth.sig.returnType = (some .int)) (hlk : meth.locks = false) (hown : s.vm.findClass RX12 = some m.cls) (hX : Kx D cA lo tS s) (hRf : 3 ≤ R.frames) (hRl : 180 ≤ R.locals) {N : Nat} {rv : Int32} {g1 : Hg} {S : Hs} {k16 : Hg → Nat → Int32 → Int32 → Int32 → Int32 → Option (Int32 × Hg)} (hk16 : ∀ (H : Heap) (locs : List Loc) (ls : Array Slot) (g : Hg) (a0 : Nat) (x1 : Int32) (x2 : Int32) (x3 : Int32) (x4 : Int32), Mm D cA lo S g s H locs → Rf lo S a0 12 → lv_has ls 6 [(0, .ref a0), (1, .int x1), (2, .int x2), (3, .int x3), (4, .int x4)] → k16 g a0 x1 x2 x3 x4 = some (rv, g1) → W p l e R s m args below meth c H locs 0 0 (MQ below (Qcx D cA lo S (some (.int rv)) S g1 True) args s 0 0 (fun q : Nat => lo ≤ q)) (F0 m 16 ls [])) : ∀ (H : Heap) (locs : List Loc) (ls : Array Slot) (g : Hg) (a0 : Nat) (x1 : Int32) (x2 : Int32) (x3 : Int32) (x4 : Int32), Mm D cA lo S g s H locs → Rf lo S a0 12 → lv_has ls 6 [(0, .ref a0), (1, .int x1), (2, .int x2), (3, .int x3), (4, .int x4)] → b_X12_prune_16 N S k16 g a0 x1 x2 x3 x4 = some (rv, g1) → W p l e R s m args below meth c H locs 0 0 (MQ below (Qcx D cA lo S (some (.int rv)) S g1 True) args s 0 0 (fun q : Nat => lo ≤ q)) (F0 m 16 ls []) := by
  intro H locs ls g a0 x1 x2 x3 x4 M ra0 hl q
  unfold b_X12_prune_16 at q
  refine lv_iload hx hb dX12_prune_16 (lv_at hl 4 rfl) ?_
  refine lv_iload_n hx hb dX12_prune_18 rfl (lv_at hl 2 rfl) ?_
  refine lv_icmp_ge (tgt := 72) hx hb dX12_prune_19 (by decide) (fun c_1 => ?_) (fun c_1 => ?_)
  · replace q := if_t c_1 q
    refine lv_iload_n hx hb dX12_prune_72 rfl (lv_at hl 3 rfl) ?_
    cases q
    exact x_iret hx hb hr hlk M Ext.rf dX12_prune_73
  · replace q := if_f c_1 q
    refine lv_sipush (v := 400) hx hb dX12_prune_22 (by decide) ?_
    refine lv_iload_n hx hb dX12_prune_25 rfl (lv_at hl 1 rfl) ?_
    refine lv_imul hx hb dX12_prune_26 ?_
    refine lv_iload hx hb dX12_prune_27 (lv_at hl 4 rfl) ?_
    refine lv_iadd hx hb dX12_prune_29 ?_
    refine lv_topi (fun x_2 e_x_2 => ?_)
    replace q := nm_s q e_x_2
    refine lv_istore (lv' := [(5, .int x_2), (0, .ref a0), (1, .int x1), (2, .int x2), (3, .int x3), (4, .int x4)]) hx hb dX12_prune_30 hl (by decide) rfl (fun ls hl => ?_)
    refine lv_aload_n hx hb dX12_prune_32 rfl (lv_at hl 1 rfl) ?_
    replace q := nn_s q
    obtain ⟨a_3, e_a_3, q⟩ := q
    refine x_getR hx hb hown hX M e_a_3 okX12 ra0 (by decide) rfl kw_1016 dX12_prune_33 (fun ra_3 => ?_)
    refine lv_iload hx hb dX12_prune_36 (lv_at hl 0 rfl) ?_
    replace q := ck_s q
    obtain ⟨hin, q⟩ := q
    refine x_zald hx hb hX M ra_3 (inb_in hin) dX12_prune_38 ?_
    refine lv_if_ne (tgt := 66) hx hb dX12_prune_39 (by decide) (fun c_4 => ?_) (fun c_4 => ?_)
    · replace q := if_f c_4 q
      obtain ⟨x_5, e_x_5⟩ : ∃ y : Int32, y = x4 + 1 := ⟨_, rfl⟩
      replace q := nm_s q e_x_5
      refine lv_iinc (v := x_5) (lv' := [(4, .int x_5), (5, .int x_2), (0, .ref a0), (1, .int x1), (2, .int x2), (3, .int x3)]) hx hb dX12_prune_66 hl (k := 5) rfl (by rw [e_x_5]; rfl) (by decide) rfl (fun ls hl => ?_)
      refine lv_goto (tgt := 16) hx hb dX12_prune_69 (by decide) ?_
      exact hk16 _ _ _ _ _ _ _ _ _ M ra0 (lv_sub hl [2, 3, 4, 5, 0] rfl) q
    · replace q := if_t c_4 q
      refine lv_aload_n hx hb dX12_prune_42 rfl (lv_at hl 1 rfl) ?_
      replace q := nn_s q
      obtain ⟨a_6, e_a_6, q⟩ := q
      refine x_getR hx hb hown hX M e_a_6 okX12 ra0 (by decide) rfl kw_1017 dX12_prune_43 (fun ra_6 => ?_)
      refine lv_iload hx hb dX12_prune_46 (lv_at hl 0 rfl) ?_
      replace q := ck_s q
      obtain ⟨hin, q⟩ := q
      refine x_zald hx hb hX M ra_6 (inb_in hin) dX12_prune_48 ?_
      refine lv_if_eq (tgt := 55) hx hb dX12_prune_49 (by decide) (fun c_7 => ?_) (fun c_7 => ?_)
      · replace q := if_t c_7 q
        refine lv_aload_n hx hb dX12_prune_55 rfl (lv_at hl 1 rfl) ?_
        replace q := nn_s q
        obtain ⟨a_8, e_a_8, q⟩ := q
        refine x_getR hx hb hown hX M e_a_8 okX12 ra0 (by decide) rfl kw_1016 dX12_prune_56 (fun ra_8 => ?_)
        refine lv_iload hx hb dX12_prune_59 (lv_at hl 0 rfl) ?_
        refine lv_iconst (v := 1) hx hb dX12_prune_61 (by decide) ?_
        replace q := ck_s q
        obtain ⟨hin, q⟩ := q
        refine x_zast hx hb hX M ra_8 rfl (inb_in hin) dX12_prune_62 (fun H locs M => ?_)
        replace q := gen_g M q
        obtain ⟨g_9, -, M, q⟩ := q
        obtain ⟨x_10, e_x_10⟩ : ∃ y : Int32, y = x3 + 1 := ⟨_, rfl⟩
        replace q := nm_s q e_x_10
        refine lv_iinc (v := x_10) (lv' := [(3, .int x_10), (5, .int x_2), (0, .ref a0), (1, .int x1), (2, .int x2), (4, .int x4)]) hx hb dX12_prune_63 hl (k := 4) rfl (by rw [e_x_10]; rfl) (by decide) rfl (fun ls hl => ?_)
        obtain ⟨x_11, e_x_11⟩ : ∃ y : Int32, y = x4 + 1 := ⟨_, rfl⟩
        replace q := nm_s q e_x_11
        refine lv_iinc (v := x_11) (lv' := [(4, .int x_11), (3, .int x_10), (5, .int x_2), (0, .ref a0), (1, .int x1), (2, .int x2)]) hx hb dX12_prune_66 hl (k := 5) rfl (by rw [e_x_11]; rfl) (by decide) rfl (fun ls hl => ?_)
        refine lv_goto (tgt := 16) hx hb dX12_prune_69 (by decide) ?_
        exact hk16 _ _ _ _ _ _ _ _ _ M ra0 (lv_sub hl [3, 4, 5, 1, 0] rfl) q
      · replace q := if_f c_7 q
        refine lv_goto (tgt := 66) hx hb dX12_prune_52 (by decide) ?_
        obtain ⟨x_12, e_x_12⟩ : ∃ y : Int32, y = x4 + 1 := ⟨_, rfl⟩
        replace q := nm_s q e_x_12
        refine lv_iinc (v := x_12) (lv' := [(4, .int x_12), (5, .int x_2), (0, .ref a0), (1, .int x1), (2, .int x2), (3, .int x3)]) hx hb dX12_prune_66 hl (k := 5) rfl (by rw [e_x_12]; rfl) (by decide) rfl (fun ls hl => ?_)
        refine lv_goto (tgt := 16) hx hb dX12_prune_69 (by decide) ?_
        exact hk16 _ _ _ _ _ _ _ _ _ M ra0 (lv_sub hl [2, 3, 4, 5, 0] rfl) q
set_option maxRecDepth 100000 in
theorem l_X12_prune_16 (hx : p.tables.exec = Jvm.exec) (hb : c.code = cX12_prune) (hml : c.maxLocals = 6) (hr : meth.sig.returnType = (some .int)) (hlk : meth.locks = false) (hown : s.vm.findClass RX12 = some m.cls) (hX : Kx D cA lo tS s) (hRf : 3 ≤ R.frames) (hRl : 180 ≤ R.locals) {N : Nat} {rv : Int32} {g1 : Hg} {S : Hs} : ∀ (n : Nat), ∀ (H : Heap) (locs : List Loc) (ls : Array Slot) (g : Hg) (a0 : Nat) (x1 : Int32) (x2 : Int32) (x3 : Int32) (x4 : Int32), Mm D cA lo S g s H locs → Rf lo S a0 12 → lv_has ls 6 [(0, .ref a0), (1, .int x1), (2, .int x2), (3, .int x3), (4, .int x4)] → n_X12_prune_16 N S n g a0 x1 x2 x3 x4 = some (rv, g1) → W p l e R s m args below meth c H locs 0 0 (MQ below (Qcx D cA lo S (some (.int rv)) S g1 True) args s 0 0 (fun q : Nat => lo ≤ q)) (F0 m 16 ls []) := by
  intro n
  induction n with
  | zero =>
    intro H locs ls g a0 x1 x2 x3 x4 M ra0 hl q
    exact absurd q (by simp [n_X12_prune_16])
  | succ n ih => exact w_X12_prune_16 hx hb hml hr hlk hown hX hRf hRl (N := N)  ih
set_option maxHeartbeats 4000000 in
set_option maxRecDepth 100000 in
theorem w_X12_prune_0 (hx : p.tables.exec = Jvm.exec) (hb : c.code = cX12_prune) (hml : c.maxLocals = 6) (hr : meth.sig.returnType = (some .int)) (hlk : meth.locks = false) (hown : s.vm.findClass RX12 = some m.cls) (hX : Kx D cA lo tS s) (hRf : 3 ≤ R.frames) (hRl : 180 ≤ R.locals) {N : Nat} {rv : Int32} {g1 : Hg} {S : Hs} : ∀ (H : Heap) (locs : List Loc) (ls : Array Slot) (g : Hg) (a0 : Nat) (x1 : Int32) (x2 : Int32), Mm D cA lo S g s H locs → Rf lo S a0 12 → lv_has ls 6 [(0, .ref a0), (1, .int x1), (2, .int x2)] → b_X12_prune_0 N S g a0 x1 x2 = some (rv, g1) → W p l e R s m args below meth c H locs 0 0 (MQ below (Qcx D cA lo S (some (.int rv)) S g1 True) args s 0 0 (fun q : Nat => lo ≤ q)) (F0 m 0 ls []) := by
  intro H locs ls g a0 x1 x2 M ra0 hl q
  unfold b_X12_prune_0 at q
  refine lv_aload_n hx hb dX12_prune_0 rfl (lv_at hl 0 rfl) ?_
  refine lv_iload_n hx hb dX12_prune_1 rfl (lv_at hl 1 rfl) ?_
  refine lv_iload_n hx hb dX12_prune_2 rfl (lv_at hl 2 rfl) ?_
  replace q := c2_s q
  obtain ⟨x_2, g_1, qc, q⟩ := q
  refine x_callV hx hb hml hl.1 hown hX M (S1 := S) (As := [.int x1, .int x2]) (rest := []) okX12 ra0 rfl kw_1233 kw_16 mok_X12_isCount (c_X12_isCount ra0 qc (Nat.le_refl 2)) kw_1231 rfl rfl dX12_prune_3 (Nat.le_of_ble_eq_true rfl) ⟨Nat.le_trans (by decide) hRf, Nat.le_trans (by decide) hRl⟩ (Nat.zero_le _) (Nat.zero_le _) (fun H locs M hEF => ?_)
  refine lv_if_ne (tgt := 11) hx hb dX12_prune_6 (by decide) (fun c_3 => ?_) (fun c_3 => ?_)
  · replace q := if_f c_3 q
    refine lv_iconst (v := 0) hx hb dX12_prune_11 (by decide) ?_
    refine lv_istore_n (lv' := [(3, .int (0 : Int32)), (0, .ref a0), (1, .int x1), (2, .int x2)]) hx hb dX12_prune_12 rfl hl (by decide) rfl (fun ls hl => ?_)
    refine lv_iconst (v := 0) hx hb dX12_prune_13 (by decide) ?_
    refine lv_istore (lv' := [(4, .int (0 : Int32)), (3, .int (0 : Int32)), (0, .ref a0), (1, .int x1), (2, .int x2)]) hx hb dX12_prune_14 hl (by decide) rfl (fun ls hl => ?_)
    exact l_X12_prune_16 hx hb hml hr hlk hown hX hRf hRl (N := N)  N _ _ _ _ _ _ _ _ _ M ra0 (lv_sub hl [2, 3, 4, 1, 0] rfl) q
  · replace q := if_t c_3 q
    refine lv_iconst (v := -1) hx hb dX12_prune_9 (by decide) ?_
    cases q
    exact x_iret hx hb hr hlk M Ext.rf dX12_prune_10
set_option maxRecDepth 100000 in
theorem c_X12_prune {l : Launch} {D : va_G} {cA : Nat → ClassId} {lo tS N : Nat} {S : Hs} {g g1 : Hg} {rv : Int32} {a0 : Nat} {x1 : Int32} {x2 : Int32} (ra0 : Rf lo S a0 12) (q : f_X12_prune N S g a0 x1 x2 = some (rv, g1)) {d : Nat} (hd : 3 ≤ d) : Ctr l yX12_prune cX12_prune 6 (some .int) D cA lo tS [.ref a0, .int x1, .int x2] S g d (some (.int rv)) S g1 True 0 0 := by
  refine x_met (by decide) (Nat.le_of_ble_eq_true rfl) ?_
  intro p e s m below meth c ls hx hb hml hr hlk hown hnm hX M hl
  exact w_X12_prune_0 hx hb hml hr hlk hown hX hd (Nat.mul_le_mul_left 60 hd) (N := N) _ _ _ _ _ _ _ M ra0 (lv_sub hl [0, 1, 2] rfl) q
def b_X12_reader_0 (N : Nat) (S : Hs) (g : Hg) (a0 : Nat) (x1 : Int32) (x2 : Int32) : Option (Int32 × Hg) :=
c2 (f_X12_isReader N S g a0 x1) (fun x_2 g_1 =>
if x_2 = 0 then (
some ((-1 : Int32), g_1)) else (
if x2 = (3 : Int32) then (
nn (rdR g_1 a0 13) (fun a_10 =>
ck (inb (((28 : Int32) * x1) + (3 : Int32)) (hpL S a_10)) (
some ((rdI g_1 a_10 (((28 : Int32) * x1) + (3 : Int32)).toNatClampNeg), g_1)))) else (
if x2 < 0 then (
some ((-1 : Int32), g_1)) else (
if (3 : Int32) ≤ x2 then (
some ((-1 : Int32), g_1)) else (
nn (rdR g_1 a0 14) (fun a_7 =>
ck (inb x1 (hpL S a_7)) (
if (rdI g_1 a_7 x1.toNatClampNeg) = 0 then (
some ((-1 : Int32), g_1)) else (
nn (rdR g_1 a0 13) (fun a_9 =>
ck (inb (((28 : Int32) * x1) + x2) (hpL S a_9)) (
some ((rdI g_1 a_9 (((28 : Int32) * x1) + x2).toNatClampNeg), g_1)))))))))))
def f_X12_reader (N : Nat) (S : Hs) (g : Hg) (a0 : Nat) (x1 : Int32) (x2 : Int32) : Option (Int32 × Hg) := b_X12_reader_0 N S g a0 x1 x2
set_option maxHeartbeats 4000000 in
set_option maxRecDepth 100000 in
theorem w_X12_reader_0 (hx : p.tables.exec = Jvm.exec) (hb : c.code = cX12_reader) (hml : c.maxLocals = 3) (hr : meth.sig.returnType = (some .int)) (hlk : meth.locks = false) (hown : s.vm.findClass RX12 = some m.cls) (hX : Kx D cA lo tS s) (hRf : 2 ≤ R.frames) (hRl : 120 ≤ R.locals) {N : Nat} {rv : Int32} {g1 : Hg} {S : Hs} : ∀ (H : Heap) (locs : List Loc) (ls : Array Slot) (g : Hg) (a0 : Nat) (x1 : Int32) (x2 : Int32), Mm D cA lo S g s H locs → Rf lo S a0 12 → lv_has ls 3 [(0, .ref a0), (1, .int x1), (2, .int x2)] → b_X12_reader_0 N S g a0 x1 x2 = some (rv, g1) → W p l e R s m args below meth c H locs 0 0 (MQ below (Qcx D cA lo S (some (.int rv)) S g1 True) args s 0 0 (fun q : Nat => lo ≤ q)) (F0 m 0 ls []) := by
  intro H locs ls g a0 x1 x2 M ra0 hl q
  unfold b_X12_reader_0 at q
  refine lv_aload_n hx hb dX12_reader_0 rfl (lv_at hl 0 rfl) ?_
  refine lv_iload_n hx hb dX12_reader_1 rfl (lv_at hl 1 rfl) ?_
  replace q := c2_s q
  obtain ⟨x_2, g_1, qc, q⟩ := q
  refine x_callV hx hb hml hl.1 hown hX M (S1 := S) (As := [.int x1]) (rest := []) okX12 ra0 rfl kw_1421 kw_43 mok_X12_isReader (c_X12_isReader ra0 qc (Nat.le_refl 1)) kw_1419 rfl rfl dX12_reader_2 (Nat.le_of_ble_eq_true rfl) ⟨Nat.le_trans (by decide) hRf, Nat.le_trans (by decide) hRl⟩ (Nat.zero_le _) (Nat.zero_le _) (fun H locs M hEF => ?_)
  refine lv_if_ne (tgt := 10) hx hb dX12_reader_5 (by decide) (fun c_3 => ?_) (fun c_3 => ?_)
  · replace q := if_f c_3 q
    refine lv_iload_n hx hb dX12_reader_10 rfl (lv_at hl 2 rfl) ?_
    refine lv_iconst (v := 3) hx hb dX12_reader_11 (by decide) ?_
    refine lv_icmp_ne (tgt := 27) hx hb dX12_reader_12 (by decide) (fun c_4 => ?_) (fun c_4 => ?_)
    · replace q := if_f c_4 q
      refine lv_iload_n hx hb dX12_reader_27 rfl (lv_at hl 2 rfl) ?_
      refine lv_if_lt (tgt := 59) hx hb dX12_reader_28 (by decide) (fun c_5 => ?_) (fun c_5 => ?_)
      · replace q := if_t c_5 q
        refine lv_iconst (v := -1) hx hb dX12_reader_59 (by decide) ?_
        cases q
        exact x_iret hx hb hr hlk M Ext.rf dX12_reader_60
      · replace q := if_f c_5 q
        refine lv_iload_n hx hb dX12_reader_31 rfl (lv_at hl 2 rfl) ?_
        refine lv_iconst (v := 3) hx hb dX12_reader_32 (by decide) ?_
        refine lv_icmp_ge (tgt := 59) hx hb dX12_reader_33 (by decide) (fun c_6 => ?_) (fun c_6 => ?_)
        · replace q := if_t c_6 q
          refine lv_iconst (v := -1) hx hb dX12_reader_59 (by decide) ?_
          cases q
          exact x_iret hx hb hr hlk M Ext.rf dX12_reader_60
        · replace q := if_f c_6 q
          refine lv_aload_n hx hb dX12_reader_36 rfl (lv_at hl 0 rfl) ?_
          replace q := nn_s q
          obtain ⟨a_7, e_a_7, q⟩ := q
          refine x_getR hx hb hown hX M e_a_7 okX12 ra0 (by decide) rfl kw_1026 dX12_reader_37 (fun ra_7 => ?_)
          refine lv_iload_n hx hb dX12_reader_40 rfl (lv_at hl 1 rfl) ?_
          replace q := ck_s q
          obtain ⟨hin, q⟩ := q
          refine x_zald hx hb hX M ra_7 (inb_in hin) dX12_reader_41 ?_
          refine lv_if_eq (tgt := 59) hx hb dX12_reader_42 (by decide) (fun c_8 => ?_) (fun c_8 => ?_)
          · replace q := if_t c_8 q
            refine lv_iconst (v := -1) hx hb dX12_reader_59 (by decide) ?_
            cases q
            exact x_iret hx hb hr hlk M Ext.rf dX12_reader_60
          · replace q := if_f c_8 q
            refine lv_aload_n hx hb dX12_reader_45 rfl (lv_at hl 0 rfl) ?_
            replace q := nn_s q
            obtain ⟨a_9, e_a_9, q⟩ := q
            refine x_getR hx hb hown hX M e_a_9 okX12 ra0 (by decide) rfl kw_1025 dX12_reader_46 (fun ra_9 => ?_)
            refine lv_bipush (v := 28) hx hb dX12_reader_49 (by decide) ?_
            refine lv_iload_n hx hb dX12_reader_51 rfl (lv_at hl 1 rfl) ?_
            refine lv_imul hx hb dX12_reader_52 ?_
            refine lv_iload_n hx hb dX12_reader_53 rfl (lv_at hl 2 rfl) ?_
            refine lv_iadd hx hb dX12_reader_54 ?_
            replace q := ck_s q
            obtain ⟨hin, q⟩ := q
            refine x_iald hx hb hX M ra_9 (inb_in hin) dX12_reader_55 ?_
            refine lv_goto (tgt := 60) hx hb dX12_reader_56 (by decide) ?_
            cases q
            exact x_iret hx hb hr hlk M Ext.rf dX12_reader_60
    · replace q := if_t c_4 q
      refine lv_aload_n hx hb dX12_reader_15 rfl (lv_at hl 0 rfl) ?_
      replace q := nn_s q
      obtain ⟨a_10, e_a_10, q⟩ := q
      refine x_getR hx hb hown hX M e_a_10 okX12 ra0 (by decide) rfl kw_1025 dX12_reader_16 (fun ra_10 => ?_)
      refine lv_bipush (v := 28) hx hb dX12_reader_19 (by decide) ?_
      refine lv_iload_n hx hb dX12_reader_21 rfl (lv_at hl 1 rfl) ?_
      refine lv_imul hx hb dX12_reader_22 ?_
      refine lv_iconst (v := 3) hx hb dX12_reader_23 (by decide) ?_
      refine lv_iadd hx hb dX12_reader_24 ?_
      replace q := ck_s q
      obtain ⟨hin, q⟩ := q
      refine x_iald hx hb hX M ra_10 (inb_in hin) dX12_reader_25 ?_
      cases q
      exact x_iret hx hb hr hlk M Ext.rf dX12_reader_26
  · replace q := if_t c_3 q
    refine lv_iconst (v := -1) hx hb dX12_reader_8 (by decide) ?_
    cases q
    exact x_iret hx hb hr hlk M Ext.rf dX12_reader_9
set_option maxRecDepth 100000 in
theorem c_X12_reader {l : Launch} {D : va_G} {cA : Nat → ClassId} {lo tS N : Nat} {S : Hs} {g g1 : Hg} {rv : Int32} {a0 : Nat} {x1 : Int32} {x2 : Int32} (ra0 : Rf lo S a0 12) (q : f_X12_reader N S g a0 x1 x2 = some (rv, g1)) {d : Nat} (hd : 2 ≤ d) : Ctr l yX12_reader cX12_reader 3 (some .int) D cA lo tS [.ref a0, .int x1, .int x2] S g d (some (.int rv)) S g1 True 0 0 := by
  refine x_met (by decide) (Nat.le_of_ble_eq_true rfl) ?_
  intro p e s m below meth c ls hx hb hml hr hlk hown hnm hX M hl
  exact w_X12_reader_0 hx hb hml hr hlk hown hX hd (Nat.mul_le_mul_left 60 hd) (N := N) _ _ _ _ _ _ _ M ra0 (lv_sub hl [0, 1, 2] rfl) q
def b_X12_smear_0 (N : Nat) (S : Hs) (g : Hg) (a0 : Nat) (x1 : Int32) (x2 : Int32) (x3 : Int32) : Option (Int32 × Hg) :=
if x1 < 0 then (
some ((0 : Int32), g)) else (
if (rdI g a0 16) ≤ x1 then (
some ((0 : Int32), g)) else (
if x2 < 0 then (
some ((0 : Int32), g)) else (
if x2 ≤ (7 : Int32) then (
nn (rdR g a0 15) (fun a_5 =>
ck (inb (((((56 : Int32) * x1) + (28 : Int32)) + (20 : Int32)) + x2) (hpL S a_5)) (
ck (inb (((((56 : Int32) * x1) + (28 : Int32)) + (20 : Int32)) + x2) (hpL S a_5)) (
nm (wrI g a_5 (((((56 : Int32) * x1) + (28 : Int32)) + (20 : Int32)) + x2).toNatClampNeg ((rdI g a_5 (((((56 : Int32) * x1) + (28 : Int32)) + (20 : Int32)) + x2).toNatClampNeg) ^^^ x3)) (fun g_6 =>
some ((1 : Int32), g_6)))))) else (
some ((0 : Int32), g)))))
def f_X12_smear (N : Nat) (S : Hs) (g : Hg) (a0 : Nat) (x1 : Int32) (x2 : Int32) (x3 : Int32) : Option (Int32 × Hg) := b_X12_smear_0 N S g a0 x1 x2 x3
set_option maxHeartbeats 4000000 in
set_option maxRecDepth 100000 in
theorem w_X12_smear_0 (hx : p.tables.exec = Jvm.exec) (hb : c.code = cX12_smear) (hml : c.maxLocals = 4) (hr : meth.sig.returnType = (some .boolean)) (hlk : meth.locks = false) (hown : s.vm.findClass RX12 = some m.cls) (hX : Kx D cA lo tS s) (hRf : 1 ≤ R.frames) (hRl : 60 ≤ R.locals) {N : Nat} {rv : Int32} {g1 : Hg} {S : Hs} : ∀ (H : Heap) (locs : List Loc) (ls : Array Slot) (g : Hg) (a0 : Nat) (x1 : Int32) (x2 : Int32) (x3 : Int32), Mm D cA lo S g s H locs → Rf lo S a0 12 → lv_has ls 4 [(0, .ref a0), (1, .int x1), (2, .int x2), (3, .int x3)] → b_X12_smear_0 N S g a0 x1 x2 x3 = some (rv, g1) → W p l e R s m args below meth c H locs 0 0 (MQ below (Qcx D cA lo S (some (.int rv)) S g1 True) args s 0 0 (fun q : Nat => lo ≤ q)) (F0 m 0 ls []) := by
  intro H locs ls g a0 x1 x2 x3 M ra0 hl q
  unfold b_X12_smear_0 at q
  refine lv_iload_n hx hb dX12_smear_0 rfl (lv_at hl 1 rfl) ?_
  refine lv_if_lt (tgt := 22) hx hb dX12_smear_1 (by decide) (fun c_1 => ?_) (fun c_1 => ?_)
  · replace q := if_t c_1 q
    refine lv_iconst (v := 0) hx hb dX12_smear_22 (by decide) ?_
    cases q
    exact x_zret hx hb hr hlk rfl M Ext.rf dX12_smear_23
  · replace q := if_f c_1 q
    refine lv_iload_n hx hb dX12_smear_4 rfl (lv_at hl 1 rfl) ?_
    refine lv_aload_n hx hb dX12_smear_5 rfl (lv_at hl 0 rfl) ?_
    refine x_getI hx hb hown hX M (k := 16) okX12 ra0 (by decide) rfl kw_1028 dX12_smear_6 ?_
    refine lv_icmp_ge (tgt := 22) hx hb dX12_smear_9 (by decide) (fun c_2 => ?_) (fun c_2 => ?_)
    · replace q := if_t c_2 q
      refine lv_iconst (v := 0) hx hb dX12_smear_22 (by decide) ?_
      cases q
      exact x_zret hx hb hr hlk rfl M Ext.rf dX12_smear_23
    · replace q := if_f c_2 q
      refine lv_iload_n hx hb dX12_smear_12 rfl (lv_at hl 2 rfl) ?_
      refine lv_if_lt (tgt := 22) hx hb dX12_smear_13 (by decide) (fun c_3 => ?_) (fun c_3 => ?_)
      · replace q := if_t c_3 q
        refine lv_iconst (v := 0) hx hb dX12_smear_22 (by decide) ?_
        cases q
        exact x_zret hx hb hr hlk rfl M Ext.rf dX12_smear_23
      · replace q := if_f c_3 q
        refine lv_iload_n hx hb dX12_smear_16 rfl (lv_at hl 2 rfl) ?_
        refine lv_bipush (v := 7) hx hb dX12_smear_17 (by decide) ?_
        refine lv_icmp_le (tgt := 24) hx hb dX12_smear_19 (by decide) (fun c_4 => ?_) (fun c_4 => ?_)
        · replace q := if_t c_4 q
          refine lv_aload_n hx hb dX12_smear_24 rfl (lv_at hl 0 rfl) ?_
          replace q := nn_s q
          obtain ⟨a_5, e_a_5, q⟩ := q
          refine x_getR hx hb hown hX M e_a_5 okX12 ra0 (by decide) rfl kw_1027 dX12_smear_25 (fun ra_5 => ?_)
          refine lv_bipush (v := 56) hx hb dX12_smear_28 (by decide) ?_
          refine lv_iload_n hx hb dX12_smear_30 rfl (lv_at hl 1 rfl) ?_
          refine lv_imul hx hb dX12_smear_31 ?_
          refine lv_bipush (v := 28) hx hb dX12_smear_32 (by decide) ?_
          refine lv_iadd hx hb dX12_smear_34 ?_
          refine lv_bipush (v := 20) hx hb dX12_smear_35 (by decide) ?_
          refine lv_iadd hx hb dX12_smear_37 ?_
          refine lv_iload_n hx hb dX12_smear_38 rfl (lv_at hl 2 rfl) ?_
          refine lv_iadd hx hb dX12_smear_39 ?_
          refine lv_dup2_11 hx hb dX12_smear_40 rfl rfl ?_
          replace q := ck_s q
          obtain ⟨hin, q⟩ := q
          refine x_iald hx hb hX M ra_5 (inb_in hin) dX12_smear_41 ?_
          refine lv_iload_n hx hb dX12_smear_42 rfl (lv_at hl 3 rfl) ?_
          refine lv_ixor hx hb dX12_smear_43 ?_
          replace q := ck_s q
          obtain ⟨hin, q⟩ := q
          refine x_iast hx hb hX M ra_5 (inb_in hin) dX12_smear_44 (fun H locs M => ?_)
          replace q := gen_g M q
          obtain ⟨g_6, -, M, q⟩ := q
          refine lv_iconst (v := 1) hx hb dX12_smear_45 (by decide) ?_
          cases q
          exact x_zret hx hb hr hlk rfl M Ext.rf dX12_smear_46
        · replace q := if_f c_4 q
          refine lv_iconst (v := 0) hx hb dX12_smear_22 (by decide) ?_
          cases q
          exact x_zret hx hb hr hlk rfl M Ext.rf dX12_smear_23
set_option maxRecDepth 100000 in
theorem c_X12_smear {l : Launch} {D : va_G} {cA : Nat → ClassId} {lo tS N : Nat} {S : Hs} {g g1 : Hg} {rv : Int32} {a0 : Nat} {x1 : Int32} {x2 : Int32} {x3 : Int32} (ra0 : Rf lo S a0 12) (q : f_X12_smear N S g a0 x1 x2 x3 = some (rv, g1)) {d : Nat} (hd : 1 ≤ d) : Ctr l yX12_smear cX12_smear 4 (some .boolean) D cA lo tS [.ref a0, .int x1, .int x2, .int x3] S g d (some (.int rv)) S g1 True 0 0 := by
  refine x_met (by decide) (Nat.le_of_ble_eq_true rfl) ?_
  intro p e s m below meth c ls hx hb hml hr hlk hown hnm hX M hl
  exact w_X12_smear_0 hx hb hml hr hlk hown hX hd (Nat.mul_le_mul_left 60 hd) (N := N) _ _ _ _ _ _ _ _ M ra0 (lv_sub hl [0, 1, 2, 3] rfl) q
def b_X12_span_97 (N : Nat) (S : Hs) (k97 : Hg → Nat → Int32 → Int32 → Int32 → Int32 → Int32 → Int32 → Option (Int32 × Hg)) (g : Hg) (a0 : Nat) (x1 : Int32) (x2 : Int32) (x3 : Int32) (x4 : Int32) (x5 : Int32) (x6 : Int32) : Option (Int32 × Hg) :=
if x5 ≤ x6 then (
c2 (f_X12_stepLog N S g a0 x1 x2 (0 : Int32) x4) (fun u_3 g_2 =>
c2 (f_X12_stepLog N S g_2 a0 x1 x2 x5 x3) (fun u_5 g_4 =>
nn (rdR g_4 a0 9) (fun a_6 =>
ck (inb (((8 : Int32) * x1) + (1 : Int32)) (hpL S a_6)) (
some ((rdI g_4 a_6 (((8 : Int32) * x1) + (1 : Int32)).toNatClampNeg), g_4)))))) else (
nn (rdR g a0 10) (fun a_7 =>
nn (rdR g a0 2) (fun a_8 =>
ck (inb (((400 : Int32) * x2) + x6) (hpL S a_8)) (
ck (inb ((((40 : Int32) * x1) + x6) - x4) (hpL S a_7)) (
nm (wrI g a_7 ((((40 : Int32) * x1) + x6) - x4).toNatClampNeg (rdI g a_8 (((400 : Int32) * x2) + x6).toNatClampNeg)) (fun g_9 =>
nn (rdR g_9 a0 11) (fun a_10 =>
nn (rdR g_9 a0 3) (fun a_11 =>
ck (inb (((400 : Int32) * x2) + x6) (hpL S a_11)) (
ck (inb ((((40 : Int32) * x1) + x6) - x4) (hpL S a_10)) (
nm (wrL g_9 a_10 ((((40 : Int32) * x1) + x6) - x4).toNatClampNeg (rdL g_9 a_11 (((400 : Int32) * x2) + x6).toNatClampNeg)) (fun g_12 =>
nm (x6 + 1) (fun x_13 =>
k97 g_12 a0 x1 x2 x3 x4 x5 x_13))))))))))))
def n_X12_span_97 (N : Nat) (S : Hs) : Nat → Hg → Nat → Int32 → Int32 → Int32 → Int32 → Int32 → Int32 → Option (Int32 × Hg)
  | 0 => fun _ _ _ _ _ _ _ _ => none
  | n + 1 => fun g a0 x1 x2 x3 x4 x5 x6 => b_X12_span_97 N S (n_X12_span_97 N S n) g a0 x1 x2 x3 x4 x5 x6
def b_X12_span_51 (N : Nat) (S : Hs) (k51 : Hg → Nat → Int32 → Int32 → Int32 → Int32 → Int32 → Int32 → Option (Int32 × Hg)) (g : Hg) (a0 : Nat) (x1 : Int32) (x2 : Int32) (x3 : Int32) (x4 : Int32) (x5 : Int32) (x6 : Int32) : Option (Int32 × Hg) :=
if x5 ≤ x6 then (
c2 (f_X12_begin N S g a0 x1 (5 : Int32) x3 x4 x5) (fun u_3 g_2 =>
n_X12_span_97 N S N g_2 a0 x1 x2 x3 x4 x5 x4)) else (
nn (rdR g a0 4) (fun a_4 =>
ck (inb (((400 : Int32) * x2) + x6) (hpL S a_4)) (
if (rdI g a_4 (((400 : Int32) * x2) + x6).toNatClampNeg) = 0 then (
nm (x6 + 1) (fun x_6 =>
k51 g a0 x1 x2 x3 x4 x5 x_6)) else (
some ((-1 : Int32), g)))))
def n_X12_span_51 (N : Nat) (S : Hs) : Nat → Hg → Nat → Int32 → Int32 → Int32 → Int32 → Int32 → Int32 → Option (Int32 × Hg)
  | 0 => fun _ _ _ _ _ _ _ _ => none
  | n + 1 => fun g a0 x1 x2 x3 x4 x5 x6 => b_X12_span_51 N S (n_X12_span_51 N S n) g a0 x1 x2 x3 x4 x5 x6
def b_X12_span_0 (N : Nat) (S : Hs) (g : Hg) (a0 : Nat) (x1 : Int32) (x2 : Int32) (x3 : Int32) (x4 : Int32) (x5 : Int32) : Option (Int32 × Hg) :=
c2 (f_X12_isSlot N S g a0 x1) (fun x_2 g_1 =>
if x_2 = 0 then (
some ((-1 : Int32), g_1)) else (
c2 (f_X12_isCount N S g_1 a0 x2 x3) (fun x_5 g_4 =>
if x_5 = 0 then (
some ((-1 : Int32), g_4)) else (
if x4 < 0 then (
some ((-1 : Int32), g_4)) else (
if x5 < x4 then (
some ((-1 : Int32), g_4)) else (
if x3 < x5 then (
some ((-1 : Int32), g_4)) else (
if (x5 - x4) ≤ (40 : Int32) then (
n_X12_span_51 N S N g_4 a0 x1 x2 x3 x4 x5 x4) else (
some ((-1 : Int32), g_4)))))))))
def f_X12_span (N : Nat) (S : Hs) (g : Hg) (a0 : Nat) (x1 : Int32) (x2 : Int32) (x3 : Int32) (x4 : Int32) (x5 : Int32) : Option (Int32 × Hg) := b_X12_span_0 N S g a0 x1 x2 x3 x4 x5
set_option maxHeartbeats 4000000 in
set_option maxRecDepth 100000 in
theorem w_X12_span_97 (hx : p.tables.exec = Jvm.exec) (hb : c.code = cX12_span) (hml : c.maxLocals = 7) (hr : meth.sig.returnType = (some .int)) (hlk : meth.locks = false) (hown : s.vm.findClass RX12 = some m.cls) (hX : Kx D cA lo tS s) (hRf : 306 ≤ R.frames) (hRl : 18360 ≤ R.locals) {N : Nat} {rv : Int32} {g1 : Hg} {S : Hs} {k97 : Hg → Nat → Int32 → Int32 → Int32 → Int32 → Int32 → Int32 → Option (Int32 × Hg)} (hk97 : ∀ (H : Heap) (locs : List Loc) (ls : Array Slot) (g : Hg) (a0 : Nat) (x1 : Int32) (x2 : Int32) (x3 : Int32) (x4 : Int32) (x5 : Int32) (x6 : Int32), Mm D cA lo S g s H locs → Rf lo S a0 12 → lv_has ls 7 [(0, .ref a0), (1, .int x1), (2, .int x2), (3, .int x3), (4, .int x4), (5, .int x5), (6, .int x6)] → k97 g a0 x1 x2 x3 x4 x5 x6 = some (rv, g1) → W p l e R s m args below meth c H locs 0 0 (MQ below (Qcx D cA lo S (some (.int rv)) S g1 True) args s 0 0 (fun q : Nat => lo ≤ q)) (F0 m 97 ls [])) : ∀ (H : Heap) (locs : List Loc) (ls : Array Slot) (g : Hg) (a0 : Nat) (x1 : Int32) (x2 : Int32) (x3 : Int32) (x4 : Int32) (x5 : Int32) (x6 : Int32), Mm D cA lo S g s H locs → Rf lo S a0 12 → lv_has ls 7 [(0, .ref a0), (1, .int x1), (2, .int x2), (3, .int x3), (4, .int x4), (5, .int x5), (6, .int x6)] → b_X12_span_97 N S k97 g a0 x1 x2 x3 x4 x5 x6 = some (rv, g1) → W p l e R s m args below meth c H locs 0 0 (MQ below (Qcx D cA lo S (some (.int rv)) S g1 True) args s 0 0 (fun q : Nat => lo ≤ q)) (F0 m 97 ls []) := by
  intro H locs ls g a0 x1 x2 x3 x4 x5 x6 M ra0 hl q
  unfold b_X12_span_97 at q
  refine lv_iload hx hb dX12_span_97 (lv_at hl 6 rfl) ?_
  refine lv_iload hx hb dX12_span_99 (lv_at hl 5 rfl) ?_
  refine lv_icmp_ge (tgt := 166) hx hb dX12_span_101 (by decide) (fun c_1 => ?_) (fun c_1 => ?_)
  · replace q := if_t c_1 q
    refine lv_aload_n hx hb dX12_span_166 rfl (lv_at hl 0 rfl) ?_
    refine lv_iload_n hx hb dX12_span_167 rfl (lv_at hl 1 rfl) ?_
    refine lv_iload_n hx hb dX12_span_168 rfl (lv_at hl 2 rfl) ?_
    refine lv_iconst (v := 0) hx hb dX12_span_169 (by decide) ?_
    refine lv_iload hx hb dX12_span_170 (lv_at hl 4 rfl) ?_
    replace q := c2_s q
    obtain ⟨u_3, g_2, qc, q⟩ := q
    refine x_callV hx hb hml hl.1 hown hX M (S1 := S) (As := [.int x1, .int x2, .int (0 : Int32), .int x4]) (rest := []) okX12 ra0 rfl kw_1365 kw_39 mok_X12_stepLog (c_X12_stepLog ra0 qc (Nat.le_refl 305)) kw_1363 rfl rfl dX12_span_172 (Nat.le_of_ble_eq_true rfl) ⟨Nat.le_trans (by decide) hRf, Nat.le_trans (by decide) hRl⟩ (Nat.zero_le _) (Nat.zero_le _) (fun H locs M hEF => ?_)
    refine lv_aload_n hx hb dX12_span_175 rfl (lv_at hl 0 rfl) ?_
    refine lv_iload_n hx hb dX12_span_176 rfl (lv_at hl 1 rfl) ?_
    refine lv_iload_n hx hb dX12_span_177 rfl (lv_at hl 2 rfl) ?_
    refine lv_iload hx hb dX12_span_178 (lv_at hl 5 rfl) ?_
    refine lv_iload_n hx hb dX12_span_180 rfl (lv_at hl 3 rfl) ?_
    replace q := c2_s q
    obtain ⟨u_5, g_4, qc, q⟩ := q
    refine x_callV hx hb hml hl.1 hown hX M (S1 := S) (As := [.int x1, .int x2, .int x5, .int x3]) (rest := []) okX12 ra0 rfl kw_1365 kw_39 mok_X12_stepLog (c_X12_stepLog ra0 qc (Nat.le_refl 305)) kw_1363 rfl rfl dX12_span_181 (Nat.le_of_ble_eq_true rfl) ⟨Nat.le_trans (by decide) hRf, Nat.le_trans (by decide) hRl⟩ (Nat.zero_le _) (Nat.zero_le _) (fun H locs M hEF => ?_)
    refine lv_aload_n hx hb dX12_span_184 rfl (lv_at hl 0 rfl) ?_
    replace q := nn_s q
    obtain ⟨a_6, e_a_6, q⟩ := q
    refine x_getR hx hb hown hX M e_a_6 okX12 ra0 (by decide) rfl kw_1021 dX12_span_185 (fun ra_6 => ?_)
    refine lv_bipush (v := 8) hx hb dX12_span_188 (by decide) ?_
    refine lv_iload_n hx hb dX12_span_190 rfl (lv_at hl 1 rfl) ?_
    refine lv_imul hx hb dX12_span_191 ?_
    refine lv_iconst (v := 1) hx hb dX12_span_192 (by decide) ?_
    refine lv_iadd hx hb dX12_span_193 ?_
    replace q := ck_s q
    obtain ⟨hin, q⟩ := q
    refine x_iald hx hb hX M ra_6 (inb_in hin) dX12_span_194 ?_
    cases q
    exact x_iret hx hb hr hlk M Ext.rf dX12_span_195
  · replace q := if_f c_1 q
    refine lv_aload_n hx hb dX12_span_104 rfl (lv_at hl 0 rfl) ?_
    replace q := nn_s q
    obtain ⟨a_7, e_a_7, q⟩ := q
    refine x_getR hx hb hown hX M e_a_7 okX12 ra0 (by decide) rfl kw_1022 dX12_span_105 (fun ra_7 => ?_)
    refine lv_bipush (v := 40) hx hb dX12_span_108 (by decide) ?_
    refine lv_iload_n hx hb dX12_span_110 rfl (lv_at hl 1 rfl) ?_
    refine lv_imul hx hb dX12_span_111 ?_
    refine lv_iload hx hb dX12_span_112 (lv_at hl 6 rfl) ?_
    refine lv_iadd hx hb dX12_span_114 ?_
    refine lv_iload hx hb dX12_span_115 (lv_at hl 4 rfl) ?_
    refine lv_isub hx hb dX12_span_117 ?_
    refine lv_aload_n hx hb dX12_span_118 rfl (lv_at hl 0 rfl) ?_
    replace q := nn_s q
    obtain ⟨a_8, e_a_8, q⟩ := q
    refine x_getR hx hb hown hX M e_a_8 okX12 ra0 (by decide) rfl kw_1014 dX12_span_119 (fun ra_8 => ?_)
    refine lv_sipush (v := 400) hx hb dX12_span_122 (by decide) ?_
    refine lv_iload_n hx hb dX12_span_125 rfl (lv_at hl 2 rfl) ?_
    refine lv_imul hx hb dX12_span_126 ?_
    refine lv_iload hx hb dX12_span_127 (lv_at hl 6 rfl) ?_
    refine lv_iadd hx hb dX12_span_129 ?_
    replace q := ck_s q
    obtain ⟨hin, q⟩ := q
    refine x_iald hx hb hX M ra_8 (inb_in hin) dX12_span_130 ?_
    replace q := ck_s q
    obtain ⟨hin, q⟩ := q
    refine x_iast hx hb hX M ra_7 (inb_in hin) dX12_span_131 (fun H locs M => ?_)
    replace q := gen_g M q
    obtain ⟨g_9, -, M, q⟩ := q
    refine lv_aload_n hx hb dX12_span_132 rfl (lv_at hl 0 rfl) ?_
    replace q := nn_s q
    obtain ⟨a_10, e_a_10, q⟩ := q
    refine x_getR hx hb hown hX M e_a_10 okX12 ra0 (by decide) rfl kw_1023 dX12_span_133 (fun ra_10 => ?_)
    refine lv_bipush (v := 40) hx hb dX12_span_136 (by decide) ?_
    refine lv_iload_n hx hb dX12_span_138 rfl (lv_at hl 1 rfl) ?_
    refine lv_imul hx hb dX12_span_139 ?_
    refine lv_iload hx hb dX12_span_140 (lv_at hl 6 rfl) ?_
    refine lv_iadd hx hb dX12_span_142 ?_
    refine lv_iload hx hb dX12_span_143 (lv_at hl 4 rfl) ?_
    refine lv_isub hx hb dX12_span_145 ?_
    refine lv_aload_n hx hb dX12_span_146 rfl (lv_at hl 0 rfl) ?_
    replace q := nn_s q
    obtain ⟨a_11, e_a_11, q⟩ := q
    refine x_getR hx hb hown hX M e_a_11 okX12 ra0 (by decide) rfl kw_1015 dX12_span_147 (fun ra_11 => ?_)
    refine lv_sipush (v := 400) hx hb dX12_span_150 (by decide) ?_
    refine lv_iload_n hx hb dX12_span_153 rfl (lv_at hl 2 rfl) ?_
    refine lv_imul hx hb dX12_span_154 ?_
    refine lv_iload hx hb dX12_span_155 (lv_at hl 6 rfl) ?_
    refine lv_iadd hx hb dX12_span_157 ?_
    replace q := ck_s q
    obtain ⟨hin, q⟩ := q
    refine x_lald hx hb hX M ra_11 (inb_in hin) dX12_span_158 ?_
    replace q := ck_s q
    obtain ⟨hin, q⟩ := q
    refine x_last hx hb hX M ra_10 (inb_in hin) dX12_span_159 (fun H locs M => ?_)
    replace q := gen_g M q
    obtain ⟨g_12, -, M, q⟩ := q
    obtain ⟨x_13, e_x_13⟩ : ∃ y : Int32, y = x6 + 1 := ⟨_, rfl⟩
    replace q := nm_s q e_x_13
    refine lv_iinc (v := x_13) (lv' := [(6, .int x_13), (0, .ref a0), (1, .int x1), (2, .int x2), (3, .int x3), (4, .int x4), (5, .int x5)]) hx hb dX12_span_160 hl (k := 6) rfl (by rw [e_x_13]; rfl) (by decide) rfl (fun ls hl => ?_)
    refine lv_goto (tgt := 97) hx hb dX12_span_163 (by decide) ?_
    exact hk97 _ _ _ _ _ _ _ _ _ _ _ M ra0 (lv_sub hl [1, 2, 3, 4, 5, 6, 0] rfl) q
set_option maxRecDepth 100000 in
theorem l_X12_span_97 (hx : p.tables.exec = Jvm.exec) (hb : c.code = cX12_span) (hml : c.maxLocals = 7) (hr : meth.sig.returnType = (some .int)) (hlk : meth.locks = false) (hown : s.vm.findClass RX12 = some m.cls) (hX : Kx D cA lo tS s) (hRf : 306 ≤ R.frames) (hRl : 18360 ≤ R.locals) {N : Nat} {rv : Int32} {g1 : Hg} {S : Hs} : ∀ (n : Nat), ∀ (H : Heap) (locs : List Loc) (ls : Array Slot) (g : Hg) (a0 : Nat) (x1 : Int32) (x2 : Int32) (x3 : Int32) (x4 : Int32) (x5 : Int32) (x6 : Int32), Mm D cA lo S g s H locs → Rf lo S a0 12 → lv_has ls 7 [(0, .ref a0), (1, .int x1), (2, .int x2), (3, .int x3), (4, .int x4), (5, .int x5), (6, .int x6)] → n_X12_span_97 N S n g a0 x1 x2 x3 x4 x5 x6 = some (rv, g1) → W p l e R s m args below meth c H locs 0 0 (MQ below (Qcx D cA lo S (some (.int rv)) S g1 True) args s 0 0 (fun q : Nat => lo ≤ q)) (F0 m 97 ls []) := by
  intro n
  induction n with
  | zero =>
    intro H locs ls g a0 x1 x2 x3 x4 x5 x6 M ra0 hl q
    exact absurd q (by simp [n_X12_span_97])
  | succ n ih => exact w_X12_span_97 hx hb hml hr hlk hown hX hRf hRl (N := N)  ih
set_option maxHeartbeats 4000000 in
set_option maxRecDepth 100000 in
theorem w_X12_span_51 (hx : p.tables.exec = Jvm.exec) (hb : c.code = cX12_span) (hml : c.maxLocals = 7) (hr : meth.sig.returnType = (some .int)) (hlk : meth.locks = false) (hown : s.vm.findClass RX12 = some m.cls) (hX : Kx D cA lo tS s) (hRf : 306 ≤ R.frames) (hRl : 18360 ≤ R.locals) {N : Nat} {rv : Int32} {g1 : Hg} {S : Hs} {k51 : Hg → Nat → Int32 → Int32 → Int32 → Int32 → Int32 → Int32 → Option (Int32 × Hg)} (hk51 : ∀ (H : Heap) (locs : List Loc) (ls : Array Slot) (g : Hg) (a0 : Nat) (x1 : Int32) (x2 : Int32) (x3 : Int32) (x4 : Int32) (x5 : Int32) (x6 : Int32), Mm D cA lo S g s H locs → Rf lo S a0 12 → lv_has ls 7 [(0, .ref a0), (1, .int x1), (2, .int x2), (3, .int x3), (4, .int x4), (5, .int x5), (6, .int x6)] → k51 g a0 x1 x2 x3 x4 x5 x6 = some (rv, g1) → W p l e R s m args below meth c H locs 0 0 (MQ below (Qcx D cA lo S (some (.int rv)) S g1 True) args s 0 0 (fun q : Nat => lo ≤ q)) (F0 m 51 ls [])) : ∀ (H : Heap) (locs : List Loc) (ls : Array Slot) (g : Hg) (a0 : Nat) (x1 : Int32) (x2 : Int32) (x3 : Int32) (x4 : Int32) (x5 : Int32) (x6 : Int32), Mm D cA lo S g s H locs → Rf lo S a0 12 → lv_has ls 7 [(0, .ref a0), (1, .int x1), (2, .int x2), (3, .int x3), (4, .int x4), (5, .int x5), (6, .int x6)] → b_X12_span_51 N S k51 g a0 x1 x2 x3 x4 x5 x6 = some (rv, g1) → W p l e R s m args below meth c H locs 0 0 (MQ below (Qcx D cA lo S (some (.int rv)) S g1 True) args s 0 0 (fun q : Nat => lo ≤ q)) (F0 m 51 ls []) := by
  intro H locs ls g a0 x1 x2 x3 x4 x5 x6 M ra0 hl q
  unfold b_X12_span_51 at q
  refine lv_iload hx hb dX12_span_51 (lv_at hl 6 rfl) ?_
  refine lv_iload hx hb dX12_span_53 (lv_at hl 5 rfl) ?_
  refine lv_icmp_ge (tgt := 82) hx hb dX12_span_55 (by decide) (fun c_1 => ?_) (fun c_1 => ?_)
  · replace q := if_t c_1 q
    refine lv_aload_n hx hb dX12_span_82 rfl (lv_at hl 0 rfl) ?_
    refine lv_iload_n hx hb dX12_span_83 rfl (lv_at hl 1 rfl) ?_
    refine lv_iconst (v := 5) hx hb dX12_span_84 (by decide) ?_
    refine lv_iload_n hx hb dX12_span_85 rfl (lv_at hl 3 rfl) ?_
    refine lv_iload hx hb dX12_span_86 (lv_at hl 4 rfl) ?_
    refine lv_iload hx hb dX12_span_88 (lv_at hl 5 rfl) ?_
    replace q := c2_s q
    obtain ⟨u_3, g_2, qc, q⟩ := q
    refine x_callV hx hb hml hl.1 hown hX M (S1 := S) (As := [.int x1, .int (5 : Int32), .int x3, .int x4, .int x5]) (rest := []) okX12 ra0 rfl kw_1361 kw_38 mok_X12_begin (c_X12_begin ra0 qc (Nat.le_refl 1)) kw_1359 rfl rfl dX12_span_90 (Nat.le_of_ble_eq_true rfl) ⟨Nat.le_trans (by decide) hRf, Nat.le_trans (by decide) hRl⟩ (Nat.zero_le _) (Nat.zero_le _) (fun H locs M hEF => ?_)
    refine lv_iload hx hb dX12_span_93 (lv_at hl 4 rfl) ?_
    refine lv_istore (lv' := [(6, .int x4), (0, .ref a0), (1, .int x1), (2, .int x2), (3, .int x3), (4, .int x4), (5, .int x5)]) hx hb dX12_span_95 hl (by decide) rfl (fun ls hl => ?_)
    exact l_X12_span_97 hx hb hml hr hlk hown hX hRf hRl (N := N)  N _ _ _ _ _ _ _ _ _ _ _ M ra0 (lv_sub hl [1, 2, 3, 4, 5, 6, 0] rfl) q
  · replace q := if_f c_1 q
    refine lv_aload_n hx hb dX12_span_58 rfl (lv_at hl 0 rfl) ?_
    replace q := nn_s q
    obtain ⟨a_4, e_a_4, q⟩ := q
    refine x_getR hx hb hown hX M e_a_4 okX12 ra0 (by decide) rfl kw_1016 dX12_span_59 (fun ra_4 => ?_)
    refine lv_sipush (v := 400) hx hb dX12_span_62 (by decide) ?_
    refine lv_iload_n hx hb dX12_span_65 rfl (lv_at hl 2 rfl) ?_
    refine lv_imul hx hb dX12_span_66 ?_
    refine lv_iload hx hb dX12_span_67 (lv_at hl 6 rfl) ?_
    refine lv_iadd hx hb dX12_span_69 ?_
    replace q := ck_s q
    obtain ⟨hin, q⟩ := q
    refine x_zald hx hb hX M ra_4 (inb_in hin) dX12_span_70 ?_
    refine lv_if_eq (tgt := 76) hx hb dX12_span_71 (by decide) (fun c_5 => ?_) (fun c_5 => ?_)
    · replace q := if_t c_5 q
      obtain ⟨x_6, e_x_6⟩ : ∃ y : Int32, y = x6 + 1 := ⟨_, rfl⟩
      replace q := nm_s q e_x_6
      refine lv_iinc (v := x_6) (lv' := [(6, .int x_6), (0, .ref a0), (1, .int x1), (2, .int x2), (3, .int x3), (4, .int x4), (5, .int x5)]) hx hb dX12_span_76 hl (k := 6) rfl (by rw [e_x_6]; rfl) (by decide) rfl (fun ls hl => ?_)
      refine lv_goto (tgt := 51) hx hb dX12_span_79 (by decide) ?_
      exact hk51 _ _ _ _ _ _ _ _ _ _ _ M ra0 (lv_sub hl [1, 2, 3, 4, 5, 6, 0] rfl) q
    · replace q := if_f c_5 q
      refine lv_iconst (v := -1) hx hb dX12_span_74 (by decide) ?_
      cases q
      exact x_iret hx hb hr hlk M Ext.rf dX12_span_75
set_option maxRecDepth 100000 in
theorem l_X12_span_51 (hx : p.tables.exec = Jvm.exec) (hb : c.code = cX12_span) (hml : c.maxLocals = 7) (hr : meth.sig.returnType = (some .int)) (hlk : meth.locks = false) (hown : s.vm.findClass RX12 = some m.cls) (hX : Kx D cA lo tS s) (hRf : 306 ≤ R.frames) (hRl : 18360 ≤ R.locals) {N : Nat} {rv : Int32} {g1 : Hg} {S : Hs} : ∀ (n : Nat), ∀ (H : Heap) (locs : List Loc) (ls : Array Slot) (g : Hg) (a0 : Nat) (x1 : Int32) (x2 : Int32) (x3 : Int32) (x4 : Int32) (x5 : Int32) (x6 : Int32), Mm D cA lo S g s H locs → Rf lo S a0 12 → lv_has ls 7 [(0, .ref a0), (1, .int x1), (2, .int x2), (3, .int x3), (4, .int x4), (5, .int x5), (6, .int x6)] → n_X12_span_51 N S n g a0 x1 x2 x3 x4 x5 x6 = some (rv, g1) → W p l e R s m args below meth c H locs 0 0 (MQ below (Qcx D cA lo S (some (.int rv)) S g1 True) args s 0 0 (fun q : Nat => lo ≤ q)) (F0 m 51 ls []) := by
  intro n
  induction n with
  | zero =>
    intro H locs ls g a0 x1 x2 x3 x4 x5 x6 M ra0 hl q
    exact absurd q (by simp [n_X12_span_51])
  | succ n ih => exact w_X12_span_51 hx hb hml hr hlk hown hX hRf hRl (N := N)  ih
set_option maxHeartbeats 4000000 in
set_option maxRecDepth 100000 in
theorem w_X12_span_0 (hx : p.tables.exec = Jvm.exec) (hb : c.code = cX12_span) (hml : c.maxLocals = 7) (hr : meth.sig.returnType = (some .int)) (hlk : meth.locks = false) (hown : s.vm.findClass RX12 = some m.cls) (hX : Kx D cA lo tS s) (hRf : 306 ≤ R.frames) (hRl : 18360 ≤ R.locals) {N : Nat} {rv : Int32} {g1 : Hg} {S : Hs} : ∀ (H : Heap) (locs : List Loc) (ls : Array Slot) (g : Hg) (a0 : Nat) (x1 : Int32) (x2 : Int32) (x3 : Int32) (x4 : Int32) (x5 : Int32), Mm D cA lo S g s H locs → Rf lo S a0 12 → lv_has ls 7 [(0, .ref a0), (1, .int x1), (2, .int x2), (3, .int x3), (4, .int x4), (5, .int x5)] → b_X12_span_0 N S g a0 x1 x2 x3 x4 x5 = some (rv, g1) → W p l e R s m args below meth c H locs 0 0 (MQ below (Qcx D cA lo S (some (.int rv)) S g1 True) args s 0 0 (fun q : Nat => lo ≤ q)) (F0 m 0 ls []) := by
  intro H locs ls g a0 x1 x2 x3 x4 x5 M ra0 hl q
  unfold b_X12_span_0 at q
  refine lv_aload_n hx hb dX12_span_0 rfl (lv_at hl 0 rfl) ?_
  refine lv_iload_n hx hb dX12_span_1 rfl (lv_at hl 1 rfl) ?_
  replace q := c2_s q
  obtain ⟨x_2, g_1, qc, q⟩ := q
  refine x_callV hx hb hml hl.1 hown hX M (S1 := S) (As := [.int x1]) (rest := []) okX12 ra0 rfl kw_1357 kw_37 mok_X12_isSlot (c_X12_isSlot ra0 qc (Nat.le_refl 1)) kw_1355 rfl rfl dX12_span_2 (Nat.le_of_ble_eq_true rfl) ⟨Nat.le_trans (by decide) hRf, Nat.le_trans (by decide) hRl⟩ (Nat.zero_le _) (Nat.zero_le _) (fun H locs M hEF => ?_)
  refine lv_if_eq (tgt := 45) hx hb dX12_span_5 (by decide) (fun c_3 => ?_) (fun c_3 => ?_)
  · replace q := if_t c_3 q
    refine lv_iconst (v := -1) hx hb dX12_span_45 (by decide) ?_
    cases q
    exact x_iret hx hb hr hlk M Ext.rf dX12_span_46
  · replace q := if_f c_3 q
    refine lv_aload_n hx hb dX12_span_8 rfl (lv_at hl 0 rfl) ?_
    refine lv_iload_n hx hb dX12_span_9 rfl (lv_at hl 2 rfl) ?_
    refine lv_iload_n hx hb dX12_span_10 rfl (lv_at hl 3 rfl) ?_
    replace q := c2_s q
    obtain ⟨x_5, g_4, qc, q⟩ := q
    refine x_callV hx hb hml hl.1 hown hX M (S1 := S) (As := [.int x2, .int x3]) (rest := []) okX12 ra0 rfl kw_1233 kw_16 mok_X12_isCount (c_X12_isCount ra0 qc (Nat.le_refl 2)) kw_1231 rfl rfl dX12_span_11 (Nat.le_of_ble_eq_true rfl) ⟨Nat.le_trans (by decide) hRf, Nat.le_trans (by decide) hRl⟩ (Nat.zero_le _) (Nat.zero_le _) (fun H locs M hEF => ?_)
    refine lv_if_eq (tgt := 45) hx hb dX12_span_14 (by decide) (fun c_6 => ?_) (fun c_6 => ?_)
    · replace q := if_t c_6 q
      refine lv_iconst (v := -1) hx hb dX12_span_45 (by decide) ?_
      cases q
      exact x_iret hx hb hr hlk M Ext.rf dX12_span_46
    · replace q := if_f c_6 q
      refine lv_iload hx hb dX12_span_17 (lv_at hl 4 rfl) ?_
      refine lv_if_lt (tgt := 45) hx hb dX12_span_19 (by decide) (fun c_7 => ?_) (fun c_7 => ?_)
      · replace q := if_t c_7 q
        refine lv_iconst (v := -1) hx hb dX12_span_45 (by decide) ?_
        cases q
        exact x_iret hx hb hr hlk M Ext.rf dX12_span_46
      · replace q := if_f c_7 q
        refine lv_iload hx hb dX12_span_22 (lv_at hl 4 rfl) ?_
        refine lv_iload hx hb dX12_span_24 (lv_at hl 5 rfl) ?_
        refine lv_icmp_gt (tgt := 45) hx hb dX12_span_26 (by decide) (fun c_8 => ?_) (fun c_8 => ?_)
        · replace q := if_t c_8 q
          refine lv_iconst (v := -1) hx hb dX12_span_45 (by decide) ?_
          cases q
          exact x_iret hx hb hr hlk M Ext.rf dX12_span_46
        · replace q := if_f c_8 q
          refine lv_iload hx hb dX12_span_29 (lv_at hl 5 rfl) ?_
          refine lv_iload_n hx hb dX12_span_31 rfl (lv_at hl 3 rfl) ?_
          refine lv_icmp_gt (tgt := 45) hx hb dX12_span_32 (by decide) (fun c_9 => ?_) (fun c_9 => ?_)
          · replace q := if_t c_9 q
            refine lv_iconst (v := -1) hx hb dX12_span_45 (by decide) ?_
            cases q
            exact x_iret hx hb hr hlk M Ext.rf dX12_span_46
          · replace q := if_f c_9 q
            refine lv_iload hx hb dX12_span_35 (lv_at hl 5 rfl) ?_
            refine lv_iload hx hb dX12_span_37 (lv_at hl 4 rfl) ?_
            refine lv_isub hx hb dX12_span_39 ?_
            refine lv_bipush (v := 40) hx hb dX12_span_40 (by decide) ?_
            refine lv_icmp_le (tgt := 47) hx hb dX12_span_42 (by decide) (fun c_10 => ?_) (fun c_10 => ?_)
            · replace q := if_t c_10 q
              refine lv_iload hx hb dX12_span_47 (lv_at hl 4 rfl) ?_
              refine lv_istore (lv' := [(6, .int x4), (0, .ref a0), (1, .int x1), (2, .int x2), (3, .int x3), (4, .int x4), (5, .int x5)]) hx hb dX12_span_49 hl (by decide) rfl (fun ls hl => ?_)
              exact l_X12_span_51 hx hb hml hr hlk hown hX hRf hRl (N := N)  N _ _ _ _ _ _ _ _ _ _ _ M ra0 (lv_sub hl [1, 2, 3, 4, 5, 6, 0] rfl) q
            · replace q := if_f c_10 q
              refine lv_iconst (v := -1) hx hb dX12_span_45 (by decide) ?_
              cases q
              exact x_iret hx hb hr hlk M Ext.rf dX12_span_46
set_option maxRecDepth 100000 in
theorem c_X12_span {l : Launch} {D : va_G} {cA : Nat → ClassId} {lo tS N : Nat} {S : Hs} {g g1 : Hg} {rv : Int32} {a0 : Nat} {x1 : Int32} {x2 : Int32} {x3 : Int32} {x4 : Int32} {x5 : Int32} (ra0 : Rf lo S a0 12) (q : f_X12_span N S g a0 x1 x2 x3 x4 x5 = some (rv, g1)) {d : Nat} (hd : 306 ≤ d) : Ctr l yX12_span cX12_span 7 (some .int) D cA lo tS [.ref a0, .int x1, .int x2, .int x3, .int x4, .int x5] S g d (some (.int rv)) S g1 True 0 0 := by
  refine x_met (by decide) (Nat.le_of_ble_eq_true rfl) ?_
  intro p e s m below meth c ls hx hb hml hr hlk hown hnm hX M hl
  exact w_X12_span_0 hx hb hml hr hlk hown hX hd (Nat.mul_le_mul_left 60 hd) (N := N) _ _ _ _ _ _ _ _ _ _ M ra0 (lv_sub hl [0, 1, 2, 3, 4, 5] rfl) q
def b_X12_step__0 (N : Nat) (S : Hs) (g : Hg) (a0 : Nat) (x1 : Int32) (x2 : Int32) (x3 : Int32) : Option (Int32 × Hg) :=
c2 (f_X12_isStep N S g a0 x1 x2 x3) (fun x_2 g_1 =>
if x_2 = 0 then (
some ((0 : Int32), g_1)) else (
nn (rdR g_1 a0 12) (fun a_4 =>
ck (inb (((8 : Int32) * (((256 : Int32) * x1) + x2)) + x3) (hpL S a_4)) (
some ((rdI g_1 a_4 (((8 : Int32) * (((256 : Int32) * x1) + x2)) + x3).toNatClampNeg), g_1)))))
def f_X12_step_ (N : Nat) (S : Hs) (g : Hg) (a0 : Nat) (x1 : Int32) (x2 : Int32) (x3 : Int32) : Option (Int32 × Hg) := b_X12_step__0 N S g a0 x1 x2 x3
set_option maxHeartbeats 4000000 in
set_option maxRecDepth 100000 in
theorem w_X12_step__0 (hx : p.tables.exec = Jvm.exec) (hb : c.code = cX12_step_) (hml : c.maxLocals = 4) (hr : meth.sig.returnType = (some .int)) (hlk : meth.locks = false) (hown : s.vm.findClass RX12 = some m.cls) (hX : Kx D cA lo tS s) (hRf : 3 ≤ R.frames) (hRl : 180 ≤ R.locals) {N : Nat} {rv : Int32} {g1 : Hg} {S : Hs} : ∀ (H : Heap) (locs : List Loc) (ls : Array Slot) (g : Hg) (a0 : Nat) (x1 : Int32) (x2 : Int32) (x3 : Int32), Mm D cA lo S g s H locs → Rf lo S a0 12 → lv_has ls 4 [(0, .ref a0), (1, .int x1), (2, .int x2), (3, .int x3)] → b_X12_step__0 N S g a0 x1 x2 x3 = some (rv, g1) → W p l e R s m args below meth c H locs 0 0 (MQ below (Qcx D cA lo S (some (.int rv)) S g1 True) args s 0 0 (fun q : Nat => lo ≤ q)) (F0 m 0 ls []) := by
  intro H locs ls g a0 x1 x2 x3 M ra0 hl q
  unfold b_X12_step__0 at q
  refine lv_aload_n hx hb dX12_step__0 rfl (lv_at hl 0 rfl) ?_
  refine lv_iload_n hx hb dX12_step__1 rfl (lv_at hl 1 rfl) ?_
  refine lv_iload_n hx hb dX12_step__2 rfl (lv_at hl 2 rfl) ?_
  refine lv_iload_n hx hb dX12_step__3 rfl (lv_at hl 3 rfl) ?_
  replace q := c2_s q
  obtain ⟨x_2, g_1, qc, q⟩ := q
  refine x_callV hx hb hml hl.1 hown hX M (S1 := S) (As := [.int x1, .int x2, .int x3]) (rest := []) okX12 ra0 rfl kw_1405 kw_42 mok_X12_isStep (c_X12_isStep ra0 qc (Nat.le_refl 2)) kw_1403 rfl rfl dX12_step__4 (Nat.le_of_ble_eq_true rfl) ⟨Nat.le_trans (by decide) hRf, Nat.le_trans (by decide) hRl⟩ (Nat.zero_le _) (Nat.zero_le _) (fun H locs M hEF => ?_)
  refine lv_if_eq (tgt := 30) hx hb dX12_step__7 (by decide) (fun c_3 => ?_) (fun c_3 => ?_)
  · replace q := if_t c_3 q
    refine lv_iconst (v := 0) hx hb dX12_step__30 (by decide) ?_
    cases q
    exact x_iret hx hb hr hlk M Ext.rf dX12_step__31
  · replace q := if_f c_3 q
    refine lv_aload_n hx hb dX12_step__10 rfl (lv_at hl 0 rfl) ?_
    replace q := nn_s q
    obtain ⟨a_4, e_a_4, q⟩ := q
    refine x_getR hx hb hown hX M e_a_4 okX12 ra0 (by decide) rfl kw_1024 dX12_step__11 (fun ra_4 => ?_)
    refine lv_bipush (v := 8) hx hb dX12_step__14 (by decide) ?_
    refine lv_sipush (v := 256) hx hb dX12_step__16 (by decide) ?_
    refine lv_iload_n hx hb dX12_step__19 rfl (lv_at hl 1 rfl) ?_
    refine lv_imul hx hb dX12_step__20 ?_
    refine lv_iload_n hx hb dX12_step__21 rfl (lv_at hl 2 rfl) ?_
    refine lv_iadd hx hb dX12_step__22 ?_
    refine lv_imul hx hb dX12_step__23 ?_
    refine lv_iload_n hx hb dX12_step__24 rfl (lv_at hl 3 rfl) ?_
    refine lv_iadd hx hb dX12_step__25 ?_
    replace q := ck_s q
    obtain ⟨hin, q⟩ := q
    refine x_iald hx hb hX M ra_4 (inb_in hin) dX12_step__26 ?_
    refine lv_goto (tgt := 31) hx hb dX12_step__27 (by decide) ?_
    cases q
    exact x_iret hx hb hr hlk M Ext.rf dX12_step__31
set_option maxRecDepth 100000 in
theorem c_X12_step_ {l : Launch} {D : va_G} {cA : Nat → ClassId} {lo tS N : Nat} {S : Hs} {g g1 : Hg} {rv : Int32} {a0 : Nat} {x1 : Int32} {x2 : Int32} {x3 : Int32} (ra0 : Rf lo S a0 12) (q : f_X12_step_ N S g a0 x1 x2 x3 = some (rv, g1)) {d : Nat} (hd : 3 ≤ d) : Ctr l yX12_step_ cX12_step_ 4 (some .int) D cA lo tS [.ref a0, .int x1, .int x2, .int x3] S g d (some (.int rv)) S g1 True 0 0 := by
  refine x_met (by decide) (Nat.le_of_ble_eq_true rfl) ?_
  intro p e s m below meth c ls hx hb hml hr hlk hown hnm hX M hl
  exact w_X12_step__0 hx hb hml hr hlk hown hX hd (Nat.mul_le_mul_left 60 hd) (N := N) _ _ _ _ _ _ _ _ M ra0 (lv_sub hl [0, 1, 2, 3] rfl) q
end W18
