section W9
variable {p : Program} {l : Launch} {e : Env} {R : Room} {s : State} {m : MethodId} {args : Array Value} {below : List Frame} {meth : Method} {c : Code} {D : va_G} {cA : Nat → ClassId} {lo tS : Nat}
def b_X11_proof_0 (N : Nat) (S : Hs) (g : Hg) (a0 : Nat) (x1 : Int32) (x2 : Int32) : Option (Int32 × Hg) :=
nn (rdR g a0 3) (fun a_1 =>
c2 (f_X1_slotAt N S g a_1 x1) (fun o_3 g_2 =>
on o_3 (
some ((-1 : Int32), g_2)) (fun a_4 =>
nm x2 (fun x_5 =>
if x_5 = 0 then (
some ((rdI g_2 a_4 5), g_2)) else (
if x_5 = 1 then (
some ((rdI g_2 a_4 4), g_2)) else (
if x_5 = 2 then (
some ((rdI g_2 a_4 6), g_2)) else (
if x_5 = 3 then (
some ((rdI g_2 a_4 7), g_2)) else (
if x_5 = 4 then (
some ((rdI g_2 a_4 8), g_2)) else (
if x_5 = 5 then (
c2 (f_X7_toldKey N S g_2 a_4) (fun x_7 g_6 =>
some (x_7, g_6))) else (
if x_5 = 6 then (
some ((rdI g_2 a_4 10), g_2)) else (
if x_5 = 7 then (
some ((rdI g_2 a_4 11), g_2)) else (
some ((-1 : Int32), g_2)))))))))))))
def f_X11_proof (N : Nat) (S : Hs) (g : Hg) (a0 : Nat) (x1 : Int32) (x2 : Int32) : Option (Int32 × Hg) := b_X11_proof_0 N S g a0 x1 x2
set_option maxHeartbeats 4000000 in
set_option maxRecDepth 100000 in
theorem w_X11_proof_0 (hx : p.tables.exec = Jvm.exec) (hb : c.code = cX11_proof) (hml : c.maxLocals = 4) (hr : meth.sig.returnType = (some .int)) (hlk : meth.locks = false) (hown : s.vm.findClass RX11 = some m.cls) (hX : Kx D cA lo tS s) (hRf : 2 ≤ R.frames) (hRl : 120 ≤ R.locals) {N : Nat} {rv : Int32} {g1 : Hg} {S : Hs} : ∀ (H : Heap) (locs : List Loc) (ls : Array Slot) (g : Hg) (a0 : Nat) (x1 : Int32) (x2 : Int32), Mm D cA lo S g s H locs → Rf lo S a0 11 → lv_has ls 4 [(0, .ref a0), (1, .int x1), (2, .int x2)] → b_X11_proof_0 N S g a0 x1 x2 = some (rv, g1) → W p l e R s m args below meth c H locs 0 0 (MQ below (Qcx D cA lo S (some (.int rv)) S g1 True) args s 0 0 (fun q : Nat => lo ≤ q)) (F0 m 0 ls []) := by
  intro H locs ls g a0 x1 x2 M ra0 hl q
  unfold b_X11_proof_0 at q
  refine lv_aload_n hx hb dX11_proof_0 rfl (lv_at hl 0 rfl) ?_
  replace q := nn_s q
  obtain ⟨a_1, e_a_1, q⟩ := q
  refine x_getR hx hb hown hX M e_a_1 okX11 ra0 (by decide) rfl kw_359 dX11_proof_1 (fun ra_1 => ?_)
  refine lv_iload_n hx hb dX11_proof_4 rfl (lv_at hl 1 rfl) ?_
  replace q := c2_s q
  obtain ⟨o_3, g_2, qc, q⟩ := q
  refine x_callV hx hb hml hl.1 hown hX M (S1 := S) (As := [.int x1]) (rest := []) okX1 ra_1 rfl kw_732 kw_733 mok_X1_slotAt (c_X1_slotAt ra_1 qc (Nat.le_refl 1)) kw_731 rfl rfl dX11_proof_5 (Nat.le_of_ble_eq_true rfl) ⟨Nat.le_trans (by decide) hRf, Nat.le_trans (by decide) hRl⟩ (Nat.zero_le _) (Nat.zero_le _) (fun H locs M hEF => ?_)
  have ro_3 := hEF.2
  refine x_astore_n (lv' := [(3, va_rf o_3), (0, .ref a0), (1, .int x1), (2, .int x2)]) hx hb dX11_proof_8 rfl hl (by decide) rfl (fun ls hl => ?_)
  refine x_aload_n hx hb dX11_proof_9 rfl (lv_at hl 0 rfl) ?_
  refine x_ifnonnull (tgt := 15) hx hb dX11_proof_10 (by decide) (fun a_4 c_8 => ?_) (fun c_8 => ?_)
  · subst c_8
    replace q := on_s rfl q
    have ra_4 := ro_3 a_4 rfl
    have hl : lv_has ls 4 [(3, .ref a_4), (0, .ref a0), (1, .int x1), (2, .int x2)] := hl
    refine lv_iload_n hx hb dX11_proof_15 rfl (lv_at hl 3 rfl) ?_
    refine lv_topi (fun x_5 e_x_5 => ?_)
    replace q := nm_s q e_x_5
    clear e_x_5
    by_cases cx_5_0 : x_5 = 0
    · replace q := if_t cx_5_0 q
      subst cx_5_0
      refine lv_tableIn (off := 48) (tgt := 64) hx hb dX11_proof_16 (by decide) (by decide) (by decide) (by decide) ?_
      refine lv_aload_n hx hb dX11_proof_64 rfl (lv_at hl 0 rfl) ?_
      refine x_getI hx hb hown hX M (k := 5) okX7 ra_4 (by decide) rfl kw_198 dX11_proof_65 ?_
      cases q
      exact x_iret hx hb hr hlk M Ext.rf dX11_proof_68
    replace q := if_f cx_5_0 q
    by_cases cx_5_1 : x_5 = 1
    · replace q := if_t cx_5_1 q
      subst cx_5_1
      refine lv_tableIn (off := 53) (tgt := 69) hx hb dX11_proof_16 (by decide) (by decide) (by decide) (by decide) ?_
      refine lv_aload_n hx hb dX11_proof_69 rfl (lv_at hl 0 rfl) ?_
      refine x_getI hx hb hown hX M (k := 4) okX7 ra_4 (by decide) rfl kw_194 dX11_proof_70 ?_
      cases q
      exact x_iret hx hb hr hlk M Ext.rf dX11_proof_73
    replace q := if_f cx_5_1 q
    by_cases cx_5_2 : x_5 = 2
    · replace q := if_t cx_5_2 q
      subst cx_5_2
      refine lv_tableIn (off := 58) (tgt := 74) hx hb dX11_proof_16 (by decide) (by decide) (by decide) (by decide) ?_
      refine lv_aload_n hx hb dX11_proof_74 rfl (lv_at hl 0 rfl) ?_
      refine x_getI hx hb hown hX M (k := 6) okX7 ra_4 (by decide) rfl kw_201 dX11_proof_75 ?_
      cases q
      exact x_iret hx hb hr hlk M Ext.rf dX11_proof_78
    replace q := if_f cx_5_2 q
    by_cases cx_5_3 : x_5 = 3
    · replace q := if_t cx_5_3 q
      subst cx_5_3
      refine lv_tableIn (off := 63) (tgt := 79) hx hb dX11_proof_16 (by decide) (by decide) (by decide) (by decide) ?_
      refine lv_aload_n hx hb dX11_proof_79 rfl (lv_at hl 0 rfl) ?_
      refine x_getI hx hb hown hX M (k := 7) okX7 ra_4 (by decide) rfl kw_204 dX11_proof_80 ?_
      cases q
      exact x_iret hx hb hr hlk M Ext.rf dX11_proof_83
    replace q := if_f cx_5_3 q
    by_cases cx_5_4 : x_5 = 4
    · replace q := if_t cx_5_4 q
      subst cx_5_4
      refine lv_tableIn (off := 68) (tgt := 84) hx hb dX11_proof_16 (by decide) (by decide) (by decide) (by decide) ?_
      refine lv_aload_n hx hb dX11_proof_84 rfl (lv_at hl 0 rfl) ?_
      refine x_getI hx hb hown hX M (k := 8) okX7 ra_4 (by decide) rfl kw_206 dX11_proof_85 ?_
      cases q
      exact x_iret hx hb hr hlk M Ext.rf dX11_proof_88
    replace q := if_f cx_5_4 q
    by_cases cx_5_5 : x_5 = 5
    · replace q := if_t cx_5_5 q
      subst cx_5_5
      refine lv_tableIn (off := 73) (tgt := 89) hx hb dX11_proof_16 (by decide) (by decide) (by decide) (by decide) ?_
      refine lv_aload_n hx hb dX11_proof_89 rfl (lv_at hl 0 rfl) ?_
      replace q := c2_s q
      obtain ⟨x_7, g_6, qc, q⟩ := q
      refine x_callV hx hb hml hl.1 hown hX M (S1 := S) (As := []) (rest := []) okX7 ra_4 rfl kw_817 kw_818 mok_X7_toldKey (c_X7_toldKey ra_4 qc (Nat.le_refl 1)) kw_816 rfl rfl dX11_proof_90 (Nat.le_of_ble_eq_true rfl) ⟨Nat.le_trans (by decide) hRf, Nat.le_trans (by decide) hRl⟩ (Nat.zero_le _) (Nat.zero_le _) (fun H locs M hEF => ?_)
      cases q
      exact x_iret hx hb hr hlk M Ext.rf dX11_proof_93
    replace q := if_f cx_5_5 q
    by_cases cx_5_6 : x_5 = 6
    · replace q := if_t cx_5_6 q
      subst cx_5_6
      refine lv_tableIn (off := 78) (tgt := 94) hx hb dX11_proof_16 (by decide) (by decide) (by decide) (by decide) ?_
      refine lv_aload_n hx hb dX11_proof_94 rfl (lv_at hl 0 rfl) ?_
      refine x_getI hx hb hown hX M (k := 10) okX7 ra_4 (by decide) rfl kw_213 dX11_proof_95 ?_
      cases q
      exact x_iret hx hb hr hlk M Ext.rf dX11_proof_98
    replace q := if_f cx_5_6 q
    by_cases cx_5_7 : x_5 = 7
    · replace q := if_t cx_5_7 q
      subst cx_5_7
      refine lv_tableIn (off := 83) (tgt := 99) hx hb dX11_proof_16 (by decide) (by decide) (by decide) (by decide) ?_
      refine lv_aload_n hx hb dX11_proof_99 rfl (lv_at hl 0 rfl) ?_
      refine x_getI hx hb hown hX M (k := 11) okX7 ra_4 (by decide) rfl kw_216 dX11_proof_100 ?_
      cases q
      exact x_iret hx hb hr hlk M Ext.rf dX11_proof_103
    replace q := if_f cx_5_7 q
    refine lv_tableOut (tgt := 104) hx hb dX11_proof_16 (sw_def (fun z h1 h2 => ?_)) (by decide) ?_
    · have hz : z = 0 ∨ z = 1 ∨ z = 2 ∨ z = 3 ∨ z = 4 ∨ z = 5 ∨ z = 6 ∨ z = 7 := by omega
      rcases hz with rfl | rfl | rfl | rfl | rfl | rfl | rfl | rfl
      · exact cx_5_0
      · exact cx_5_1
      · exact cx_5_2
      · exact cx_5_3
      · exact cx_5_4
      · exact cx_5_5
      · exact cx_5_6
      · exact cx_5_7
    · refine lv_iconst (v := -1) hx hb dX11_proof_104 (by decide) ?_
      cases q
      exact x_iret hx hb hr hlk M Ext.rf dX11_proof_105
  · replace q := on_n c_8 q
    refine lv_iconst (v := -1) hx hb dX11_proof_13 (by decide) ?_
    cases q
    exact x_iret hx hb hr hlk M Ext.rf dX11_proof_14
set_option maxRecDepth 100000 in
theorem c_X11_proof {l : Launch} {D : va_G} {cA : Nat → ClassId} {lo tS N : Nat} {S : Hs} {g g1 : Hg} {rv : Int32} {a0 : Nat} {x1 : Int32} {x2 : Int32} (ra0 : Rf lo S a0 11) (q : f_X11_proof N S g a0 x1 x2 = some (rv, g1)) {d : Nat} (hd : 2 ≤ d) : Ctr l yX11_proof cX11_proof 4 (some .int) D cA lo tS [.ref a0, .int x1, .int x2] S g d (some (.int rv)) S g1 True 0 0 := by
  refine x_met (by decide) (Nat.le_of_ble_eq_true rfl) ?_
  intro p e s m below meth c ls hx hb hml hr hlk hown hnm hX M hl
  exact w_X11_proof_0 hx hb hml hr hlk hown hX hd (Nat.mul_le_mul_left 60 hd) (N := N) _ _ _ _ _ _ _ M ra0 (lv_sub hl [0, 1, 2] rfl) q
def b_X3_forget_4 (N : Nat) (S : Hs) (k4 : Hg → Nat → Int32 → Int32 → Int32 → Option (Int32 × Hg)) (g : Hg) (a0 : Nat) (x1 : Int32) (x2 : Int32) (x3 : Int32) : Option (Int32 × Hg) :=
if x1 ≤ x3 then (
some (x2, g)) else (
if (rdI g a0 7) ≤ x3 then (
some (x2, g)) else (
nn (rdR g a0 3) (fun a_3 =>
ck (inb x3 (hpL S a_3)) (
if (rdI g a_3 x3.toNatClampNeg) = 0 then (
nn (rdR g a0 3) (fun a_6 =>
ck (inb x3 (hpL S a_6)) (
nm (wrI g a_6 x3.toNatClampNeg (2 : Int32)) (fun g_7 =>
nn (rdR g_7 a0 4) (fun a_8 =>
ck (inb x3 (hpL S a_8)) (
nm (wrL g_7 a_8 x3.toNatClampNeg (0 : Int64)) (fun g_9 =>
nm (x2 + 1) (fun x_10 =>
nm (x3 + 1) (fun x_11 =>
k4 g_9 a0 x1 x_10 x_11))))))))) else (
nm (x3 + 1) (fun x_5 =>
k4 g a0 x1 x2 x_5))))))
def n_X3_forget_4 (N : Nat) (S : Hs) : Nat → Hg → Nat → Int32 → Int32 → Int32 → Option (Int32 × Hg)
  | 0 => fun _ _ _ _ _ => none
  | n + 1 => fun g a0 x1 x2 x3 => b_X3_forget_4 N S (n_X3_forget_4 N S n) g a0 x1 x2 x3
def b_X3_forget_0 (N : Nat) (S : Hs) (g : Hg) (a0 : Nat) (x1 : Int32) : Option (Int32 × Hg) :=
n_X3_forget_4 N S N g a0 x1 (0 : Int32) (0 : Int32)
def f_X3_forget (N : Nat) (S : Hs) (g : Hg) (a0 : Nat) (x1 : Int32) : Option (Int32 × Hg) := b_X3_forget_0 N S g a0 x1
set_option maxHeartbeats 4000000 in
set_option maxRecDepth 100000 in
theorem w_X3_forget_4 (hx : p.tables.exec = Jvm.exec) (hb : c.code = cX3_forget) (hml : c.maxLocals = 4) (hr : meth.sig.returnType = (some .int)) (hlk : meth.locks = false) (hown : s.vm.findClass RX3 = some m.cls) (hX : Kx D cA lo tS s) (hRf : 1 ≤ R.frames) (hRl : 60 ≤ R.locals) {N : Nat} {rv : Int32} {g1 : Hg} {S : Hs} {k4 : Hg → Nat → Int32 → Int32 → Int32 → Option (Int32 × Hg)} (hk4 : ∀ (H : Heap) (locs : List Loc) (ls : Array Slot) (g : Hg) (a0 : Nat) (x1 : Int32) (x2 : Int32) (x3 : Int32), Mm D cA lo S g s H locs → Rf lo S a0 3 → lv_has ls 4 [(0, .ref a0), (1, .int x1), (2, .int x2), (3, .int x3)] → k4 g a0 x1 x2 x3 = some (rv, g1) → W p l e R s m args below meth c H locs 0 0 (MQ below (Qcx D cA lo S (some (.int rv)) S g1 True) args s 0 0 (fun q : Nat => lo ≤ q)) (F0 m 4 ls [])) : ∀ (H : Heap) (locs : List Loc) (ls : Array Slot) (g : Hg) (a0 : Nat) (x1 : Int32) (x2 : Int32) (x3 : Int32), Mm D cA lo S g s H locs → Rf lo S a0 3 → lv_has ls 4 [(0, .ref a0), (1, .int x1), (2, .int x2), (3, .int x3)] → b_X3_forget_4 N S k4 g a0 x1 x2 x3 = some (rv, g1) → W p l e R s m args below meth c H locs 0 0 (MQ below (Qcx D cA lo S (some (.int rv)) S g1 True) args s 0 0 (fun q : Nat => lo ≤ q)) (F0 m 4 ls []) := by
  intro H locs ls g a0 x1 x2 x3 M ra0 hl q
  unfold b_X3_forget_4 at q
  refine lv_iload_n hx hb dX3_forget_4 rfl (lv_at hl 3 rfl) ?_
  refine lv_iload_n hx hb dX3_forget_5 rfl (lv_at hl 1 rfl) ?_
  refine lv_icmp_ge (tgt := 49) hx hb dX3_forget_6 (by decide) (fun c_1 => ?_) (fun c_1 => ?_)
  · replace q := if_t c_1 q
    refine lv_iload_n hx hb dX3_forget_49 rfl (lv_at hl 2 rfl) ?_
    cases q
    exact x_iret hx hb hr hlk M Ext.rf dX3_forget_50
  · replace q := if_f c_1 q
    refine lv_iload_n hx hb dX3_forget_9 rfl (lv_at hl 3 rfl) ?_
    refine lv_aload_n hx hb dX3_forget_10 rfl (lv_at hl 0 rfl) ?_
    refine x_getI hx hb hown hX M (k := 7) okX3 ra0 (by decide) rfl kw_457 dX3_forget_11 ?_
    refine lv_icmp_ge (tgt := 49) hx hb dX3_forget_14 (by decide) (fun c_2 => ?_) (fun c_2 => ?_)
    · replace q := if_t c_2 q
      refine lv_iload_n hx hb dX3_forget_49 rfl (lv_at hl 2 rfl) ?_
      cases q
      exact x_iret hx hb hr hlk M Ext.rf dX3_forget_50
    · replace q := if_f c_2 q
      refine lv_aload_n hx hb dX3_forget_17 rfl (lv_at hl 0 rfl) ?_
      replace q := nn_s q
      obtain ⟨a_3, e_a_3, q⟩ := q
      refine x_getR hx hb hown hX M e_a_3 okX3 ra0 (by decide) rfl kw_450 dX3_forget_18 (fun ra_3 => ?_)
      refine lv_iload_n hx hb dX3_forget_21 rfl (lv_at hl 3 rfl) ?_
      replace q := ck_s q
      obtain ⟨hin, q⟩ := q
      refine x_iald hx hb hX M ra_3 (inb_in hin) dX3_forget_22 ?_
      refine lv_if_ne (tgt := 43) hx hb dX3_forget_23 (by decide) (fun c_4 => ?_) (fun c_4 => ?_)
      · replace q := if_f c_4 q
        obtain ⟨x_5, e_x_5⟩ : ∃ y : Int32, y = x3 + 1 := ⟨_, rfl⟩
        replace q := nm_s q e_x_5
        refine lv_iinc (v := x_5) (lv' := [(3, .int x_5), (0, .ref a0), (1, .int x1), (2, .int x2)]) hx hb dX3_forget_43 hl (k := 3) rfl (by rw [e_x_5]; rfl) (by decide) rfl (fun ls hl => ?_)
        refine lv_goto (tgt := 4) hx hb dX3_forget_46 (by decide) ?_
        exact hk4 _ _ _ _ _ _ _ _ M ra0 (lv_sub hl [1, 2, 3, 0] rfl) q
      · replace q := if_t c_4 q
        refine lv_aload_n hx hb dX3_forget_26 rfl (lv_at hl 0 rfl) ?_
        replace q := nn_s q
        obtain ⟨a_6, e_a_6, q⟩ := q
        refine x_getR hx hb hown hX M e_a_6 okX3 ra0 (by decide) rfl kw_450 dX3_forget_27 (fun ra_6 => ?_)
        refine lv_iload_n hx hb dX3_forget_30 rfl (lv_at hl 3 rfl) ?_
        refine lv_iconst (v := 2) hx hb dX3_forget_31 (by decide) ?_
        replace q := ck_s q
        obtain ⟨hin, q⟩ := q
        refine x_iast hx hb hX M ra_6 (inb_in hin) dX3_forget_32 (fun H locs M => ?_)
        replace q := gen_g M q
        obtain ⟨g_7, -, M, q⟩ := q
        refine lv_aload_n hx hb dX3_forget_33 rfl (lv_at hl 0 rfl) ?_
        replace q := nn_s q
        obtain ⟨a_8, e_a_8, q⟩ := q
        refine x_getR hx hb hown hX M e_a_8 okX3 ra0 (by decide) rfl kw_452 dX3_forget_34 (fun ra_8 => ?_)
        refine lv_iload_n hx hb dX3_forget_37 rfl (lv_at hl 3 rfl) ?_
        refine lv_lconst (v := 0) hx hb dX3_forget_38 (by decide) ?_
        replace q := ck_s q
        obtain ⟨hin, q⟩ := q
        refine x_last hx hb hX M ra_8 (inb_in hin) dX3_forget_39 (fun H locs M => ?_)
        replace q := gen_g M q
        obtain ⟨g_9, -, M, q⟩ := q
        obtain ⟨x_10, e_x_10⟩ : ∃ y : Int32, y = x2 + 1 := ⟨_, rfl⟩
        replace q := nm_s q e_x_10
        refine lv_iinc (v := x_10) (lv' := [(2, .int x_10), (0, .ref a0), (1, .int x1), (3, .int x3)]) hx hb dX3_forget_40 hl (k := 2) rfl (by rw [e_x_10]; rfl) (by decide) rfl (fun ls hl => ?_)
        obtain ⟨x_11, e_x_11⟩ : ∃ y : Int32, y = x3 + 1 := ⟨_, rfl⟩
        replace q := nm_s q e_x_11
        refine lv_iinc (v := x_11) (lv' := [(3, .int x_11), (2, .int x_10), (0, .ref a0), (1, .int x1)]) hx hb dX3_forget_43 hl (k := 3) rfl (by rw [e_x_11]; rfl) (by decide) rfl (fun ls hl => ?_)
        refine lv_goto (tgt := 4) hx hb dX3_forget_46 (by decide) ?_
        exact hk4 _ _ _ _ _ _ _ _ M ra0 (lv_sub hl [2, 3, 1, 0] rfl) q
set_option maxRecDepth 100000 in
theorem l_X3_forget_4 (hx : p.tables.exec = Jvm.exec) (hb : c.code = cX3_forget) (hml : c.maxLocals = 4) (hr : meth.sig.returnType = (some .int)) (hlk : meth.locks = false) (hown : s.vm.findClass RX3 = some m.cls) (hX : Kx D cA lo tS s) (hRf : 1 ≤ R.frames) (hRl : 60 ≤ R.locals) {N : Nat} {rv : Int32} {g1 : Hg} {S : Hs} : ∀ (n : Nat), ∀ (H : Heap) (locs : List Loc) (ls : Array Slot) (g : Hg) (a0 : Nat) (x1 : Int32) (x2 : Int32) (x3 : Int32), Mm D cA lo S g s H locs → Rf lo S a0 3 → lv_has ls 4 [(0, .ref a0), (1, .int x1), (2, .int x2), (3, .int x3)] → n_X3_forget_4 N S n g a0 x1 x2 x3 = some (rv, g1) → W p l e R s m args below meth c H locs 0 0 (MQ below (Qcx D cA lo S (some (.int rv)) S g1 True) args s 0 0 (fun q : Nat => lo ≤ q)) (F0 m 4 ls []) := by
  intro n
  induction n with
  | zero =>
    intro H locs ls g a0 x1 x2 x3 M ra0 hl q
    exact absurd q (by simp [n_X3_forget_4])
  | succ n ih => exact w_X3_forget_4 hx hb hml hr hlk hown hX hRf hRl (N := N)  ih
set_option maxHeartbeats 4000000 in
set_option maxRecDepth 100000 in
theorem w_X3_forget_0 (hx : p.tables.exec = Jvm.exec) (hb : c.code = cX3_forget) (hml : c.maxLocals = 4) (hr : meth.sig.returnType = (some .int)) (hlk : meth.locks = false) (hown : s.vm.findClass RX3 = some m.cls) (hX : Kx D cA lo tS s) (hRf : 1 ≤ R.frames) (hRl : 60 ≤ R.locals) {N : Nat} {rv : Int32} {g1 : Hg} {S : Hs} : ∀ (H : Heap) (locs : List Loc) (ls : Array Slot) (g : Hg) (a0 : Nat) (x1 : Int32), Mm D cA lo S g s H locs → Rf lo S a0 3 → lv_has ls 4 [(0, .ref a0), (1, .int x1)] → b_X3_forget_0 N S g a0 x1 = some (rv, g1) → W p l e R s m args below meth c H locs 0 0 (MQ below (Qcx D cA lo S (some (.int rv)) S g1 True) args s 0 0 (fun q : Nat => lo ≤ q)) (F0 m 0 ls []) := by
  intro H locs ls g a0 x1 M ra0 hl q
  unfold b_X3_forget_0 at q
  refine lv_iconst (v := 0) hx hb dX3_forget_0 (by decide) ?_
  refine lv_istore_n (lv' := [(2, .int (0 : Int32)), (0, .ref a0), (1, .int x1)]) hx hb dX3_forget_1 rfl hl (by decide) rfl (fun ls hl => ?_)
  refine lv_iconst (v := 0) hx hb dX3_forget_2 (by decide) ?_
  refine lv_istore_n (lv' := [(3, .int (0 : Int32)), (2, .int (0 : Int32)), (0, .ref a0), (1, .int x1)]) hx hb dX3_forget_3 rfl hl (by decide) rfl (fun ls hl => ?_)
  exact l_X3_forget_4 hx hb hml hr hlk hown hX hRf hRl (N := N)  N _ _ _ _ _ _ _ _ M ra0 (lv_sub hl [2, 3, 1, 0] rfl) q
set_option maxRecDepth 100000 in
theorem c_X3_forget {l : Launch} {D : va_G} {cA : Nat → ClassId} {lo tS N : Nat} {S : Hs} {g g1 : Hg} {rv : Int32} {a0 : Nat} {x1 : Int32} (ra0 : Rf lo S a0 3) (q : f_X3_forget N S g a0 x1 = some (rv, g1)) {d : Nat} (hd : 1 ≤ d) : Ctr l yX3_forget cX3_forget 4 (some .int) D cA lo tS [.ref a0, .int x1] S g d (some (.int rv)) S g1 True 0 0 := by
  refine x_met (by decide) (Nat.le_of_ble_eq_true rfl) ?_
  intro p e s m below meth c ls hx hb hml hr hlk hown hnm hX M hl
  exact w_X3_forget_0 hx hb hml hr hlk hown hX hd (Nat.mul_le_mul_left 60 hd) (N := N) _ _ _ _ _ _ M ra0 (lv_sub hl [0, 1] rfl) q
def b_X11_prune_0 (N : Nat) (S : Hs) (g : Hg) (a0 : Nat) (x1 : Int32) (x2 : Int32) : Option (Int32 × Hg) :=
nn (rdR g a0 3) (fun a_1 =>
c2 (f_X1_logAt N S g a_1 x1) (fun o_3 g_2 =>
on o_3 (
some ((-1 : Int32), g_2)) (fun a_4 =>
c2 (f_X3_reaches N S g_2 a_4 x2) (fun x_6 g_5 =>
if x_6 = 0 then (
some ((-1 : Int32), g_5)) else (
c2 (f_X3_forget N S g_5 a_4 x2) (fun x_9 g_8 =>
some (x_9, g_8)))))))
def f_X11_prune (N : Nat) (S : Hs) (g : Hg) (a0 : Nat) (x1 : Int32) (x2 : Int32) : Option (Int32 × Hg) := b_X11_prune_0 N S g a0 x1 x2
set_option maxHeartbeats 4000000 in
set_option maxRecDepth 100000 in
theorem w_X11_prune_0 (hx : p.tables.exec = Jvm.exec) (hb : c.code = cX11_prune) (hml : c.maxLocals = 4) (hr : meth.sig.returnType = (some .int)) (hlk : meth.locks = false) (hown : s.vm.findClass RX11 = some m.cls) (hX : Kx D cA lo tS s) (hRf : 2 ≤ R.frames) (hRl : 120 ≤ R.locals) {N : Nat} {rv : Int32} {g1 : Hg} {S : Hs} : ∀ (H : Heap) (locs : List Loc) (ls : Array Slot) (g : Hg) (a0 : Nat) (x1 : Int32) (x2 : Int32), Mm D cA lo S g s H locs → Rf lo S a0 11 → lv_has ls 4 [(0, .ref a0), (1, .int x1), (2, .int x2)] → b_X11_prune_0 N S g a0 x1 x2 = some (rv, g1) → W p l e R s m args below meth c H locs 0 0 (MQ below (Qcx D cA lo S (some (.int rv)) S g1 True) args s 0 0 (fun q : Nat => lo ≤ q)) (F0 m 0 ls []) := by
  intro H locs ls g a0 x1 x2 M ra0 hl q
  unfold b_X11_prune_0 at q
  refine lv_aload_n hx hb dX11_prune_0 rfl (lv_at hl 0 rfl) ?_
  replace q := nn_s q
  obtain ⟨a_1, e_a_1, q⟩ := q
  refine x_getR hx hb hown hX M e_a_1 okX11 ra0 (by decide) rfl kw_359 dX11_prune_1 (fun ra_1 => ?_)
  refine lv_iload_n hx hb dX11_prune_4 rfl (lv_at hl 1 rfl) ?_
  replace q := c2_s q
  obtain ⟨o_3, g_2, qc, q⟩ := q
  refine x_callV hx hb hml hl.1 hown hX M (S1 := S) (As := [.int x1]) (rest := []) okX1 ra_1 rfl kw_495 kw_496 mok_X1_logAt (c_X1_logAt ra_1 qc (Nat.le_refl 1)) kw_494 rfl rfl dX11_prune_5 (Nat.le_of_ble_eq_true rfl) ⟨Nat.le_trans (by decide) hRf, Nat.le_trans (by decide) hRl⟩ (Nat.zero_le _) (Nat.zero_le _) (fun H locs M hEF => ?_)
  have ro_3 := hEF.2
  refine x_astore_n (lv' := [(3, va_rf o_3), (0, .ref a0), (1, .int x1), (2, .int x2)]) hx hb dX11_prune_8 rfl hl (by decide) rfl (fun ls hl => ?_)
  refine x_aload_n hx hb dX11_prune_9 rfl (lv_at hl 0 rfl) ?_
  refine x_ifnull (tgt := 21) hx hb dX11_prune_10 (by decide) (fun c_10 => ?_) (fun a_4 c_10 => ?_)
  · replace q := on_n c_10 q
    refine lv_iconst (v := -1) hx hb dX11_prune_21 (by decide) ?_
    cases q
    exact x_iret hx hb hr hlk M Ext.rf dX11_prune_22
  · subst c_10
    replace q := on_s rfl q
    have ra_4 := ro_3 a_4 rfl
    have hl : lv_has ls 4 [(3, .ref a_4), (0, .ref a0), (1, .int x1), (2, .int x2)] := hl
    refine lv_aload_n hx hb dX11_prune_13 rfl (lv_at hl 0 rfl) ?_
    refine lv_iload_n hx hb dX11_prune_14 rfl (lv_at hl 3 rfl) ?_
    replace q := c2_s q
    obtain ⟨x_6, g_5, qc, q⟩ := q
    refine x_callV hx hb hml hl.1 hown hX M (S1 := S) (As := [.int x2]) (rest := []) okX3 ra_4 rfl kw_550 kw_551 mok_X3_reaches (c_X3_reaches ra_4 qc (Nat.le_refl 1)) kw_549 rfl rfl dX11_prune_15 (Nat.le_of_ble_eq_true rfl) ⟨Nat.le_trans (by decide) hRf, Nat.le_trans (by decide) hRl⟩ (Nat.zero_le _) (Nat.zero_le _) (fun H locs M hEF => ?_)
    refine lv_if_ne (tgt := 23) hx hb dX11_prune_18 (by decide) (fun c_7 => ?_) (fun c_7 => ?_)
    · replace q := if_f c_7 q
      refine lv_aload_n hx hb dX11_prune_23 rfl (lv_at hl 0 rfl) ?_
      refine lv_iload_n hx hb dX11_prune_24 rfl (lv_at hl 3 rfl) ?_
      replace q := c2_s q
      obtain ⟨x_9, g_8, qc, q⟩ := q
      refine x_callV hx hb hml hl.1 hown hX M (S1 := S) (As := [.int x2]) (rest := []) okX3 ra_4 rfl kw_595 kw_596 mok_X3_forget (c_X3_forget ra_4 qc (Nat.le_refl 1)) kw_594 rfl rfl dX11_prune_25 (Nat.le_of_ble_eq_true rfl) ⟨Nat.le_trans (by decide) hRf, Nat.le_trans (by decide) hRl⟩ (Nat.zero_le _) (Nat.zero_le _) (fun H locs M hEF => ?_)
      cases q
      exact x_iret hx hb hr hlk M Ext.rf dX11_prune_28
    · replace q := if_t c_7 q
      refine lv_iconst (v := -1) hx hb dX11_prune_21 (by decide) ?_
      cases q
      exact x_iret hx hb hr hlk M Ext.rf dX11_prune_22
set_option maxRecDepth 100000 in
theorem c_X11_prune {l : Launch} {D : va_G} {cA : Nat → ClassId} {lo tS N : Nat} {S : Hs} {g g1 : Hg} {rv : Int32} {a0 : Nat} {x1 : Int32} {x2 : Int32} (ra0 : Rf lo S a0 11) (q : f_X11_prune N S g a0 x1 x2 = some (rv, g1)) {d : Nat} (hd : 2 ≤ d) : Ctr l yX11_prune cX11_prune 4 (some .int) D cA lo tS [.ref a0, .int x1, .int x2] S g d (some (.int rv)) S g1 True 0 0 := by
  refine x_met (by decide) (Nat.le_of_ble_eq_true rfl) ?_
  intro p e s m below meth c ls hx hb hml hr hlk hown hnm hX M hl
  exact w_X11_prune_0 hx hb hml hr hlk hown hX hd (Nat.mul_le_mul_left 60 hd) (N := N) _ _ _ _ _ _ _ M ra0 (lv_sub hl [0, 1, 2] rfl) q
def b_X11_reader_0 (N : Nat) (S : Hs) (g : Hg) (a0 : Nat) (x1 : Int32) (x2 : Int32) : Option (Int32 × Hg) :=
if x1 < 0 then (
some ((-1 : Int32), g)) else (
if x1 < (12 : Int32) then (
if x2 = (3 : Int32) then (
nn (rdR g a0 3) (fun a_10 =>
nn (rdR g a_10 4) (fun a_11 =>
ck (inb x1 (hpL S a_11)) (
some ((rdI g a_11 x1.toNatClampNeg), g))))) else (
nn (rdR g a0 3) (fun a_4 =>
c2 (f_X1_headOf N S g a_4 x1) (fun o_6 g_5 =>
on o_6 (
some ((-1 : Int32), g_5)) (fun a_7 =>
nm x2 (fun x_8 =>
if x_8 = 0 then (
some ((rdI g_5 a_7 4), g_5)) else (
if x_8 = 1 then (
some ((rdI g_5 a_7 5), g_5)) else (
if x_8 = 2 then (
some ((rdI g_5 a_7 6), g_5)) else (
some ((-1 : Int32), g_5)))))))))) else (
some ((-1 : Int32), g)))
def f_X11_reader (N : Nat) (S : Hs) (g : Hg) (a0 : Nat) (x1 : Int32) (x2 : Int32) : Option (Int32 × Hg) := b_X11_reader_0 N S g a0 x1 x2
set_option maxHeartbeats 4000000 in
set_option maxRecDepth 100000 in
theorem w_X11_reader_0 (hx : p.tables.exec = Jvm.exec) (hb : c.code = cX11_reader) (hml : c.maxLocals = 4) (hr : meth.sig.returnType = (some .int)) (hlk : meth.locks = false) (hown : s.vm.findClass RX11 = some m.cls) (hX : Kx D cA lo tS s) (hRf : 2 ≤ R.frames) (hRl : 120 ≤ R.locals) {N : Nat} {rv : Int32} {g1 : Hg} {S : Hs} : ∀ (H : Heap) (locs : List Loc) (ls : Array Slot) (g : Hg) (a0 : Nat) (x1 : Int32) (x2 : Int32), Mm D cA lo S g s H locs → Rf lo S a0 11 → lv_has ls 4 [(0, .ref a0), (1, .int x1), (2, .int x2)] → b_X11_reader_0 N S g a0 x1 x2 = some (rv, g1) → W p l e R s m args below meth c H locs 0 0 (MQ below (Qcx D cA lo S (some (.int rv)) S g1 True) args s 0 0 (fun q : Nat => lo ≤ q)) (F0 m 0 ls []) := by
  intro H locs ls g a0 x1 x2 M ra0 hl q
  unfold b_X11_reader_0 at q
  refine lv_iload_n hx hb dX11_reader_0 rfl (lv_at hl 1 rfl) ?_
  refine lv_if_lt (tgt := 10) hx hb dX11_reader_1 (by decide) (fun c_1 => ?_) (fun c_1 => ?_)
  · replace q := if_t c_1 q
    refine lv_iconst (v := -1) hx hb dX11_reader_10 (by decide) ?_
    cases q
    exact x_iret hx hb hr hlk M Ext.rf dX11_reader_11
  · replace q := if_f c_1 q
    refine lv_iload_n hx hb dX11_reader_4 rfl (lv_at hl 1 rfl) ?_
    refine lv_bipush (v := 12) hx hb dX11_reader_5 (by decide) ?_
    refine lv_icmp_lt (tgt := 12) hx hb dX11_reader_7 (by decide) (fun c_2 => ?_) (fun c_2 => ?_)
    · replace q := if_t c_2 q
      refine lv_iload_n hx hb dX11_reader_12 rfl (lv_at hl 2 rfl) ?_
      refine lv_iconst (v := 3) hx hb dX11_reader_13 (by decide) ?_
      refine lv_icmp_ne (tgt := 27) hx hb dX11_reader_14 (by decide) (fun c_3 => ?_) (fun c_3 => ?_)
      · replace q := if_f c_3 q
        refine lv_aload_n hx hb dX11_reader_27 rfl (lv_at hl 0 rfl) ?_
        replace q := nn_s q
        obtain ⟨a_4, e_a_4, q⟩ := q
        refine x_getR hx hb hown hX M e_a_4 okX11 ra0 (by decide) rfl kw_359 dX11_reader_28 (fun ra_4 => ?_)
        refine lv_iload_n hx hb dX11_reader_31 rfl (lv_at hl 1 rfl) ?_
        replace q := c2_s q
        obtain ⟨o_6, g_5, qc, q⟩ := q
        refine x_callV hx hb hml hl.1 hown hX M (S1 := S) (As := [.int x1]) (rest := []) okX1 ra_4 rfl kw_841 kw_842 mok_X1_headOf (c_X1_headOf ra_4 qc (Nat.le_refl 1)) kw_840 rfl rfl dX11_reader_32 (Nat.le_of_ble_eq_true rfl) ⟨Nat.le_trans (by decide) hRf, Nat.le_trans (by decide) hRl⟩ (Nat.zero_le _) (Nat.zero_le _) (fun H locs M hEF => ?_)
        have ro_6 := hEF.2
        refine x_astore_n (lv' := [(3, va_rf o_6), (0, .ref a0), (1, .int x1), (2, .int x2)]) hx hb dX11_reader_35 rfl hl (by decide) rfl (fun ls hl => ?_)
        refine x_aload_n hx hb dX11_reader_36 rfl (lv_at hl 0 rfl) ?_
        refine x_ifnonnull (tgt := 42) hx hb dX11_reader_37 (by decide) (fun a_7 c_9 => ?_) (fun c_9 => ?_)
        · subst c_9
          replace q := on_s rfl q
          have ra_7 := ro_6 a_7 rfl
          have hl : lv_has ls 4 [(3, .ref a_7), (0, .ref a0), (1, .int x1), (2, .int x2)] := hl
          refine lv_iload_n hx hb dX11_reader_42 rfl (lv_at hl 3 rfl) ?_
          refine lv_topi (fun x_8 e_x_8 => ?_)
          replace q := nm_s q e_x_8
          clear e_x_8
          by_cases cx_8_0 : x_8 = 0
          · replace q := if_t cx_8_0 q
            subst cx_8_0
            refine lv_tableIn (off := 25) (tgt := 68) hx hb dX11_reader_43 (by decide) (by decide) (by decide) (by decide) ?_
            refine lv_aload_n hx hb dX11_reader_68 rfl (lv_at hl 0 rfl) ?_
            refine x_getI hx hb hown hX M (k := 4) okX0 ra_7 (by decide) rfl kw_265 dX11_reader_69 ?_
            cases q
            exact x_iret hx hb hr hlk M Ext.rf dX11_reader_72
          replace q := if_f cx_8_0 q
          by_cases cx_8_1 : x_8 = 1
          · replace q := if_t cx_8_1 q
            subst cx_8_1
            refine lv_tableIn (off := 30) (tgt := 73) hx hb dX11_reader_43 (by decide) (by decide) (by decide) (by decide) ?_
            refine lv_aload_n hx hb dX11_reader_73 rfl (lv_at hl 0 rfl) ?_
            refine x_getI hx hb hown hX M (k := 5) okX0 ra_7 (by decide) rfl kw_268 dX11_reader_74 ?_
            cases q
            exact x_iret hx hb hr hlk M Ext.rf dX11_reader_77
          replace q := if_f cx_8_1 q
          by_cases cx_8_2 : x_8 = 2
          · replace q := if_t cx_8_2 q
            subst cx_8_2
            refine lv_tableIn (off := 35) (tgt := 78) hx hb dX11_reader_43 (by decide) (by decide) (by decide) (by decide) ?_
            refine lv_aload_n hx hb dX11_reader_78 rfl (lv_at hl 0 rfl) ?_
            refine x_getI hx hb hown hX M (k := 6) okX0 ra_7 (by decide) rfl kw_272 dX11_reader_79 ?_
            cases q
            exact x_iret hx hb hr hlk M Ext.rf dX11_reader_82
          replace q := if_f cx_8_2 q
          refine lv_tableOut (tgt := 83) hx hb dX11_reader_43 (sw_def (fun z h1 h2 => ?_)) (by decide) ?_
          · have hz : z = 0 ∨ z = 1 ∨ z = 2 := by omega
            rcases hz with rfl | rfl | rfl
            · exact cx_8_0
            · exact cx_8_1
            · exact cx_8_2
          · refine lv_iconst (v := -1) hx hb dX11_reader_83 (by decide) ?_
            cases q
            exact x_iret hx hb hr hlk M Ext.rf dX11_reader_84
        · replace q := on_n c_9 q
          refine lv_iconst (v := -1) hx hb dX11_reader_40 (by decide) ?_
          cases q
          exact x_iret hx hb hr hlk M Ext.rf dX11_reader_41
      · replace q := if_t c_3 q
        refine lv_aload_n hx hb dX11_reader_17 rfl (lv_at hl 0 rfl) ?_
        replace q := nn_s q
        obtain ⟨a_10, e_a_10, q⟩ := q
        refine x_getR hx hb hown hX M e_a_10 okX11 ra0 (by decide) rfl kw_359 dX11_reader_18 (fun ra_10 => ?_)
        replace q := nn_s q
        obtain ⟨a_11, e_a_11, q⟩ := q
        refine x_getR hx hb hown hX M e_a_11 okX1 ra_10 (by decide) rfl kw_326 dX11_reader_21 (fun ra_11 => ?_)
        refine lv_iload_n hx hb dX11_reader_24 rfl (lv_at hl 1 rfl) ?_
        replace q := ck_s q
        obtain ⟨hin, q⟩ := q
        refine x_iald hx hb hX M ra_11 (inb_in hin) dX11_reader_25 ?_
        cases q
        exact x_iret hx hb hr hlk M Ext.rf dX11_reader_26
    · replace q := if_f c_2 q
      refine lv_iconst (v := -1) hx hb dX11_reader_10 (by decide) ?_
      cases q
      exact x_iret hx hb hr hlk M Ext.rf dX11_reader_11
set_option maxRecDepth 100000 in
theorem c_X11_reader {l : Launch} {D : va_G} {cA : Nat → ClassId} {lo tS N : Nat} {S : Hs} {g g1 : Hg} {rv : Int32} {a0 : Nat} {x1 : Int32} {x2 : Int32} (ra0 : Rf lo S a0 11) (q : f_X11_reader N S g a0 x1 x2 = some (rv, g1)) {d : Nat} (hd : 2 ≤ d) : Ctr l yX11_reader cX11_reader 4 (some .int) D cA lo tS [.ref a0, .int x1, .int x2] S g d (some (.int rv)) S g1 True 0 0 := by
  refine x_met (by decide) (Nat.le_of_ble_eq_true rfl) ?_
  intro p e s m below meth c ls hx hb hml hr hlk hown hnm hX M hl
  exact w_X11_reader_0 hx hb hml hr hlk hown hX hd (Nat.mul_le_mul_left 60 hd) (N := N) _ _ _ _ _ _ _ M ra0 (lv_sub hl [0, 1, 2] rfl) q
def b_X11_smear_0 (N : Nat) (S : Hs) (g : Hg) (a0 : Nat) (x1 : Int32) (x2 : Int32) (x3 : Int32) : Option (Int32 × Hg) :=
nn (rdR g a0 3) (fun a_1 =>
c2 (f_X1_secondBlamed N S g a_1 x1) (fun o_3 g_2 =>
on o_3 (
some ((0 : Int32), g_2)) (fun a_4 =>
c2 (f_X11_isPlaceInSum N S g_2 x2) (fun x_6 g_5 =>
if x_6 = 0 then (
some ((0 : Int32), g_5)) else (
nn (rdR g_5 a_4 2) (fun a_8 =>
ck (inb x2 (hpL S a_8)) (
ck (inb x2 (hpL S a_8)) (
nm (wrI g_5 a_8 x2.toNatClampNeg ((rdI g_5 a_8 x2.toNatClampNeg) ^^^ x3)) (fun g_9 =>
some ((1 : Int32), g_9))))))))))
def f_X11_smear (N : Nat) (S : Hs) (g : Hg) (a0 : Nat) (x1 : Int32) (x2 : Int32) (x3 : Int32) : Option (Int32 × Hg) := b_X11_smear_0 N S g a0 x1 x2 x3
set_option maxHeartbeats 4000000 in
set_option maxRecDepth 100000 in
theorem w_X11_smear_0 (hx : p.tables.exec = Jvm.exec) (hb : c.code = cX11_smear) (hml : c.maxLocals = 5) (hr : meth.sig.returnType = (some .boolean)) (hlk : meth.locks = false) (hown : s.vm.findClass RX11 = some m.cls) (hX : Kx D cA lo tS s) (hRf : 2 ≤ R.frames) (hRl : 120 ≤ R.locals) {N : Nat} {rv : Int32} {g1 : Hg} {S : Hs} : ∀ (H : Heap) (locs : List Loc) (ls : Array Slot) (g : Hg) (a0 : Nat) (x1 : Int32) (x2 : Int32) (x3 : Int32), Mm D cA lo S g s H locs → Rf lo S a0 11 → lv_has ls 5 [(0, .ref a0), (1, .int x1), (2, .int x2), (3, .int x3)] → b_X11_smear_0 N S g a0 x1 x2 x3 = some (rv, g1) → W p l e R s m args below meth c H locs 0 0 (MQ below (Qcx D cA lo S (some (.int rv)) S g1 True) args s 0 0 (fun q : Nat => lo ≤ q)) (F0 m 0 ls []) := by
  intro H locs ls g a0 x1 x2 x3 M ra0 hl q
  unfold b_X11_smear_0 at q
  refine lv_aload_n hx hb dX11_smear_0 rfl (lv_at hl 0 rfl) ?_
  replace q := nn_s q
  obtain ⟨a_1, e_a_1, q⟩ := q
  refine x_getR hx hb hown hX M e_a_1 okX11 ra0 (by decide) rfl kw_359 dX11_smear_1 (fun ra_1 => ?_)
  refine lv_iload_n hx hb dX11_smear_4 rfl (lv_at hl 1 rfl) ?_
  replace q := c2_s q
  obtain ⟨o_3, g_2, qc, q⟩ := q
  refine x_callV hx hb hml hl.1 hown hX M (S1 := S) (As := [.int x1]) (rest := []) okX1 ra_1 rfl kw_911 kw_912 mok_X1_secondBlamed (c_X1_secondBlamed ra_1 qc (Nat.le_refl 1)) kw_910 rfl rfl dX11_smear_5 (Nat.le_of_ble_eq_true rfl) ⟨Nat.le_trans (by decide) hRf, Nat.le_trans (by decide) hRl⟩ (Nat.zero_le _) (Nat.zero_le _) (fun H locs M hEF => ?_)
  have ro_3 := hEF.2
  refine x_astore (lv' := [(4, va_rf o_3), (0, .ref a0), (1, .int x1), (2, .int x2), (3, .int x3)]) hx hb dX11_smear_8 hl (by decide) rfl (fun ls hl => ?_)
  refine x_aload hx hb dX11_smear_10 (lv_at hl 0 rfl) ?_
  refine x_ifnull (tgt := 22) hx hb dX11_smear_12 (by decide) (fun c_10 => ?_) (fun a_4 c_10 => ?_)
  · replace q := on_n c_10 q
    refine lv_iconst (v := 0) hx hb dX11_smear_22 (by decide) ?_
    cases q
    exact x_zret hx hb hr hlk rfl M Ext.rf dX11_smear_23
  · subst c_10
    replace q := on_s rfl q
    have ra_4 := ro_3 a_4 rfl
    have hl : lv_has ls 5 [(4, .ref a_4), (0, .ref a0), (1, .int x1), (2, .int x2), (3, .int x3)] := hl
    refine lv_iload_n hx hb dX11_smear_15 rfl (lv_at hl 3 rfl) ?_
    replace q := c2_s q
    obtain ⟨x_6, g_5, qc, q⟩ := q
    refine x_callS hx hb hml hl.1 hown hX M (S1 := S) (As := [.int x2]) (rest := []) kw_647 mok_X11_isPlaceInSum (c_X11_isPlaceInSum  qc (Nat.le_refl 1)) kw_646 rfl rfl dX11_smear_16 (Nat.le_of_ble_eq_true rfl) ⟨Nat.le_trans (by decide) hRf, Nat.le_trans (by decide) hRl⟩ (Nat.zero_le _) (Nat.zero_le _) (fun H locs M hEF => ?_)
    refine lv_if_ne (tgt := 24) hx hb dX11_smear_19 (by decide) (fun c_7 => ?_) (fun c_7 => ?_)
    · replace q := if_f c_7 q
      refine lv_aload hx hb dX11_smear_24 (lv_at hl 0 rfl) ?_
      replace q := nn_s q
      obtain ⟨a_8, e_a_8, q⟩ := q
      refine x_getR hx hb hown hX M e_a_8 okX0 ra_4 (by decide) rfl kw_258 dX11_smear_26 (fun ra_8 => ?_)
      refine lv_iload_n hx hb dX11_smear_29 rfl (lv_at hl 3 rfl) ?_
      refine lv_dup2_11 hx hb dX11_smear_30 rfl rfl ?_
      replace q := ck_s q
      obtain ⟨hin, q⟩ := q
      refine x_iald hx hb hX M ra_8 (inb_in hin) dX11_smear_31 ?_
      refine lv_iload_n hx hb dX11_smear_32 rfl (lv_at hl 4 rfl) ?_
      refine lv_ixor hx hb dX11_smear_33 ?_
      replace q := ck_s q
      obtain ⟨hin, q⟩ := q
      refine x_iast hx hb hX M ra_8 (inb_in hin) dX11_smear_34 (fun H locs M => ?_)
      replace q := gen_g M q
      obtain ⟨g_9, -, M, q⟩ := q
      refine lv_iconst (v := 1) hx hb dX11_smear_35 (by decide) ?_
      cases q
      exact x_zret hx hb hr hlk rfl M Ext.rf dX11_smear_36
    · replace q := if_t c_7 q
      refine lv_iconst (v := 0) hx hb dX11_smear_22 (by decide) ?_
      cases q
      exact x_zret hx hb hr hlk rfl M Ext.rf dX11_smear_23
set_option maxRecDepth 100000 in
theorem c_X11_smear {l : Launch} {D : va_G} {cA : Nat → ClassId} {lo tS N : Nat} {S : Hs} {g g1 : Hg} {rv : Int32} {a0 : Nat} {x1 : Int32} {x2 : Int32} {x3 : Int32} (ra0 : Rf lo S a0 11) (q : f_X11_smear N S g a0 x1 x2 x3 = some (rv, g1)) {d : Nat} (hd : 2 ≤ d) : Ctr l yX11_smear cX11_smear 5 (some .boolean) D cA lo tS [.ref a0, .int x1, .int x2, .int x3] S g d (some (.int rv)) S g1 True 0 0 := by
  refine x_met (by decide) (Nat.le_of_ble_eq_true rfl) ?_
  intro p e s m below meth c ls hx hb hml hr hlk hown hnm hX M hl
  exact w_X11_smear_0 hx hb hml hr hlk hown hX hd (Nat.mul_le_mul_left 60 hd) (N := N) _ _ _ _ _ _ _ _ M ra0 (lv_sub hl [0, 1, 2, 3] rfl) q
def b_X3_keyAt_0 (N : Nat) (S : Hs) (g : Hg) (a0 : Nat) (x1 : Int32) : Option (Int32 × Hg) :=
nn (rdR g a0 0) (fun a_1 =>
nn (rdR g a0 2) (fun a_2 =>
ck (inb x1 (hpL S a_2)) (
c2 (f_X2_keyOf N S g a_1 (rdI g a_2 x1.toNatClampNeg)) (fun x_4 g_3 =>
some (x_4, g_3)))))
def f_X3_keyAt (N : Nat) (S : Hs) (g : Hg) (a0 : Nat) (x1 : Int32) : Option (Int32 × Hg) := b_X3_keyAt_0 N S g a0 x1
set_option maxHeartbeats 4000000 in
set_option maxRecDepth 100000 in
theorem w_X3_keyAt_0 (hx : p.tables.exec = Jvm.exec) (hb : c.code = cX3_keyAt) (hml : c.maxLocals = 2) (hr : meth.sig.returnType = (some .int)) (hlk : meth.locks = false) (hown : s.vm.findClass RX3 = some m.cls) (hX : Kx D cA lo tS s) (hRf : 2 ≤ R.frames) (hRl : 120 ≤ R.locals) {N : Nat} {rv : Int32} {g1 : Hg} {S : Hs} : ∀ (H : Heap) (locs : List Loc) (ls : Array Slot) (g : Hg) (a0 : Nat) (x1 : Int32), Mm D cA lo S g s H locs → Rf lo S a0 3 → lv_has ls 2 [(0, .ref a0), (1, .int x1)] → b_X3_keyAt_0 N S g a0 x1 = some (rv, g1) → W p l e R s m args below meth c H locs 0 0 (MQ below (Qcx D cA lo S (some (.int rv)) S g1 True) args s 0 0 (fun q : Nat => lo ≤ q)) (F0 m 0 ls []) := by
  intro H locs ls g a0 x1 M ra0 hl q
  unfold b_X3_keyAt_0 at q
  refine lv_aload_n hx hb dX3_keyAt_0 rfl (lv_at hl 0 rfl) ?_
  replace q := nn_s q
  obtain ⟨a_1, e_a_1, q⟩ := q
  refine x_getR hx hb hown hX M e_a_1 okX3 ra0 (by decide) rfl kw_440 dX3_keyAt_1 (fun ra_1 => ?_)
  refine lv_aload_n hx hb dX3_keyAt_4 rfl (lv_at hl 0 rfl) ?_
  replace q := nn_s q
  obtain ⟨a_2, e_a_2, q⟩ := q
  refine x_getR hx hb hown hX M e_a_2 okX3 ra0 (by decide) rfl kw_447 dX3_keyAt_5 (fun ra_2 => ?_)
  refine lv_iload_n hx hb dX3_keyAt_8 rfl (lv_at hl 1 rfl) ?_
  replace q := ck_s q
  obtain ⟨hin, q⟩ := q
  refine x_iald hx hb hX M ra_2 (inb_in hin) dX3_keyAt_9 ?_
  replace q := c2_s q
  obtain ⟨x_4, g_3, qc, q⟩ := q
  refine x_callV hx hb hml hl.1 hown hX M (S1 := S) (As := [.int (rdI g a_2 x1.toNatClampNeg)]) (rest := []) okX2 ra_1 rfl kw_698 kw_699 mok_X2_keyOf (c_X2_keyOf ra_1 qc (Nat.le_refl 1)) kw_747 rfl rfl dX3_keyAt_10 (Nat.le_of_ble_eq_true rfl) ⟨Nat.le_trans (by decide) hRf, Nat.le_trans (by decide) hRl⟩ (Nat.zero_le _) (Nat.zero_le _) (fun H locs M hEF => ?_)
  cases q
  exact x_iret hx hb hr hlk M Ext.rf dX3_keyAt_13
set_option maxRecDepth 100000 in
theorem c_X3_keyAt {l : Launch} {D : va_G} {cA : Nat → ClassId} {lo tS N : Nat} {S : Hs} {g g1 : Hg} {rv : Int32} {a0 : Nat} {x1 : Int32} (ra0 : Rf lo S a0 3) (q : f_X3_keyAt N S g a0 x1 = some (rv, g1)) {d : Nat} (hd : 2 ≤ d) : Ctr l yX3_keyAt cX3_keyAt 2 (some .int) D cA lo tS [.ref a0, .int x1] S g d (some (.int rv)) S g1 True 0 0 := by
  refine x_met (by decide) (Nat.le_of_ble_eq_true rfl) ?_
  intro p e s m below meth c ls hx hb hml hr hlk hown hnm hX M hl
  exact w_X3_keyAt_0 hx hb hml hr hlk hown hX hd (Nat.mul_le_mul_left 60 hd) (N := N) _ _ _ _ _ _ M ra0 (lv_sub hl [0, 1] rfl) q
def b_X3_showEntries_3 (N : Nat) (k3 : Hs → Hg → Nat → Nat → Int32 → Int32 → Int32 → Int32 → Option (Unit × Hs × Hg × Nat × Nat)) (S : Hs) (g : Hg) (a0 : Nat) (a1 : Nat) (x2 : Int32) (x3 : Int32) (x4 : Int32) (x5 : Int32) : Option (Unit × Hs × Hg × Nat × Nat) :=
if x4 ≤ x5 then (
c5 (f_X3_showBlocks N S g a0 a1 (0 : Int32) x3) (fun u_3 S_4 g_2 =>
c5 (f_X3_showBlocks N S_4 g_2 a0 a1 x4 x2) (fun u_10 S_11 g_9 =>
some ((), S_11, g_9, 0, 0)))) else (
c2 (f_X3_keyAt N S g a0 x5) (fun x_17 g_16 =>
nn (rdR g_16 a0 4) (fun a_18 =>
ck (inb x5 (hpL S a_18)) (
c2 (f_X7_tellEntry N S g_16 a1 x_17 (rdL g_16 a_18 x5.toNatClampNeg)) (fun u_20 g_19 =>
nm (x5 + 1) (fun x_21 =>
k3 S g_19 a0 a1 x2 x3 x4 x_21))))))
def n_X3_showEntries_3 (N : Nat) : Nat → Hs → Hg → Nat → Nat → Int32 → Int32 → Int32 → Int32 → Option (Unit × Hs × Hg × Nat × Nat)
  | 0 => fun _ _ _ _ _ _ _ _ => none
  | n + 1 => fun S g a0 a1 x2 x3 x4 x5 => b_X3_showEntries_3 N (n_X3_showEntries_3 N n) S g a0 a1 x2 x3 x4 x5
def b_X3_showEntries_0 (N : Nat) (S : Hs) (g : Hg) (a0 : Nat) (a1 : Nat) (x2 : Int32) (x3 : Int32) (x4 : Int32) : Option (Unit × Hs × Hg × Nat × Nat) :=
n_X3_showEntries_3 N N S g a0 a1 x2 x3 x4 x3
def f_X3_showEntries (N : Nat) (S : Hs) (g : Hg) (a0 : Nat) (a1 : Nat) (x2 : Int32) (x3 : Int32) (x4 : Int32) : Option (Unit × Hs × Hg × Nat × Nat) := b_X3_showEntries_0 N S g a0 a1 x2 x3 x4
set_option maxHeartbeats 4000000 in
set_option maxRecDepth 100000 in
theorem w_X3_showEntries_3 (hx : p.tables.exec = Jvm.exec) (hb : c.code = cX3_showEntries) (hml : c.maxLocals = 6) (hr : meth.sig.returnType = none) (hlk : meth.locks = false) (hown : s.vm.findClass RX3 = some m.cls) (hX : Kx D cA lo tS s) (hRf : 5 ≤ R.frames) (hRl : 300 ≤ R.locals) {N : Nat} {rv : Unit} {g1 : Hg} {S0 S1 : Hs} {cT wT : Nat} (hRc : cT ≤ R.cells) (hRs : wT ≤ R.slots) {k3 : Hs → Hg → Nat → Nat → Int32 → Int32 → Int32 → Int32 → Option (Unit × Hs × Hg × Nat × Nat)} (hk3 : ∀ (H : Heap) (locs : List Loc) (ls : Array Slot) (cells slots k w : Nat) (S : Hs) (g : Hg) (a0 : Nat) (a1 : Nat) (x2 : Int32) (x3 : Int32) (x4 : Int32) (x5 : Int32), Mm D cA lo S g s H locs → Ext lo S0 S → Rf lo S a0 3 → Rf lo S a1 7 → lv_has ls 6 [(0, .ref a0), (1, .ref a1), (2, .int x2), (3, .int x3), (4, .int x4), (5, .int x5)] → k3 S g a0 a1 x2 x3 x4 x5 = some (rv, S1, g1, k, w) → cells + k = cT → slots + w = wT → W p l e R s m args below meth c H locs cells slots (MQ below (Qcx D cA lo S0 none S1 g1 True) args s cT wT (fun q : Nat => lo ≤ q)) (F0 m 3 ls [])) : ∀ (H : Heap) (locs : List Loc) (ls : Array Slot) (cells slots k w : Nat) (S : Hs) (g : Hg) (a0 : Nat) (a1 : Nat) (x2 : Int32) (x3 : Int32) (x4 : Int32) (x5 : Int32), Mm D cA lo S g s H locs → Ext lo S0 S → Rf lo S a0 3 → Rf lo S a1 7 → lv_has ls 6 [(0, .ref a0), (1, .ref a1), (2, .int x2), (3, .int x3), (4, .int x4), (5, .int x5)] → b_X3_showEntries_3 N k3 S g a0 a1 x2 x3 x4 x5 = some (rv, S1, g1, k, w) → cells + k = cT → slots + w = wT → W p l e R s m args below meth c H locs cells slots (MQ below (Qcx D cA lo S0 none S1 g1 True) args s cT wT (fun q : Nat => lo ≤ q)) (F0 m 3 ls []) := by
  intro H locs ls cells slots k w S g a0 a1 x2 x3 x4 x5 M hE ra0 ra1 hl q hc hs
  unfold b_X3_showEntries_3 at q
  refine lv_iload hx hb dX3_showEntries_3 (lv_at hl 5 rfl) ?_
  refine lv_iload hx hb dX3_showEntries_5 (lv_at hl 4 rfl) ?_
  refine lv_icmp_ge (tgt := 33) hx hb dX3_showEntries_7 (by decide) (fun c_1 => ?_) (fun c_1 => ?_)
  · replace q := if_t c_1 q
    refine lv_aload_n hx hb dX3_showEntries_33 rfl (lv_at hl 0 rfl) ?_
    refine lv_aload_n hx hb dX3_showEntries_34 rfl (lv_at hl 1 rfl) ?_
    refine lv_iconst (v := 0) hx hb dX3_showEntries_35 (by decide) ?_
    refine lv_iload_n hx hb dX3_showEntries_36 rfl (lv_at hl 3 rfl) ?_
    replace q := c5_s q
    obtain ⟨u_3, S_4, g_2, k_5, w_6, k_7, w_8, qc, ek, ew, q⟩ := q
    refine x_callV hx hb hml hl.1 hown hX M (As := [.ref a1, .int (0 : Int32), .int x3]) (rest := []) okX3 ra0 rfl kw_754 kw_8 mok_X3_showBlocks (c_X3_showBlocks ra0 ra1 qc (Nat.le_refl 4)) kw_752 rfl rfl dX3_showEntries_37 (Nat.le_of_ble_eq_true rfl) ⟨Nat.le_trans (by decide) hRf, Nat.le_trans (by decide) hRl⟩ (hb_step hc ek hRc) (hb_step hs ew hRs) (fun H locs M hEF => ?_)
    replace ra0 := ra0.ext hEF.1
    replace ra1 := ra1.ext hEF.1
    replace hE := hE.tr hEF.1
    replace hc := hc_step hc ek
    replace hs := hc_step hs ew
    clear ek ew
    refine lv_aload_n hx hb dX3_showEntries_40 rfl (lv_at hl 0 rfl) ?_
    refine lv_aload_n hx hb dX3_showEntries_41 rfl (lv_at hl 1 rfl) ?_
    refine lv_iload hx hb dX3_showEntries_42 (lv_at hl 4 rfl) ?_
    refine lv_iload_n hx hb dX3_showEntries_44 rfl (lv_at hl 2 rfl) ?_
    replace q := c5_s q
    obtain ⟨u_10, S_11, g_9, k_12, w_13, k_14, w_15, qc, ek, ew, q⟩ := q
    refine x_callV hx hb hml hl.1 hown hX M (As := [.ref a1, .int x4, .int x2]) (rest := []) okX3 ra0 rfl kw_754 kw_8 mok_X3_showBlocks (c_X3_showBlocks ra0 ra1 qc (Nat.le_refl 4)) kw_752 rfl rfl dX3_showEntries_45 (Nat.le_of_ble_eq_true rfl) ⟨Nat.le_trans (by decide) hRf, Nat.le_trans (by decide) hRl⟩ (hb_step hc ek hRc) (hb_step hs ew hRs) (fun H locs M hEF => ?_)
    replace ra0 := ra0.ext hEF.1
    replace ra1 := ra1.ext hEF.1
    replace hE := hE.tr hEF.1
    replace hc := hc_step hc ek
    replace hs := hc_step hs ew
    clear ek ew
    cases q
    have hc : cells + k_5 + k_12 = cT := hc
    have hs : slots + w_6 + w_13 = wT := hs
    subst hc
    subst hs
    exact x_vret hx hb hr hlk M hE dX3_showEntries_48
  · replace q := if_f c_1 q
    refine lv_aload_n hx hb dX3_showEntries_10 rfl (lv_at hl 1 rfl) ?_
    refine lv_aload_n hx hb dX3_showEntries_11 rfl (lv_at hl 0 rfl) ?_
    refine lv_iload hx hb dX3_showEntries_12 (lv_at hl 5 rfl) ?_
    replace q := c2_s q
    obtain ⟨x_17, g_16, qc, q⟩ := q
    refine x_callV hx hb hml hl.1 hown hX M (S1 := S) (As := [.int x5]) (rest := [.ref a1]) okX3 ra0 rfl kw_744 kw_745 mok_X3_keyAt (c_X3_keyAt ra0 qc (Nat.le_refl 2)) kw_743 rfl rfl dX3_showEntries_14 (Nat.le_of_ble_eq_true rfl) ⟨Nat.le_trans (by decide) hRf, Nat.le_trans (by decide) hRl⟩ (hz_step hc hRc) (hz_step hs hRs) (fun H locs M hEF => ?_)
    refine lv_aload_n hx hb dX3_showEntries_17 rfl (lv_at hl 0 rfl) ?_
    replace q := nn_s q
    obtain ⟨a_18, e_a_18, q⟩ := q
    refine x_getR hx hb hown hX M e_a_18 okX3 ra0 (by decide) rfl kw_452 dX3_showEntries_18 (fun ra_18 => ?_)
    refine lv_iload hx hb dX3_showEntries_21 (lv_at hl 5 rfl) ?_
    replace q := ck_s q
    obtain ⟨hin, q⟩ := q
    refine x_lald hx hb hX M ra_18 (inb_in hin) dX3_showEntries_23 ?_
    replace q := c2_s q
    obtain ⟨u_20, g_19, qc, q⟩ := q
    refine x_callV hx hb hml hl.1 hown hX M (S1 := S) (As := [.int x_17, .long (rdL g_16 a_18 x5.toNatClampNeg)]) (rest := []) okX7 ra1 rfl kw_749 kw_750 mok_X7_tellEntry (c_X7_tellEntry ra1 qc (Nat.le_refl 1)) kw_748 rfl rfl dX3_showEntries_24 (Nat.le_of_ble_eq_true rfl) ⟨Nat.le_trans (by decide) hRf, Nat.le_trans (by decide) hRl⟩ (hz_step hc hRc) (hz_step hs hRs) (fun H locs M hEF => ?_)
    obtain ⟨x_21, e_x_21⟩ : ∃ y : Int32, y = x5 + 1 := ⟨_, rfl⟩
    replace q := nm_s q e_x_21
    refine lv_iinc (v := x_21) (lv' := [(5, .int x_21), (0, .ref a0), (1, .ref a1), (2, .int x2), (3, .int x3), (4, .int x4)]) hx hb dX3_showEntries_27 hl (k := 5) rfl (by rw [e_x_21]; rfl) (by decide) rfl (fun ls hl => ?_)
    refine lv_goto (tgt := 3) hx hb dX3_showEntries_30 (by decide) ?_
    exact hk3 _ _ _ _ _ _ _ _ _ _ _ _ _ _ _ M hE ra0 ra1 (lv_sub hl [1, 2, 3, 4, 5, 0] rfl) q hc hs
set_option maxRecDepth 100000 in
theorem l_X3_showEntries_3 (hx : p.tables.exec = Jvm.exec) (hb : c.code = cX3_showEntries) (hml : c.maxLocals = 6) (hr : meth.sig.returnType = none) (hlk : meth.locks = false) (hown : s.vm.findClass RX3 = some m.cls) (hX : Kx D cA lo tS s) (hRf : 5 ≤ R.frames) (hRl : 300 ≤ R.locals) {N : Nat} {rv : Unit} {g1 : Hg} {S0 S1 : Hs} {cT wT : Nat} (hRc : cT ≤ R.cells) (hRs : wT ≤ R.slots) : ∀ (n : Nat), ∀ (H : Heap) (locs : List Loc) (ls : Array Slot) (cells slots k w : Nat) (S : Hs) (g : Hg) (a0 : Nat) (a1 : Nat) (x2 : Int32) (x3 : Int32) (x4 : Int32) (x5 : Int32), Mm D cA lo S g s H locs → Ext lo S0 S → Rf lo S a0 3 → Rf lo S a1 7 → lv_has ls 6 [(0, .ref a0), (1, .ref a1), (2, .int x2), (3, .int x3), (4, .int x4), (5, .int x5)] → n_X3_showEntries_3 N n S g a0 a1 x2 x3 x4 x5 = some (rv, S1, g1, k, w) → cells + k = cT → slots + w = wT → W p l e R s m args below meth c H locs cells slots (MQ below (Qcx D cA lo S0 none S1 g1 True) args s cT wT (fun q : Nat => lo ≤ q)) (F0 m 3 ls []) := by
  intro n
  induction n with
  | zero =>
    intro H locs ls cells slots k w S g a0 a1 x2 x3 x4 x5 M hE ra0 ra1 hl q hc hs
    exact absurd q (by simp [n_X3_showEntries_3])
  | succ n ih => exact w_X3_showEntries_3 hx hb hml hr hlk hown hX hRf hRl (N := N) hRc hRs  ih
set_option maxHeartbeats 4000000 in
set_option maxRecDepth 100000 in
theorem w_X3_showEntries_0 (hx : p.tables.exec = Jvm.exec) (hb : c.code = cX3_showEntries) (hml : c.maxLocals = 6) (hr : meth.sig.returnType = none) (hlk : meth.locks = false) (hown : s.vm.findClass RX3 = some m.cls) (hX : Kx D cA lo tS s) (hRf : 5 ≤ R.frames) (hRl : 300 ≤ R.locals) {N : Nat} {rv : Unit} {g1 : Hg} {S0 S1 : Hs} {cT wT : Nat} (hRc : cT ≤ R.cells) (hRs : wT ≤ R.slots) : ∀ (H : Heap) (locs : List Loc) (ls : Array Slot) (cells slots k w : Nat) (S : Hs) (g : Hg) (a0 : Nat) (a1 : Nat) (x2 : Int32) (x3 : Int32) (x4 : Int32), Mm D cA lo S g s H locs → Ext lo S0 S → Rf lo S a0 3 → Rf lo S a1 7 → lv_has ls 6 [(0, .ref a0), (1, .ref a1), (2, .int x2), (3, .int x3), (4, .int x4)] → b_X3_showEntries_0 N S g a0 a1 x2 x3 x4 = some (rv, S1, g1, k, w) → cells + k = cT → slots + w = wT → W p l e R s m args below meth c H locs cells slots (MQ below (Qcx D cA lo S0 none S1 g1 True) args s cT wT (fun q : Nat => lo ≤ q)) (F0 m 0 ls []) := by
  intro H locs ls cells slots k w S g a0 a1 x2 x3 x4 M hE ra0 ra1 hl q hc hs
  unfold b_X3_showEntries_0 at q
  refine lv_iload_n hx hb dX3_showEntries_0 rfl (lv_at hl 3 rfl) ?_
  refine lv_istore (lv' := [(5, .int x3), (0, .ref a0), (1, .ref a1), (2, .int x2), (3, .int x3), (4, .int x4)]) hx hb dX3_showEntries_1 hl (by decide) rfl (fun ls hl => ?_)
  exact l_X3_showEntries_3 hx hb hml hr hlk hown hX hRf hRl (N := N) hRc hRs  N _ _ _ _ _ _ _ _ _ _ _ _ _ _ _ M hE ra0 ra1 (lv_sub hl [1, 2, 3, 4, 5, 0] rfl) q hc hs
set_option maxRecDepth 100000 in
theorem c_X3_showEntries {l : Launch} {D : va_G} {cA : Nat → ClassId} {lo tS N : Nat} {S S1 : Hs} {g g1 : Hg} {k w : Nat} {rv : Unit} {a0 : Nat} {a1 : Nat} {x2 : Int32} {x3 : Int32} {x4 : Int32} (ra0 : Rf lo S a0 3) (ra1 : Rf lo S a1 7) (q : f_X3_showEntries N S g a0 a1 x2 x3 x4 = some (rv, S1, g1, k, w)) {d : Nat} (hd : 5 ≤ d) : Ctr l yX3_showEntries cX3_showEntries 6 none D cA lo tS [.ref a0, .ref a1, .int x2, .int x3, .int x4] S g d none S1 g1 True k w := by
  refine x_met (by decide) (Nat.le_of_ble_eq_true rfl) ?_
  intro p e s m below meth c ls hx hb hml hr hlk hown hnm hX M hl
  exact w_X3_showEntries_0 hx hb hml hr hlk hown hX hd (Nat.mul_le_mul_left 60 hd) (N := N) (Nat.le_refl k) (Nat.le_refl w) _ _ _ _ _ _ _ _ _ _ _ _ _ _ M Ext.rf ra0 ra1 (lv_sub hl [0, 1, 2, 3, 4] rfl) q (Nat.zero_add k) (Nat.zero_add w)
def b_X3_showsAll_2 (N : Nat) (S : Hs) (k2 : Hg → Nat → Int32 → Int32 → Option (Int32 × Hg)) (g : Hg) (a0 : Nat) (x2 : Int32) (x3 : Int32) : Option (Int32 × Hg) :=
if x2 ≤ x3 then (
some ((1 : Int32), g)) else (
c2 (f_X3_shows N S g a0 x3) (fun x_3 g_2 =>
if x_3 = 0 then (
some ((0 : Int32), g_2)) else (
nm (x3 + 1) (fun x_5 =>
k2 g_2 a0 x2 x_5))))
def n_X3_showsAll_2 (N : Nat) (S : Hs) : Nat → Hg → Nat → Int32 → Int32 → Option (Int32 × Hg)
  | 0 => fun _ _ _ _ => none
  | n + 1 => fun g a0 x2 x3 => b_X3_showsAll_2 N S (n_X3_showsAll_2 N S n) g a0 x2 x3
def b_X3_showsAll_0 (N : Nat) (S : Hs) (g : Hg) (a0 : Nat) (x1 : Int32) (x2 : Int32) : Option (Int32 × Hg) :=
n_X3_showsAll_2 N S N g a0 x2 x1
def f_X3_showsAll (N : Nat) (S : Hs) (g : Hg) (a0 : Nat) (x1 : Int32) (x2 : Int32) : Option (Int32 × Hg) := b_X3_showsAll_0 N S g a0 x1 x2
set_option maxHeartbeats 4000000 in
set_option maxRecDepth 100000 in
theorem w_X3_showsAll_2 (hx : p.tables.exec = Jvm.exec) (hb : c.code = cX3_showsAll) (hml : c.maxLocals = 4) (hr : meth.sig.returnType = (some .boolean)) (hlk : meth.locks = false) (hown : s.vm.findClass RX3 = some m.cls) (hX : Kx D cA lo tS s) (hRf : 2 ≤ R.frames) (hRl : 120 ≤ R.locals) {N : Nat} {rv : Int32} {g1 : Hg} {S : Hs} {k2 : Hg → Nat → Int32 → Int32 → Option (Int32 × Hg)} (hk2 : ∀ (H : Heap) (locs : List Loc) (ls : Array Slot) (g : Hg) (a0 : Nat) (x2 : Int32) (x3 : Int32), Mm D cA lo S g s H locs → Rf lo S a0 3 → lv_has ls 4 [(0, .ref a0), (2, .int x2), (3, .int x3)] → k2 g a0 x2 x3 = some (rv, g1) → W p l e R s m args below meth c H locs 0 0 (MQ below (Qcx D cA lo S (some (.int rv)) S g1 True) args s 0 0 (fun q : Nat => lo ≤ q)) (F0 m 2 ls [])) : ∀ (H : Heap) (locs : List Loc) (ls : Array Slot) (g : Hg) (a0 : Nat) (x2 : Int32) (x3 : Int32), Mm D cA lo S g s H locs → Rf lo S a0 3 → lv_has ls 4 [(0, .ref a0), (2, .int x2), (3, .int x3)] → b_X3_showsAll_2 N S k2 g a0 x2 x3 = some (rv, g1) → W p l e R s m args below meth c H locs 0 0 (MQ below (Qcx D cA lo S (some (.int rv)) S g1 True) args s 0 0 (fun q : Nat => lo ≤ q)) (F0 m 2 ls []) := by
  intro H locs ls g a0 x2 x3 M ra0 hl q
  unfold b_X3_showsAll_2 at q
  refine lv_iload_n hx hb dX3_showsAll_2 rfl (lv_at hl 2 rfl) ?_
  refine lv_iload_n hx hb dX3_showsAll_3 rfl (lv_at hl 1 rfl) ?_
  refine lv_icmp_ge (tgt := 23) hx hb dX3_showsAll_4 (by decide) (fun c_1 => ?_) (fun c_1 => ?_)
  · replace q := if_t c_1 q
    refine lv_iconst (v := 1) hx hb dX3_showsAll_23 (by decide) ?_
    cases q
    exact x_zret hx hb hr hlk rfl M Ext.rf dX3_showsAll_24
  · replace q := if_f c_1 q
    refine lv_aload_n hx hb dX3_showsAll_7 rfl (lv_at hl 0 rfl) ?_
    refine lv_iload_n hx hb dX3_showsAll_8 rfl (lv_at hl 2 rfl) ?_
    replace q := c2_s q
    obtain ⟨x_3, g_2, qc, q⟩ := q
    refine x_callV hx hb hml hl.1 hown hX M (S1 := S) (As := [.int x3]) (rest := []) okX3 ra0 rfl kw_603 kw_604 mok_X3_shows (c_X3_shows ra0 qc (Nat.le_refl 1)) kw_807 rfl rfl dX3_showsAll_9 (Nat.le_of_ble_eq_true rfl) ⟨Nat.le_trans (by decide) hRf, Nat.le_trans (by decide) hRl⟩ (Nat.zero_le _) (Nat.zero_le _) (fun H locs M hEF => ?_)
    refine lv_if_ne (tgt := 17) hx hb dX3_showsAll_12 (by decide) (fun c_4 => ?_) (fun c_4 => ?_)
    · replace q := if_f c_4 q
      obtain ⟨x_5, e_x_5⟩ : ∃ y : Int32, y = x3 + 1 := ⟨_, rfl⟩
      replace q := nm_s q e_x_5
      refine lv_iinc (v := x_5) (lv' := [(3, .int x_5), (0, .ref a0), (2, .int x2)]) hx hb dX3_showsAll_17 hl (k := 2) rfl (by rw [e_x_5]; rfl) (by decide) rfl (fun ls hl => ?_)
      refine lv_goto (tgt := 2) hx hb dX3_showsAll_20 (by decide) ?_
      exact hk2 _ _ _ _ _ _ _ M ra0 (lv_sub hl [1, 2, 0] rfl) q
    · replace q := if_t c_4 q
      refine lv_iconst (v := 0) hx hb dX3_showsAll_15 (by decide) ?_
      cases q
      exact x_zret hx hb hr hlk rfl M Ext.rf dX3_showsAll_16
set_option maxRecDepth 100000 in
theorem l_X3_showsAll_2 (hx : p.tables.exec = Jvm.exec) (hb : c.code = cX3_showsAll) (hml : c.maxLocals = 4) (hr : meth.sig.returnType = (some .boolean)) (hlk : meth.locks = false) (hown : s.vm.findClass RX3 = some m.cls) (hX : Kx D cA lo tS s) (hRf : 2 ≤ R.frames) (hRl : 120 ≤ R.locals) {N : Nat} {rv : Int32} {g1 : Hg} {S : Hs} : ∀ (n : Nat), ∀ (H : Heap) (locs : List Loc) (ls : Array Slot) (g : Hg) (a0 : Nat) (x2 : Int32) (x3 : Int32), Mm D cA lo S g s H locs → Rf lo S a0 3 → lv_has ls 4 [(0, .ref a0), (2, .int x2), (3, .int x3)] → n_X3_showsAll_2 N S n g a0 x2 x3 = some (rv, g1) → W p l e R s m args below meth c H locs 0 0 (MQ below (Qcx D cA lo S (some (.int rv)) S g1 True) args s 0 0 (fun q : Nat => lo ≤ q)) (F0 m 2 ls []) := by
  intro n
  induction n with
  | zero =>
    intro H locs ls g a0 x2 x3 M ra0 hl q
    exact absurd q (by simp [n_X3_showsAll_2])
  | succ n ih => exact w_X3_showsAll_2 hx hb hml hr hlk hown hX hRf hRl (N := N)  ih
set_option maxHeartbeats 4000000 in
set_option maxRecDepth 100000 in
theorem w_X3_showsAll_0 (hx : p.tables.exec = Jvm.exec) (hb : c.code = cX3_showsAll) (hml : c.maxLocals = 4) (hr : meth.sig.returnType = (some .boolean)) (hlk : meth.locks = false) (hown : s.vm.findClass RX3 = some m.cls) (hX : Kx D cA lo tS s) (hRf : 2 ≤ R.frames) (hRl : 120 ≤ R.locals) {N : Nat} {rv : Int32} {g1 : Hg} {S : Hs} : ∀ (H : Heap) (locs : List Loc) (ls : Array Slot) (g : Hg) (a0 : Nat) (x1 : Int32) (x2 : Int32), Mm D cA lo S g s H locs → Rf lo S a0 3 → lv_has ls 4 [(0, .ref a0), (1, .int x1), (2, .int x2)] → b_X3_showsAll_0 N S g a0 x1 x2 = some (rv, g1) → W p l e R s m args below meth c H locs 0 0 (MQ below (Qcx D cA lo S (some (.int rv)) S g1 True) args s 0 0 (fun q : Nat => lo ≤ q)) (F0 m 0 ls []) := by
  intro H locs ls g a0 x1 x2 M ra0 hl q
  unfold b_X3_showsAll_0 at q
  refine lv_iload_n hx hb dX3_showsAll_0 rfl (lv_at hl 1 rfl) ?_
  refine lv_istore_n (lv' := [(3, .int x1), (0, .ref a0), (1, .int x1), (2, .int x2)]) hx hb dX3_showsAll_1 rfl hl (by decide) rfl (fun ls hl => ?_)
  exact l_X3_showsAll_2 hx hb hml hr hlk hown hX hRf hRl (N := N)  N _ _ _ _ _ _ _ M ra0 (lv_sub hl [1, 3, 0] rfl) q
set_option maxRecDepth 100000 in
theorem c_X3_showsAll {l : Launch} {D : va_G} {cA : Nat → ClassId} {lo tS N : Nat} {S : Hs} {g g1 : Hg} {rv : Int32} {a0 : Nat} {x1 : Int32} {x2 : Int32} (ra0 : Rf lo S a0 3) (q : f_X3_showsAll N S g a0 x1 x2 = some (rv, g1)) {d : Nat} (hd : 2 ≤ d) : Ctr l yX3_showsAll cX3_showsAll 4 (some .boolean) D cA lo tS [.ref a0, .int x1, .int x2] S g d (some (.int rv)) S g1 True 0 0 := by
  refine x_met (by decide) (Nat.le_of_ble_eq_true rfl) ?_
  intro p e s m below meth c ls hx hb hml hr hlk hown hnm hX M hl
  exact w_X3_showsAll_0 hx hb hml hr hlk hown hX hd (Nat.mul_le_mul_left 60 hd) (N := N) _ _ _ _ _ _ _ M ra0 (lv_sub hl [0, 1, 2] rfl) q
def b_X11_span_0 (N : Nat) (S : Hs) (g : Hg) (a0 : Nat) (x1 : Int32) (x2 : Int32) (x3 : Int32) (x4 : Int32) (x5 : Int32) : Option (Int32 × Hs × Hg × Nat × Nat) :=
nn (rdR g a0 3) (fun a_1 =>
c2 (f_X1_slotAt N S g a_1 x1) (fun o_3 g_2 =>
nn (rdR g_2 a0 3) (fun a_4 =>
c2 (f_X1_logAt N S g_2 a_4 x2) (fun o_6 g_5 =>
on o_3 (
some ((-1 : Int32), S, g_5, 0, 0)) (fun a_7 =>
on o_6 (
some ((-1 : Int32), S, g_5, 0, 0)) (fun a_8 =>
c2 (f_X3_reaches N S g_5 a_8 x3) (fun x_10 g_9 =>
if x_10 = 0 then (
some ((-1 : Int32), S, g_9, 0, 0)) else (
if x4 < 0 then (
some ((-1 : Int32), S, g_9, 0, 0)) else (
if x5 < x4 then (
some ((-1 : Int32), S, g_9, 0, 0)) else (
if x3 < x5 then (
some ((-1 : Int32), S, g_9, 0, 0)) else (
if (40 : Int32) < (x5 - x4) then (
some ((-1 : Int32), S, g_9, 0, 0)) else (
c2 (f_X3_showsAll N S g_9 a_8 x4 x5) (fun x_17 g_16 =>
if x_17 = 0 then (
some ((-1 : Int32), S, g_16, 0, 0)) else (
c2 (f_X7_begin N S g_16 a_7 (5 : Int32) x3 x4) (fun u_20 g_19 =>
nm (wrI g_19 a_7 8 x5) (fun g_21 =>
c5 (f_X3_showEntries N S g_21 a_8 a_7 x3 x4 x5) (fun u_23 S_24 g_22 =>
some ((rdI g_22 a_7 4), S_24, g_22, 0, 0))))))))))))))))))
def f_X11_span (N : Nat) (S : Hs) (g : Hg) (a0 : Nat) (x1 : Int32) (x2 : Int32) (x3 : Int32) (x4 : Int32) (x5 : Int32) : Option (Int32 × Hs × Hg × Nat × Nat) := b_X11_span_0 N S g a0 x1 x2 x3 x4 x5
set_option maxHeartbeats 4000000 in
set_option maxRecDepth 100000 in
theorem w_X11_span_0 (hx : p.tables.exec = Jvm.exec) (hb : c.code = cX11_span) (hml : c.maxLocals = 8) (hr : meth.sig.returnType = (some .int)) (hlk : meth.locks = false) (hown : s.vm.findClass RX11 = some m.cls) (hX : Kx D cA lo tS s) (hRf : 6 ≤ R.frames) (hRl : 360 ≤ R.locals) {N : Nat} {rv : Int32} {g1 : Hg} {S0 S1 : Hs} {cT wT : Nat} (hRc : cT ≤ R.cells) (hRs : wT ≤ R.slots) : ∀ (H : Heap) (locs : List Loc) (ls : Array Slot) (cells slots k w : Nat) (S : Hs) (g : Hg) (a0 : Nat) (x1 : Int32) (x2 : Int32) (x3 : Int32) (x4 : Int32) (x5 : Int32), Mm D cA lo S g s H locs → Ext lo S0 S → Rf lo S a0 11 → lv_has ls 8 [(0, .ref a0), (1, .int x1), (2, .int x2), (3, .int x3), (4, .int x4), (5, .int x5)] → b_X11_span_0 N S g a0 x1 x2 x3 x4 x5 = some (rv, S1, g1, k, w) → cells + k = cT → slots + w = wT → W p l e R s m args below meth c H locs cells slots (MQ below (Qcx D cA lo S0 (some (.int rv)) S1 g1 True) args s cT wT (fun q : Nat => lo ≤ q)) (F0 m 0 ls []) := by
  intro H locs ls cells slots k w S g a0 x1 x2 x3 x4 x5 M hE ra0 hl q hc hs
  unfold b_X11_span_0 at q
  refine lv_aload_n hx hb dX11_span_0 rfl (lv_at hl 0 rfl) ?_
  replace q := nn_s q
  obtain ⟨a_1, e_a_1, q⟩ := q
  refine x_getR hx hb hown hX M e_a_1 okX11 ra0 (by decide) rfl kw_359 dX11_span_1 (fun ra_1 => ?_)
  refine lv_iload_n hx hb dX11_span_4 rfl (lv_at hl 1 rfl) ?_
  replace q := c2_s q
  obtain ⟨o_3, g_2, qc, q⟩ := q
  refine x_callV hx hb hml hl.1 hown hX M (S1 := S) (As := [.int x1]) (rest := []) okX1 ra_1 rfl kw_732 kw_733 mok_X1_slotAt (c_X1_slotAt ra_1 qc (Nat.le_refl 1)) kw_731 rfl rfl dX11_span_5 (Nat.le_of_ble_eq_true rfl) ⟨Nat.le_trans (by decide) hRf, Nat.le_trans (by decide) hRl⟩ (hz_step hc hRc) (hz_step hs hRs) (fun H locs M hEF => ?_)
  have ro_3 := hEF.2
  refine x_astore (lv' := [(6, va_rf o_3), (0, .ref a0), (1, .int x1), (2, .int x2), (3, .int x3), (4, .int x4), (5, .int x5)]) hx hb dX11_span_8 hl (by decide) rfl (fun ls hl => ?_)
  refine lv_aload_n hx hb dX11_span_10 rfl (lv_at hl 1 rfl) ?_
  replace q := nn_s q
  obtain ⟨a_4, e_a_4, q⟩ := q
  refine x_getR hx hb hown hX M e_a_4 okX11 ra0 (by decide) rfl kw_359 dX11_span_11 (fun ra_4 => ?_)
  refine lv_iload_n hx hb dX11_span_14 rfl (lv_at hl 3 rfl) ?_
  replace q := c2_s q
  obtain ⟨o_6, g_5, qc, q⟩ := q
  refine x_callV hx hb hml hl.1 hown hX M (S1 := S) (As := [.int x2]) (rest := []) okX1 ra_4 rfl kw_495 kw_496 mok_X1_logAt (c_X1_logAt ra_4 qc (Nat.le_refl 1)) kw_494 rfl rfl dX11_span_15 (Nat.le_of_ble_eq_true rfl) ⟨Nat.le_trans (by decide) hRf, Nat.le_trans (by decide) hRl⟩ (hz_step hc hRc) (hz_step hs hRs) (fun H locs M hEF => ?_)
  have ro_6 := hEF.2
  refine x_astore (lv' := [(7, va_rf o_6), (6, va_rf o_3), (0, .ref a0), (1, .int x1), (2, .int x2), (3, .int x3), (4, .int x4), (5, .int x5)]) hx hb dX11_span_18 hl (by decide) (by cases o_3 <;> rfl) (fun ls hl => ?_)
  refine x_aload hx hb dX11_span_20 (lv_at hl 1 rfl) ?_
  refine x_ifnull (tgt := 39) hx hb dX11_span_22 (by decide) (fun c_30 => ?_) (fun a_7 c_30 => ?_)
  · replace q := on_n c_30 q
    refine lv_iconst (v := -1) hx hb dX11_span_39 (by decide) ?_
    cases q
    have hc : cells = cT := hc
    have hs : slots = wT := hs
    subst hc
    subst hs
    exact x_iret hx hb hr hlk M hE dX11_span_40
  · subst c_30
    replace q := on_s rfl q
    have ra_7 := ro_3 a_7 rfl
    have hl : lv_has ls 8 [(7, va_rf o_6), (6, .ref a_7), (0, .ref a0), (1, .int x1), (2, .int x2), (3, .int x3), (4, .int x4), (5, .int x5)] := hl
    refine x_aload hx hb dX11_span_25 (lv_at hl 0 rfl) ?_
    refine x_ifnull (tgt := 39) hx hb dX11_span_27 (by decide) (fun c_29 => ?_) (fun a_8 c_29 => ?_)
    · replace q := on_n c_29 q
      refine lv_iconst (v := -1) hx hb dX11_span_39 (by decide) ?_
      cases q
      have hc : cells = cT := hc
      have hs : slots = wT := hs
      subst hc
      subst hs
      exact x_iret hx hb hr hlk M hE dX11_span_40
    · subst c_29
      replace q := on_s rfl q
      have ra_8 := ro_6 a_8 rfl
      have hl : lv_has ls 8 [(7, .ref a_8), (6, .ref a_7), (0, .ref a0), (1, .int x1), (2, .int x2), (3, .int x3), (4, .int x4), (5, .int x5)] := hl
      refine lv_aload hx hb dX11_span_30 (lv_at hl 0 rfl) ?_
      refine lv_iload_n hx hb dX11_span_32 rfl (lv_at hl 5 rfl) ?_
      replace q := c2_s q
      obtain ⟨x_10, g_9, qc, q⟩ := q
      refine x_callV hx hb hml hl.1 hown hX M (S1 := S) (As := [.int x3]) (rest := []) okX3 ra_8 rfl kw_550 kw_551 mok_X3_reaches (c_X3_reaches ra_8 qc (Nat.le_refl 1)) kw_549 rfl rfl dX11_span_33 (Nat.le_of_ble_eq_true rfl) ⟨Nat.le_trans (by decide) hRf, Nat.le_trans (by decide) hRl⟩ (hz_step hc hRc) (hz_step hs hRs) (fun H locs M hEF => ?_)
      refine lv_if_ne (tgt := 41) hx hb dX11_span_36 (by decide) (fun c_11 => ?_) (fun c_11 => ?_)
      · replace q := if_f c_11 q
        refine lv_iload hx hb dX11_span_41 (lv_at hl 6 rfl) ?_
        refine lv_if_lt (tgt := 81) hx hb dX11_span_43 (by decide) (fun c_12 => ?_) (fun c_12 => ?_)
        · replace q := if_t c_12 q
          refine lv_iconst (v := -1) hx hb dX11_span_81 (by decide) ?_
          cases q
          have hc : cells = cT := hc
          have hs : slots = wT := hs
          subst hc
          subst hs
          exact x_iret hx hb hr hlk M hE dX11_span_82
        · replace q := if_f c_12 q
          refine lv_iload hx hb dX11_span_46 (lv_at hl 6 rfl) ?_
          refine lv_iload hx hb dX11_span_48 (lv_at hl 7 rfl) ?_
          refine lv_icmp_gt (tgt := 81) hx hb dX11_span_50 (by decide) (fun c_13 => ?_) (fun c_13 => ?_)
          · replace q := if_t c_13 q
            refine lv_iconst (v := -1) hx hb dX11_span_81 (by decide) ?_
            cases q
            have hc : cells = cT := hc
            have hs : slots = wT := hs
            subst hc
            subst hs
            exact x_iret hx hb hr hlk M hE dX11_span_82
          · replace q := if_f c_13 q
            refine lv_iload hx hb dX11_span_53 (lv_at hl 7 rfl) ?_
            refine lv_iload_n hx hb dX11_span_55 rfl (lv_at hl 5 rfl) ?_
            refine lv_icmp_gt (tgt := 81) hx hb dX11_span_56 (by decide) (fun c_14 => ?_) (fun c_14 => ?_)
            · replace q := if_t c_14 q
              refine lv_iconst (v := -1) hx hb dX11_span_81 (by decide) ?_
              cases q
              have hc : cells = cT := hc
              have hs : slots = wT := hs
              subst hc
              subst hs
              exact x_iret hx hb hr hlk M hE dX11_span_82
            · replace q := if_f c_14 q
              refine lv_iload hx hb dX11_span_59 (lv_at hl 7 rfl) ?_
              refine lv_iload hx hb dX11_span_61 (lv_at hl 6 rfl) ?_
              refine lv_isub hx hb dX11_span_63 ?_
              refine lv_bipush (v := 40) hx hb dX11_span_64 (by decide) ?_
              refine lv_icmp_gt (tgt := 81) hx hb dX11_span_66 (by decide) (fun c_15 => ?_) (fun c_15 => ?_)
              · replace q := if_t c_15 q
                refine lv_iconst (v := -1) hx hb dX11_span_81 (by decide) ?_
                cases q
                have hc : cells = cT := hc
                have hs : slots = wT := hs
                subst hc
                subst hs
                exact x_iret hx hb hr hlk M hE dX11_span_82
              · replace q := if_f c_15 q
                refine lv_aload hx hb dX11_span_69 (lv_at hl 0 rfl) ?_
                refine lv_iload hx hb dX11_span_71 (lv_at hl 6 rfl) ?_
                refine lv_iload hx hb dX11_span_73 (lv_at hl 7 rfl) ?_
                replace q := c2_s q
                obtain ⟨x_17, g_16, qc, q⟩ := q
                refine x_callV hx hb hml hl.1 hown hX M (S1 := S) (As := [.int x4, .int x5]) (rest := []) okX3 ra_8 rfl kw_804 kw_805 mok_X3_showsAll (c_X3_showsAll ra_8 qc (Nat.le_refl 2)) kw_803 rfl rfl dX11_span_75 (Nat.le_of_ble_eq_true rfl) ⟨Nat.le_trans (by decide) hRf, Nat.le_trans (by decide) hRl⟩ (hz_step hc hRc) (hz_step hs hRs) (fun H locs M hEF => ?_)
                refine lv_if_ne (tgt := 83) hx hb dX11_span_78 (by decide) (fun c_18 => ?_) (fun c_18 => ?_)
                · replace q := if_f c_18 q
                  refine lv_aload hx hb dX11_span_83 (lv_at hl 1 rfl) ?_
                  refine lv_iconst (v := 5) hx hb dX11_span_85 (by decide) ?_
                  refine lv_iload_n hx hb dX11_span_86 rfl (lv_at hl 5 rfl) ?_
                  refine lv_iload hx hb dX11_span_87 (lv_at hl 6 rfl) ?_
                  replace q := c2_s q
                  obtain ⟨u_20, g_19, qc, q⟩ := q
                  refine x_callV hx hb hml hl.1 hown hX M (S1 := S) (As := [.int (5 : Int32), .int x3, .int x4]) (rest := []) okX7 ra_7 rfl kw_736 kw_737 mok_X7_begin (c_X7_begin ra_7 qc (Nat.le_refl 1)) kw_735 rfl rfl dX11_span_89 (Nat.le_of_ble_eq_true rfl) ⟨Nat.le_trans (by decide) hRf, Nat.le_trans (by decide) hRl⟩ (hz_step hc hRc) (hz_step hs hRs) (fun H locs M hEF => ?_)
                  refine lv_aload hx hb dX11_span_92 (lv_at hl 1 rfl) ?_
                  refine lv_iload hx hb dX11_span_94 (lv_at hl 7 rfl) ?_
                  refine x_putI hx hb hown hX M (k := 8) okX7 ra_7 (by decide) rfl (Or.inl rfl) rfl rfl kw_206 dX11_span_96 (fun H locs M => ?_)
                  replace q := gen_g M q
                  obtain ⟨g_21, -, M, q⟩ := q
                  refine lv_aload hx hb dX11_span_99 (lv_at hl 0 rfl) ?_
                  refine lv_aload hx hb dX11_span_101 (lv_at hl 1 rfl) ?_
                  refine lv_iload_n hx hb dX11_span_103 rfl (lv_at hl 5 rfl) ?_
                  refine lv_iload hx hb dX11_span_104 (lv_at hl 6 rfl) ?_
                  refine lv_iload hx hb dX11_span_106 (lv_at hl 7 rfl) ?_
                  replace q := c5_s q
                  obtain ⟨u_23, S_24, g_22, k_25, w_26, k_27, w_28, qc, ek, ew, q⟩ := q
                  refine x_callV hx hb hml hl.1 hown hX M (As := [.ref a_7, .int x3, .int x4, .int x5]) (rest := []) okX3 ra_8 rfl kw_740 kw_741 mok_X3_showEntries (c_X3_showEntries ra_8 ra_7 qc (Nat.le_refl 5)) kw_739 rfl rfl dX11_span_108 (Nat.le_of_ble_eq_true rfl) ⟨Nat.le_trans (by decide) hRf, Nat.le_trans (by decide) hRl⟩ (hb_step hc ek hRc) (hb_step hs ew hRs) (fun H locs M hEF => ?_)
                  replace ra0 := ra0.ext hEF.1
                  replace ra_7 := ra_7.ext hEF.1
                  replace ra_8 := ra_8.ext hEF.1
                  replace hE := hE.tr hEF.1
                  replace hc := hc_step hc ek
                  replace hs := hc_step hs ew
                  clear ek ew
                  refine lv_aload hx hb dX11_span_111 (lv_at hl 1 rfl) ?_
                  refine x_getI hx hb hown hX M (k := 4) okX7 ra_7 (by decide) rfl kw_194 dX11_span_113 ?_
                  cases q
                  have hc : cells + k_25 = cT := hc
                  have hs : slots + w_26 = wT := hs
                  subst hc
                  subst hs
                  exact x_iret hx hb hr hlk M hE dX11_span_116
                · replace q := if_t c_18 q
                  refine lv_iconst (v := -1) hx hb dX11_span_81 (by decide) ?_
                  cases q
                  have hc : cells = cT := hc
                  have hs : slots = wT := hs
                  subst hc
                  subst hs
                  exact x_iret hx hb hr hlk M hE dX11_span_82
      · replace q := if_t c_11 q
        refine lv_iconst (v := -1) hx hb dX11_span_39 (by decide) ?_
        cases q
        have hc : cells = cT := hc
        have hs : slots = wT := hs
        subst hc
        subst hs
        exact x_iret hx hb hr hlk M hE dX11_span_40
set_option maxRecDepth 100000 in
theorem c_X11_span {l : Launch} {D : va_G} {cA : Nat → ClassId} {lo tS N : Nat} {S S1 : Hs} {g g1 : Hg} {k w : Nat} {rv : Int32} {a0 : Nat} {x1 : Int32} {x2 : Int32} {x3 : Int32} {x4 : Int32} {x5 : Int32} (ra0 : Rf lo S a0 11) (q : f_X11_span N S g a0 x1 x2 x3 x4 x5 = some (rv, S1, g1, k, w)) {d : Nat} (hd : 6 ≤ d) : Ctr l yX11_span cX11_span 8 (some .int) D cA lo tS [.ref a0, .int x1, .int x2, .int x3, .int x4, .int x5] S g d (some (.int rv)) S1 g1 True k w := by
  refine x_met (by decide) (Nat.le_of_ble_eq_true rfl) ?_
  intro p e s m below meth c ls hx hb hml hr hlk hown hnm hX M hl
  exact w_X11_span_0 hx hb hml hr hlk hown hX hd (Nat.mul_le_mul_left 60 hd) (N := N) (Nat.le_refl k) (Nat.le_refl w) _ _ _ _ _ _ _ _ _ _ _ _ _ _ _ M Ext.rf ra0 (lv_sub hl [0, 1, 2, 3, 4, 5] rfl) q (Nat.zero_add k) (Nat.zero_add w)
def b_X11_step_0 (N : Nat) (S : Hs) (g : Hg) (a0 : Nat) (x1 : Int32) (x2 : Int32) (x3 : Int32) : Option (Int32 × Hg) :=
nn (rdR g a0 3) (fun a_1 =>
c2 (f_X1_slotAt N S g a_1 x1) (fun o_3 g_2 =>
on o_3 (
some ((0 : Int32), g_2)) (fun a_4 =>
c2 (f_X7_hasStep N S g_2 a_4 x2) (fun x_6 g_5 =>
if x_6 = 0 then (
some ((0 : Int32), g_5)) else (
c2 (f_X11_isPlaceInSum N S g_5 x3) (fun x_9 g_8 =>
if x_9 = 0 then (
some ((0 : Int32), g_8)) else (
nn (rdR g_8 a_4 2) (fun a_11 =>
ck (inb ((x2 * (8 : Int32)) + x3) (hpL S a_11)) (
some ((rdI g_8 a_11 ((x2 * (8 : Int32)) + x3).toNatClampNeg), g_8))))))))))
def f_X11_step (N : Nat) (S : Hs) (g : Hg) (a0 : Nat) (x1 : Int32) (x2 : Int32) (x3 : Int32) : Option (Int32 × Hg) := b_X11_step_0 N S g a0 x1 x2 x3
set_option maxHeartbeats 4000000 in
set_option maxRecDepth 100000 in
theorem w_X11_step_0 (hx : p.tables.exec = Jvm.exec) (hb : c.code = cX11_step) (hml : c.maxLocals = 5) (hr : meth.sig.returnType = (some .int)) (hlk : meth.locks = false) (hown : s.vm.findClass RX11 = some m.cls) (hX : Kx D cA lo tS s) (hRf : 2 ≤ R.frames) (hRl : 120 ≤ R.locals) {N : Nat} {rv : Int32} {g1 : Hg} {S : Hs} : ∀ (H : Heap) (locs : List Loc) (ls : Array Slot) (g : Hg) (a0 : Nat) (x1 : Int32) (x2 : Int32) (x3 : Int32), Mm D cA lo S g s H locs → Rf lo S a0 11 → lv_has ls 5 [(0, .ref a0), (1, .int x1), (2, .int x2), (3, .int x3)] → b_X11_step_0 N S g a0 x1 x2 x3 = some (rv, g1) → W p l e R s m args below meth c H locs 0 0 (MQ below (Qcx D cA lo S (some (.int rv)) S g1 True) args s 0 0 (fun q : Nat => lo ≤ q)) (F0 m 0 ls []) := by
  intro H locs ls g a0 x1 x2 x3 M ra0 hl q
  unfold b_X11_step_0 at q
  refine lv_aload_n hx hb dX11_step_0 rfl (lv_at hl 0 rfl) ?_
  replace q := nn_s q
  obtain ⟨a_1, e_a_1, q⟩ := q
  refine x_getR hx hb hown hX M e_a_1 okX11 ra0 (by decide) rfl kw_359 dX11_step_1 (fun ra_1 => ?_)
  refine lv_iload_n hx hb dX11_step_4 rfl (lv_at hl 1 rfl) ?_
  replace q := c2_s q
  obtain ⟨o_3, g_2, qc, q⟩ := q
  refine x_callV hx hb hml hl.1 hown hX M (S1 := S) (As := [.int x1]) (rest := []) okX1 ra_1 rfl kw_732 kw_733 mok_X1_slotAt (c_X1_slotAt ra_1 qc (Nat.le_refl 1)) kw_731 rfl rfl dX11_step_5 (Nat.le_of_ble_eq_true rfl) ⟨Nat.le_trans (by decide) hRf, Nat.le_trans (by decide) hRl⟩ (Nat.zero_le _) (Nat.zero_le _) (fun H locs M hEF => ?_)
  have ro_3 := hEF.2
  refine x_astore (lv' := [(4, va_rf o_3), (0, .ref a0), (1, .int x1), (2, .int x2), (3, .int x3)]) hx hb dX11_step_8 hl (by decide) rfl (fun ls hl => ?_)
  refine x_aload hx hb dX11_step_10 (lv_at hl 0 rfl) ?_
  refine x_ifnull (tgt := 31) hx hb dX11_step_12 (by decide) (fun c_12 => ?_) (fun a_4 c_12 => ?_)
  · replace q := on_n c_12 q
    refine lv_iconst (v := 0) hx hb dX11_step_31 (by decide) ?_
    cases q
    exact x_iret hx hb hr hlk M Ext.rf dX11_step_32
  · subst c_12
    replace q := on_s rfl q
    have ra_4 := ro_3 a_4 rfl
    have hl : lv_has ls 5 [(4, .ref a_4), (0, .ref a0), (1, .int x1), (2, .int x2), (3, .int x3)] := hl
    refine lv_aload hx hb dX11_step_15 (lv_at hl 0 rfl) ?_
    refine lv_iload_n hx hb dX11_step_17 rfl (lv_at hl 3 rfl) ?_
    replace q := c2_s q
    obtain ⟨x_6, g_5, qc, q⟩ := q
    refine x_callV hx hb hml hl.1 hown hX M (S1 := S) (As := [.int x2]) (rest := []) okX7 ra_4 rfl kw_825 kw_826 mok_X7_hasStep (c_X7_hasStep ra_4 qc (Nat.le_refl 1)) kw_824 rfl rfl dX11_step_18 (Nat.le_of_ble_eq_true rfl) ⟨Nat.le_trans (by decide) hRf, Nat.le_trans (by decide) hRl⟩ (Nat.zero_le _) (Nat.zero_le _) (fun H locs M hEF => ?_)
    refine lv_if_eq (tgt := 31) hx hb dX11_step_21 (by decide) (fun c_7 => ?_) (fun c_7 => ?_)
    · replace q := if_t c_7 q
      refine lv_iconst (v := 0) hx hb dX11_step_31 (by decide) ?_
      cases q
      exact x_iret hx hb hr hlk M Ext.rf dX11_step_32
    · replace q := if_f c_7 q
      refine lv_iload_n hx hb dX11_step_24 rfl (lv_at hl 4 rfl) ?_
      replace q := c2_s q
      obtain ⟨x_9, g_8, qc, q⟩ := q
      refine x_callS hx hb hml hl.1 hown hX M (S1 := S) (As := [.int x3]) (rest := []) kw_647 mok_X11_isPlaceInSum (c_X11_isPlaceInSum  qc (Nat.le_refl 1)) kw_646 rfl rfl dX11_step_25 (Nat.le_of_ble_eq_true rfl) ⟨Nat.le_trans (by decide) hRf, Nat.le_trans (by decide) hRl⟩ (Nat.zero_le _) (Nat.zero_le _) (fun H locs M hEF => ?_)
      refine lv_if_ne (tgt := 33) hx hb dX11_step_28 (by decide) (fun c_10 => ?_) (fun c_10 => ?_)
      · replace q := if_f c_10 q
        refine lv_aload hx hb dX11_step_33 (lv_at hl 0 rfl) ?_
        replace q := nn_s q
        obtain ⟨a_11, e_a_11, q⟩ := q
        refine x_getR hx hb hown hX M e_a_11 okX7 ra_4 (by decide) rfl kw_188 dX11_step_35 (fun ra_11 => ?_)
        refine lv_iload_n hx hb dX11_step_38 rfl (lv_at hl 3 rfl) ?_
        refine lv_bipush (v := 8) hx hb dX11_step_39 (by decide) ?_
        refine lv_imul hx hb dX11_step_41 ?_
        refine lv_iload_n hx hb dX11_step_42 rfl (lv_at hl 4 rfl) ?_
        refine lv_iadd hx hb dX11_step_43 ?_
        replace q := ck_s q
        obtain ⟨hin, q⟩ := q
        refine x_iald hx hb hX M ra_11 (inb_in hin) dX11_step_44 ?_
        cases q
        exact x_iret hx hb hr hlk M Ext.rf dX11_step_45
      · replace q := if_t c_10 q
        refine lv_iconst (v := 0) hx hb dX11_step_31 (by decide) ?_
        cases q
        exact x_iret hx hb hr hlk M Ext.rf dX11_step_32
set_option maxRecDepth 100000 in
theorem c_X11_step {l : Launch} {D : va_G} {cA : Nat → ClassId} {lo tS N : Nat} {S : Hs} {g g1 : Hg} {rv : Int32} {a0 : Nat} {x1 : Int32} {x2 : Int32} {x3 : Int32} (ra0 : Rf lo S a0 11) (q : f_X11_step N S g a0 x1 x2 x3 = some (rv, g1)) {d : Nat} (hd : 2 ≤ d) : Ctr l yX11_step cX11_step 5 (some .int) D cA lo tS [.ref a0, .int x1, .int x2, .int x3] S g d (some (.int rv)) S g1 True 0 0 := by
  refine x_met (by decide) (Nat.le_of_ble_eq_true rfl) ?_
  intro p e s m below meth c ls hx hb hml hr hlk hown hnm hX M hl
  exact w_X11_step_0 hx hb hml hr hlk hown hX hd (Nat.mul_le_mul_left 60 hd) (N := N) _ _ _ _ _ _ _ _ M ra0 (lv_sub hl [0, 1, 2, 3] rfl) q
def b_X11_agree_78 (N : Nat) (S : Hs) (g : Hg) (a0 : Nat) (a3 : Nat) (sa0 : Nat) : Option (Int32 × Hs × Hg × Nat × Nat) :=
nn (rdR g a0 3) (fun a_1 =>
c2 (f_X1_logAt N S g a_1 (rdI g sa0 5)) (fun o_3 g_2 =>
on o_3 (
some ((0 : Int32), S, g_2, 0, 0)) (fun a_4 =>
c2 (f_X3_reaches N S g_2 a_4 (rdI g_2 sa0 4)) (fun x_6 g_5 =>
if x_6 = 0 then (
some ((0 : Int32), S, g_5, 0, 0)) else (
nn (rdR g_5 a0 5) (fun a_8 =>
c5 (f_X3_showGrowth N S g_5 a_4 a_8 (rdI g_5 a3 4) (rdI g_5 sa0 4)) (fun u_10 S_11 g_9 =>
nn (rdR g_9 a0 2) (fun a_16 =>
nn (rdR g_9 a0 5) (fun a_17 =>
c2 (f_X8_isGrowth N S_11 g_9 a_16 a_17 a3 sa0) (fun x_19 g_18 =>
ck (zb x_19) (
some (x_19, S_11, g_18, 0, 0))))))))))))
def b_X11_agree_61 (N : Nat) (S : Hs) (g : Hg) (a0 : Nat) (a1 : Nat) (a2 : Nat) (sa0 : Nat) : Option (Int32 × Hs × Hg × Nat × Nat) :=
if (rdI g a2 4) ≤ (rdI g a1 4) then (
b_X11_agree_78 N S g a0 sa0 a1) else (
b_X11_agree_78 N S g a0 sa0 a2)
def b_X11_agree_0 (N : Nat) (S : Hs) (g : Hg) (a0 : Nat) (a1 : Nat) (a2 : Nat) : Option (Int32 × Hs × Hg × Nat × Nat) :=
if (rdI g a1 4) = (rdI g a2 4) then (
nn (rdR g a1 0) (fun a_3 =>
nn (rdR g a2 0) (fun a_4 =>
c2 (f_X11_isSameSum N S g a_3 a_4) (fun x_6 g_5 =>
if x_6 = 0 then (
some ((0 : Int32), S, g_5, 0, 0)) else (
nn (rdR g_5 a1 1) (fun a_8 =>
nn (rdR g_5 a2 1) (fun a_9 =>
c2 (f_X11_isSameSum N S g_5 a_8 a_9) (fun x_11 g_10 =>
if x_11 = 0 then (
some ((0 : Int32), S, g_10, 0, 0)) else (
some ((1 : Int32), S, g_10, 0, 0)))))))))) else (
if (rdI g a2 4) ≤ (rdI g a1 4) then (
b_X11_agree_61 N S g a0 a1 a2 a2) else (
b_X11_agree_61 N S g a0 a1 a2 a1))
def f_X11_agree (N : Nat) (S : Hs) (g : Hg) (a0 : Nat) (a1 : Nat) (a2 : Nat) : Option (Int32 × Hs × Hg × Nat × Nat) := b_X11_agree_0 N S g a0 a1 a2
set_option maxHeartbeats 4000000 in
set_option maxRecDepth 100000 in
theorem w_X11_agree_78 (hx : p.tables.exec = Jvm.exec) (hb : c.code = cX11_agree) (hml : c.maxLocals = 6) (hr : meth.sig.returnType = (some .boolean)) (hlk : meth.locks = false) (hown : s.vm.findClass RX11 = some m.cls) (hX : Kx D cA lo tS s) (hRf : 7 ≤ R.frames) (hRl : 420 ≤ R.locals) {N : Nat} {rv : Int32} {g1 : Hg} {S0 S1 : Hs} {cT wT : Nat} (hRc : cT ≤ R.cells) (hRs : wT ≤ R.slots) : ∀ (H : Heap) (locs : List Loc) (ls : Array Slot) (cells slots k w : Nat) (S : Hs) (g : Hg) (a0 : Nat) (a3 : Nat) (sa0 : Nat), Mm D cA lo S g s H locs → Ext lo S0 S → Rf lo S a0 11 → Rf lo S a3 0 → Rf lo S sa0 0 → lv_has ls 6 [(0, .ref a0), (3, .ref a3)] → b_X11_agree_78 N S g a0 a3 sa0 = some (rv, S1, g1, k, w) → cells + k = cT → slots + w = wT → W p l e R s m args below meth c H locs cells slots (MQ below (Qcx D cA lo S0 (some (.int rv)) S1 g1 True) args s cT wT (fun q : Nat => lo ≤ q)) (F0 m 78 ls [.ref sa0]) := by
  intro H locs ls cells slots k w S g a0 a3 sa0 M hE ra0 ra3 rsa0 hl q hc hs
  unfold b_X11_agree_78 at q
  refine lv_astore (lv' := [(4, .ref sa0), (0, .ref a0), (3, .ref a3)]) hx hb dX11_agree_78 hl (by decide) rfl (fun ls hl => ?_)
  refine lv_aload_n hx hb dX11_agree_80 rfl (lv_at hl 1 rfl) ?_
  replace q := nn_s q
  obtain ⟨a_1, e_a_1, q⟩ := q
  refine x_getR hx hb hown hX M e_a_1 okX11 ra0 (by decide) rfl kw_359 dX11_agree_81 (fun ra_1 => ?_)
  refine lv_aload hx hb dX11_agree_84 (lv_at hl 0 rfl) ?_
  refine x_getI hx hb hown hX M (k := 5) okX0 rsa0 (by decide) rfl kw_268 dX11_agree_86 ?_
  replace q := c2_s q
  obtain ⟨o_3, g_2, qc, q⟩ := q
  refine x_callV hx hb hml hl.1 hown hX M (S1 := S) (As := [.int (rdI g sa0 5)]) (rest := []) okX1 ra_1 rfl kw_495 kw_496 mok_X1_logAt (c_X1_logAt ra_1 qc (Nat.le_refl 1)) kw_494 rfl rfl dX11_agree_89 (Nat.le_of_ble_eq_true rfl) ⟨Nat.le_trans (by decide) hRf, Nat.le_trans (by decide) hRl⟩ (hz_step hc hRc) (hz_step hs hRs) (fun H locs M hEF => ?_)
  have ro_3 := hEF.2
  refine x_astore (lv' := [(5, va_rf o_3), (4, .ref sa0), (0, .ref a0), (3, .ref a3)]) hx hb dX11_agree_92 hl (by decide) rfl (fun ls hl => ?_)
  refine x_aload hx hb dX11_agree_94 (lv_at hl 0 rfl) ?_
  refine x_ifnull (tgt := 112) hx hb dX11_agree_96 (by decide) (fun c_20 => ?_) (fun a_4 c_20 => ?_)
  · replace q := on_n c_20 q
    refine lv_iconst (v := 0) hx hb dX11_agree_112 (by decide) ?_
    cases q
    have hc : cells = cT := hc
    have hs : slots = wT := hs
    subst hc
    subst hs
    exact x_zret hx hb hr hlk rfl M hE dX11_agree_113
  · subst c_20
    replace q := on_s rfl q
    have ra_4 := ro_3 a_4 rfl
    have hl : lv_has ls 6 [(5, .ref a_4), (4, .ref sa0), (0, .ref a0), (3, .ref a3)] := hl
    refine lv_aload hx hb dX11_agree_99 (lv_at hl 0 rfl) ?_
    refine lv_aload hx hb dX11_agree_101 (lv_at hl 1 rfl) ?_
    refine x_getI hx hb hown hX M (k := 4) okX0 rsa0 (by decide) rfl kw_265 dX11_agree_103 ?_
    replace q := c2_s q
    obtain ⟨x_6, g_5, qc, q⟩ := q
    refine x_callV hx hb hml hl.1 hown hX M (S1 := S) (As := [.int (rdI g_2 sa0 4)]) (rest := []) okX3 ra_4 rfl kw_550 kw_551 mok_X3_reaches (c_X3_reaches ra_4 qc (Nat.le_refl 1)) kw_549 rfl rfl dX11_agree_106 (Nat.le_of_ble_eq_true rfl) ⟨Nat.le_trans (by decide) hRf, Nat.le_trans (by decide) hRl⟩ (hz_step hc hRc) (hz_step hs hRs) (fun H locs M hEF => ?_)
    refine lv_if_ne (tgt := 114) hx hb dX11_agree_109 (by decide) (fun c_7 => ?_) (fun c_7 => ?_)
    · replace q := if_f c_7 q
      refine lv_aload hx hb dX11_agree_114 (lv_at hl 0 rfl) ?_
      refine lv_aload_n hx hb dX11_agree_116 rfl (lv_at hl 2 rfl) ?_
      replace q := nn_s q
      obtain ⟨a_8, e_a_8, q⟩ := q
      refine x_getR hx hb hown hX M e_a_8 okX11 ra0 (by decide) rfl kw_361 dX11_agree_117 (fun ra_8 => ?_)
      refine lv_aload_n hx hb dX11_agree_120 rfl (lv_at hl 3 rfl) ?_
      refine x_getI hx hb hown hX M (k := 4) okX0 ra3 (by decide) rfl kw_265 dX11_agree_121 ?_
      refine lv_aload hx hb dX11_agree_124 (lv_at hl 1 rfl) ?_
      refine x_getI hx hb hown hX M (k := 4) okX0 rsa0 (by decide) rfl kw_265 dX11_agree_126 ?_
      replace q := c5_s q
      obtain ⟨u_10, S_11, g_9, k_12, w_13, k_14, w_15, qc, ek, ew, q⟩ := q
      refine x_callV hx hb hml hl.1 hown hX M (As := [.ref a_8, .int (rdI g_5 a3 4), .int (rdI g_5 sa0 4)]) (rest := []) okX3 ra_4 rfl kw_780 kw_781 mok_X3_showGrowth (c_X3_showGrowth ra_4 ra_8 qc (Nat.le_refl 5)) kw_779 rfl rfl dX11_agree_129 (Nat.le_of_ble_eq_true rfl) ⟨Nat.le_trans (by decide) hRf, Nat.le_trans (by decide) hRl⟩ (hb_step hc ek hRc) (hb_step hs ew hRs) (fun H locs M hEF => ?_)
      replace ra0 := ra0.ext hEF.1
      replace ra3 := ra3.ext hEF.1
      replace rsa0 := rsa0.ext hEF.1
      replace ra_4 := ra_4.ext hEF.1
      replace hE := hE.tr hEF.1
      replace hc := hc_step hc ek
      replace hs := hc_step hs ew
      clear ek ew
      refine lv_aload_n hx hb dX11_agree_132 rfl (lv_at hl 2 rfl) ?_
      replace q := nn_s q
      obtain ⟨a_16, e_a_16, q⟩ := q
      refine x_getR hx hb hown hX M e_a_16 okX11 ra0 (by decide) rfl kw_358 dX11_agree_133 (fun ra_16 => ?_)
      refine lv_aload_n hx hb dX11_agree_136 rfl (lv_at hl 2 rfl) ?_
      replace q := nn_s q
      obtain ⟨a_17, e_a_17, q⟩ := q
      refine x_getR hx hb hown hX M e_a_17 okX11 ra0 (by decide) rfl kw_361 dX11_agree_137 (fun ra_17 => ?_)
      refine lv_aload_n hx hb dX11_agree_140 rfl (lv_at hl 3 rfl) ?_
      refine lv_aload hx hb dX11_agree_141 (lv_at hl 1 rfl) ?_
      replace q := c2_s q
      obtain ⟨x_19, g_18, qc, q⟩ := q
      refine x_callV hx hb hml hl.1 hown hX M (S1 := S_11) (As := [.ref a_17, .ref a3, .ref sa0]) (rest := []) okX8 ra_16 rfl kw_872 kw_873 mok_X8_isGrowth (c_X8_isGrowth ra_16 ra_17 ra3 rsa0 qc (Nat.le_refl 6)) kw_871 rfl rfl dX11_agree_143 (Nat.le_of_ble_eq_true rfl) ⟨Nat.le_trans (by decide) hRf, Nat.le_trans (by decide) hRl⟩ (hz_step hc hRc) (hz_step hs hRs) (fun H locs M hEF => ?_)
      replace q := ck_s q
      obtain ⟨hz, q⟩ := q
      cases q
      have hc : cells + k_12 = cT := hc
      have hs : slots + w_13 = wT := hs
      subst hc
      subst hs
      exact x_zret hx hb hr hlk (zb_nar hz) M hE dX11_agree_146
    · replace q := if_t c_7 q
      refine lv_iconst (v := 0) hx hb dX11_agree_112 (by decide) ?_
      cases q
      have hc : cells = cT := hc
      have hs : slots = wT := hs
      subst hc
      subst hs
      exact x_zret hx hb hr hlk rfl M hE dX11_agree_113
set_option maxHeartbeats 4000000 in
set_option maxRecDepth 100000 in
theorem w_X11_agree_61 (hx : p.tables.exec = Jvm.exec) (hb : c.code = cX11_agree) (hml : c.maxLocals = 6) (hr : meth.sig.returnType = (some .boolean)) (hlk : meth.locks = false) (hown : s.vm.findClass RX11 = some m.cls) (hX : Kx D cA lo tS s) (hRf : 7 ≤ R.frames) (hRl : 420 ≤ R.locals) {N : Nat} {rv : Int32} {g1 : Hg} {S0 S1 : Hs} {cT wT : Nat} (hRc : cT ≤ R.cells) (hRs : wT ≤ R.slots) : ∀ (H : Heap) (locs : List Loc) (ls : Array Slot) (cells slots k w : Nat) (S : Hs) (g : Hg) (a0 : Nat) (a1 : Nat) (a2 : Nat) (sa0 : Nat), Mm D cA lo S g s H locs → Ext lo S0 S → Rf lo S a0 11 → Rf lo S a1 0 → Rf lo S a2 0 → Rf lo S sa0 0 → lv_has ls 6 [(0, .ref a0), (1, .ref a1), (2, .ref a2)] → b_X11_agree_61 N S g a0 a1 a2 sa0 = some (rv, S1, g1, k, w) → cells + k = cT → slots + w = wT → W p l e R s m args below meth c H locs cells slots (MQ below (Qcx D cA lo S0 (some (.int rv)) S1 g1 True) args s cT wT (fun q : Nat => lo ≤ q)) (F0 m 61 ls [.ref sa0]) := by
  intro H locs ls cells slots k w S g a0 a1 a2 sa0 M hE ra0 ra1 ra2 rsa0 hl q hc hs
  unfold b_X11_agree_61 at q
  refine lv_astore_n (lv' := [(3, .ref sa0), (0, .ref a0), (1, .ref a1), (2, .ref a2)]) hx hb dX11_agree_61 rfl hl (by decide) rfl (fun ls hl => ?_)
  refine lv_aload_n hx hb dX11_agree_62 rfl (lv_at hl 2 rfl) ?_
  refine x_getI hx hb hown hX M (k := 4) okX0 ra1 (by decide) rfl kw_265 dX11_agree_63 ?_
  refine lv_aload_n hx hb dX11_agree_66 rfl (lv_at hl 3 rfl) ?_
  refine x_getI hx hb hown hX M (k := 4) okX0 ra2 (by decide) rfl kw_265 dX11_agree_67 ?_
  refine lv_icmp_ge (tgt := 77) hx hb dX11_agree_70 (by decide) (fun c_1 => ?_) (fun c_1 => ?_)
  · replace q := if_t c_1 q
    refine lv_aload_n hx hb dX11_agree_77 rfl (lv_at hl 2 rfl) ?_
    exact w_X11_agree_78 hx hb hml hr hlk hown hX hRf hRl (N := N) hRc hRs  _ _ _ _ _ _ _ _ _ _ _ _ M hE ra0 rsa0 ra1 (lv_sub hl [1, 0] rfl) q hc hs
  · replace q := if_f c_1 q
    refine lv_aload_n hx hb dX11_agree_73 rfl (lv_at hl 3 rfl) ?_
    refine lv_goto (tgt := 78) hx hb dX11_agree_74 (by decide) ?_
    exact w_X11_agree_78 hx hb hml hr hlk hown hX hRf hRl (N := N) hRc hRs  _ _ _ _ _ _ _ _ _ _ _ _ M hE ra0 rsa0 ra2 (lv_sub hl [1, 0] rfl) q hc hs
set_option maxHeartbeats 4000000 in
set_option maxRecDepth 100000 in
theorem w_X11_agree_0 (hx : p.tables.exec = Jvm.exec) (hb : c.code = cX11_agree) (hml : c.maxLocals = 6) (hr : meth.sig.returnType = (some .boolean)) (hlk : meth.locks = false) (hown : s.vm.findClass RX11 = some m.cls) (hX : Kx D cA lo tS s) (hRf : 7 ≤ R.frames) (hRl : 420 ≤ R.locals) {N : Nat} {rv : Int32} {g1 : Hg} {S0 S1 : Hs} {cT wT : Nat} (hRc : cT ≤ R.cells) (hRs : wT ≤ R.slots) : ∀ (H : Heap) (locs : List Loc) (ls : Array Slot) (cells slots k w : Nat) (S : Hs) (g : Hg) (a0 : Nat) (a1 : Nat) (a2 : Nat), Mm D cA lo S g s H locs → Ext lo S0 S → Rf lo S a0 11 → Rf lo S a1 0 → Rf lo S a2 0 → lv_has ls 6 [(0, .ref a0), (1, .ref a1), (2, .ref a2)] → b_X11_agree_0 N S g a0 a1 a2 = some (rv, S1, g1, k, w) → cells + k = cT → slots + w = wT → W p l e R s m args below meth c H locs cells slots (MQ below (Qcx D cA lo S0 (some (.int rv)) S1 g1 True) args s cT wT (fun q : Nat => lo ≤ q)) (F0 m 0 ls []) := by
  intro H locs ls cells slots k w S g a0 a1 a2 M hE ra0 ra1 ra2 hl q hc hs
  unfold b_X11_agree_0 at q
  refine lv_aload_n hx hb dX11_agree_0 rfl (lv_at hl 1 rfl) ?_
  refine x_getI hx hb hown hX M (k := 4) okX0 ra1 (by decide) rfl kw_265 dX11_agree_1 ?_
  refine lv_aload_n hx hb dX11_agree_4 rfl (lv_at hl 2 rfl) ?_
  refine x_getI hx hb hown hX M (k := 4) okX0 ra2 (by decide) rfl kw_265 dX11_agree_5 ?_
  refine lv_icmp_ne (tgt := 45) hx hb dX11_agree_8 (by decide) (fun c_1 => ?_) (fun c_1 => ?_)
  · replace q := if_f c_1 q
    refine lv_aload_n hx hb dX11_agree_45 rfl (lv_at hl 1 rfl) ?_
    refine x_getI hx hb hown hX M (k := 4) okX0 ra1 (by decide) rfl kw_265 dX11_agree_46 ?_
    refine lv_aload_n hx hb dX11_agree_49 rfl (lv_at hl 2 rfl) ?_
    refine x_getI hx hb hown hX M (k := 4) okX0 ra2 (by decide) rfl kw_265 dX11_agree_50 ?_
    refine lv_icmp_ge (tgt := 60) hx hb dX11_agree_53 (by decide) (fun c_2 => ?_) (fun c_2 => ?_)
    · replace q := if_t c_2 q
      refine lv_aload_n hx hb dX11_agree_60 rfl (lv_at hl 2 rfl) ?_
      exact w_X11_agree_61 hx hb hml hr hlk hown hX hRf hRl (N := N) hRc hRs  _ _ _ _ _ _ _ _ _ _ _ _ _ M hE ra0 ra1 ra2 ra2 (lv_sub hl [0, 1, 2] rfl) q hc hs
    · replace q := if_f c_2 q
      refine lv_aload_n hx hb dX11_agree_56 rfl (lv_at hl 1 rfl) ?_
      refine lv_goto (tgt := 61) hx hb dX11_agree_57 (by decide) ?_
      exact w_X11_agree_61 hx hb hml hr hlk hown hX hRf hRl (N := N) hRc hRs  _ _ _ _ _ _ _ _ _ _ _ _ _ M hE ra0 ra1 ra2 ra1 (lv_sub hl [0, 1, 2] rfl) q hc hs
  · replace q := if_t c_1 q
    refine lv_aload_n hx hb dX11_agree_11 rfl (lv_at hl 1 rfl) ?_
    replace q := nn_s q
    obtain ⟨a_3, e_a_3, q⟩ := q
    refine x_getR hx hb hown hX M e_a_3 okX0 ra1 (by decide) rfl kw_251 dX11_agree_12 (fun ra_3 => ?_)
    refine lv_aload_n hx hb dX11_agree_15 rfl (lv_at hl 2 rfl) ?_
    replace q := nn_s q
    obtain ⟨a_4, e_a_4, q⟩ := q
    refine x_getR hx hb hown hX M e_a_4 okX0 ra2 (by decide) rfl kw_251 dX11_agree_16 (fun ra_4 => ?_)
    replace q := c2_s q
    obtain ⟨x_6, g_5, qc, q⟩ := q
    refine x_callS hx hb hml hl.1 hown hX M (S1 := S) (As := [.ref a_3, .ref a_4]) (rest := []) kw_860 mok_X11_isSameSum (c_X11_isSameSum ra_3 ra_4 qc (Nat.le_refl 1)) kw_888 rfl rfl dX11_agree_19 (Nat.le_of_ble_eq_true rfl) ⟨Nat.le_trans (by decide) hRf, Nat.le_trans (by decide) hRl⟩ (hz_step hc hRc) (hz_step hs hRs) (fun H locs M hEF => ?_)
    refine lv_if_eq (tgt := 43) hx hb dX11_agree_22 (by decide) (fun c_7 => ?_) (fun c_7 => ?_)
    · replace q := if_t c_7 q
      refine lv_iconst (v := 0) hx hb dX11_agree_43 (by decide) ?_
      cases q
      have hc : cells = cT := hc
      have hs : slots = wT := hs
      subst hc
      subst hs
      exact x_zret hx hb hr hlk rfl M hE dX11_agree_44
    · replace q := if_f c_7 q
      refine lv_aload_n hx hb dX11_agree_25 rfl (lv_at hl 1 rfl) ?_
      replace q := nn_s q
      obtain ⟨a_8, e_a_8, q⟩ := q
      refine x_getR hx hb hown hX M e_a_8 okX0 ra1 (by decide) rfl kw_255 dX11_agree_26 (fun ra_8 => ?_)
      refine lv_aload_n hx hb dX11_agree_29 rfl (lv_at hl 2 rfl) ?_
      replace q := nn_s q
      obtain ⟨a_9, e_a_9, q⟩ := q
      refine x_getR hx hb hown hX M e_a_9 okX0 ra2 (by decide) rfl kw_255 dX11_agree_30 (fun ra_9 => ?_)
      replace q := c2_s q
      obtain ⟨x_11, g_10, qc, q⟩ := q
      refine x_callS hx hb hml hl.1 hown hX M (S1 := S) (As := [.ref a_8, .ref a_9]) (rest := []) kw_860 mok_X11_isSameSum (c_X11_isSameSum ra_8 ra_9 qc (Nat.le_refl 1)) kw_888 rfl rfl dX11_agree_33 (Nat.le_of_ble_eq_true rfl) ⟨Nat.le_trans (by decide) hRf, Nat.le_trans (by decide) hRl⟩ (hz_step hc hRc) (hz_step hs hRs) (fun H locs M hEF => ?_)
      refine lv_if_eq (tgt := 43) hx hb dX11_agree_36 (by decide) (fun c_12 => ?_) (fun c_12 => ?_)
      · replace q := if_t c_12 q
        refine lv_iconst (v := 0) hx hb dX11_agree_43 (by decide) ?_
        cases q
        have hc : cells = cT := hc
        have hs : slots = wT := hs
        subst hc
        subst hs
        exact x_zret hx hb hr hlk rfl M hE dX11_agree_44
      · replace q := if_f c_12 q
        refine lv_iconst (v := 1) hx hb dX11_agree_39 (by decide) ?_
        refine lv_goto (tgt := 44) hx hb dX11_agree_40 (by decide) ?_
        cases q
        have hc : cells = cT := hc
        have hs : slots = wT := hs
        subst hc
        subst hs
        exact x_zret hx hb hr hlk rfl M hE dX11_agree_44
set_option maxRecDepth 100000 in
theorem c_X11_agree {l : Launch} {D : va_G} {cA : Nat → ClassId} {lo tS N : Nat} {S S1 : Hs} {g g1 : Hg} {k w : Nat} {rv : Int32} {a0 : Nat} {a1 : Nat} {a2 : Nat} (ra0 : Rf lo S a0 11) (ra1 : Rf lo S a1 0) (ra2 : Rf lo S a2 0) (q : f_X11_agree N S g a0 a1 a2 = some (rv, S1, g1, k, w)) {d : Nat} (hd : 7 ≤ d) : Ctr l yX11_agree cX11_agree 6 (some .boolean) D cA lo tS [.ref a0, .ref a1, .ref a2] S g d (some (.int rv)) S1 g1 True k w := by
  refine x_met (by decide) (Nat.le_of_ble_eq_true rfl) ?_
  intro p e s m below meth c ls hx hb hml hr hlk hown hnm hX M hl
  exact w_X11_agree_0 hx hb hml hr hlk hown hX hd (Nat.mul_le_mul_left 60 hd) (N := N) (Nat.le_refl k) (Nat.le_refl w) _ _ _ _ _ _ _ _ _ _ _ _ M Ext.rf ra0 ra1 ra2 (lv_sub hl [0, 1, 2] rfl) q (Nat.zero_add k) (Nat.zero_add w)
end W9
