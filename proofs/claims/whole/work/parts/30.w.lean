section W10
variable {p : Program} {l : Launch} {e : Env} {R : Room} {s : State} {m : MethodId} {args : Array Value} {below : List Frame} {meth : Method} {c : Code} {D : va_G} {cA : Nat → ClassId} {lo tS : Nat}
def b_X11_take_81 (N : Nat) (S : Hs) (g : Hg) (a0 : Nat) (x1 : Int32) : Option (Int32 × Hs × Hg × Nat × Nat) :=
nn (rdR g a0 3) (fun a_1 =>
nn (rdR g a_1 3) (fun a_2 =>
ck (inb x1 (hpL S a_2)) (
nn (rdR g a_2 x1.toNatClampNeg) (fun a_3 =>
nn (rdR g a0 4) (fun a_4 =>
c2 (f_X0_copy N S g a_3 a_4) (fun u_6 g_5 =>
some ((1 : Int32), S, g_5, 0, 0)))))))
def b_X11_take_0 (N : Nat) (S : Hs) (g : Hg) (a0 : Nat) (x1 : Int32) (x2 : Int32) (x3 : Int32) : Option (Int32 × Hs × Hg × Nat × Nat) :=
nn (rdR g a0 3) (fun a_1 =>
c2 (f_X1_logAt N S g a_1 x2) (fun o_3 g_2 =>
if x1 < 0 then (
some ((-1 : Int32), S, g_2, 0, 0)) else (
if (12 : Int32) ≤ x1 then (
some ((-1 : Int32), S, g_2, 0, 0)) else (
on o_3 (
some ((-1 : Int32), S, g_2, 0, 0)) (fun a_6 =>
c2 (f_X3_reaches N S g_2 a_6 x3) (fun x_8 g_7 =>
if x_8 = 0 then (
some ((-1 : Int32), S, g_7, 0, 0)) else (
nn (rdR g_7 a0 2) (fun a_10 =>
nn (rdR g_7 a0 4) (fun a_11 =>
c2 (f_X8_makeHead N S g_7 a_10 a_6 x2 x3 a_11) (fun u_13 g_12 =>
nn (rdR g_12 a0 3) (fun a_14 =>
c2 (f_X1_headOf N S g_12 a_14 x1) (fun o_16 g_15 =>
on o_16 (
b_X11_take_81 N S g_15 a0 x1) (fun a_17 =>
nn (rdR g_15 a0 4) (fun a_18 =>
if (rdI g_15 a_17 6) = (rdI g_15 a_18 6) then (
nn (rdR g_15 a0 4) (fun a_20 =>
c5 (f_X11_agree N S g_15 a0 a_17 a_20) (fun x_22 S_23 g_21 =>
if x_22 = 0 then (
nn (rdR g_21 a0 3) (fun a_34 =>
nn (rdR g_21 a0 4) (fun a_35 =>
c5 (f_X1_tellBlame N S_23 g_21 a_34 (some a_17) (some a_35)) (fun u_37 S_38 g_36 =>
nn (rdR g_36 a0 3) (fun a_43 =>
nn (rdR g_36 a_43 4) (fun a_44 =>
ck (inb x1 (hpL S_38 a_44)) (
ck (inb x1 (hpL S_38 a_44)) (
nm (wrI g_36 a_44 x1.toNatClampNeg ((rdI g_36 a_44 x1.toNatClampNeg) + (1 : Int32))) (fun g_45 =>
some ((0 : Int32), S_38, g_45, 0, 0)))))))))) else (
nn (rdR g_21 a0 4) (fun a_29 =>
if (rdI g_21 a_29 4) ≤ (rdI g_21 a_17 4) then (
some ((1 : Int32), S_23, g_21, 0, 0)) else (
nn (rdR g_21 a0 4) (fun a_31 =>
c2 (f_X0_copy N S_23 g_21 a_17 a_31) (fun u_33 g_32 =>
some ((1 : Int32), S_23, g_32, 0, 0))))))))) else (
b_X11_take_81 N S g_15 a0 x1)))))))))))))))
def f_X11_take (N : Nat) (S : Hs) (g : Hg) (a0 : Nat) (x1 : Int32) (x2 : Int32) (x3 : Int32) : Option (Int32 × Hs × Hg × Nat × Nat) := b_X11_take_0 N S g a0 x1 x2 x3
set_option maxHeartbeats 4000000 in
set_option maxRecDepth 100000 in
theorem w_X11_take_81 (hx : p.tables.exec = Jvm.exec) (hb : c.code = cX11_take) (hml : c.maxLocals = 6) (hr : meth.sig.returnType = (some .int)) (hlk : meth.locks = false) (hown : s.vm.findClass RX11 = some m.cls) (hX : Kx D cA lo tS s) (hRf : 308 ≤ R.frames) (hRl : 18480 ≤ R.locals) {N : Nat} {rv : Int32} {g1 : Hg} {S0 S1 : Hs} {cT wT : Nat} (hRc : cT ≤ R.cells) (hRs : wT ≤ R.slots) : ∀ (H : Heap) (locs : List Loc) (ls : Array Slot) (cells slots k w : Nat) (S : Hs) (g : Hg) (a0 : Nat) (x1 : Int32), Mm D cA lo S g s H locs → Ext lo S0 S → Rf lo S a0 11 → lv_has ls 6 [(0, .ref a0), (1, .int x1)] → b_X11_take_81 N S g a0 x1 = some (rv, S1, g1, k, w) → cells + k = cT → slots + w = wT → W p l e R s m args below meth c H locs cells slots (MQ below (Qcx D cA lo S0 (some (.int rv)) S1 g1 True) args s cT wT (fun q : Nat => lo ≤ q)) (F0 m 81 ls []) := by
  intro H locs ls cells slots k w S g a0 x1 M hE ra0 hl q hc hs
  unfold b_X11_take_81 at q
  refine lv_aload_n hx hb dX11_take_81 rfl (lv_at hl 0 rfl) ?_
  replace q := nn_s q
  obtain ⟨a_1, e_a_1, q⟩ := q
  refine x_getR hx hb hown hX M e_a_1 okX11 ra0 (by decide) rfl kw_359 dX11_take_82 (fun ra_1 => ?_)
  replace q := nn_s q
  obtain ⟨a_2, e_a_2, q⟩ := q
  refine x_getR hx hb hown hX M e_a_2 okX1 ra_1 (by decide) rfl kw_324 dX11_take_85 (fun ra_2 => ?_)
  refine lv_iload_n hx hb dX11_take_88 rfl (lv_at hl 1 rfl) ?_
  replace q := ck_s q
  obtain ⟨hin, q⟩ := q
  replace q := nn_s q
  obtain ⟨a_3, e_a_3, q⟩ := q
  refine x_aaldn25 hx hb hX M ra_2 e_a_3 (inb_in hin) dX11_take_89 (fun ra_3 => ?_)
  refine lv_aload_n hx hb dX11_take_90 rfl (lv_at hl 0 rfl) ?_
  replace q := nn_s q
  obtain ⟨a_4, e_a_4, q⟩ := q
  refine x_getR hx hb hown hX M e_a_4 okX11 ra0 (by decide) rfl kw_360 dX11_take_91 (fun ra_4 => ?_)
  replace q := c2_s q
  obtain ⟨u_6, g_5, qc, q⟩ := q
  refine x_callV hx hb hml hl.1 hown hX M (S1 := S) (As := [.ref a_4]) (rest := []) okX0 ra_3 rfl kw_880 kw_881 mok_X0_copy (c_X0_copy ra_3 ra_4 qc (Nat.le_refl 2)) kw_879 rfl rfl dX11_take_94 (Nat.le_of_ble_eq_true rfl) ⟨Nat.le_trans (by decide) hRf, Nat.le_trans (by decide) hRl⟩ (hz_step hc hRc) (hz_step hs hRs) (fun H locs M hEF => ?_)
  refine lv_iconst (v := 1) hx hb dX11_take_97 (by decide) ?_
  cases q
  have hc : cells = cT := hc
  have hs : slots = wT := hs
  subst hc
  subst hs
  exact x_iret hx hb hr hlk M hE dX11_take_98
set_option maxHeartbeats 4000000 in
set_option maxRecDepth 100000 in
theorem w_X11_take_0 (hx : p.tables.exec = Jvm.exec) (hb : c.code = cX11_take) (hml : c.maxLocals = 6) (hr : meth.sig.returnType = (some .int)) (hlk : meth.locks = false) (hown : s.vm.findClass RX11 = some m.cls) (hX : Kx D cA lo tS s) (hRf : 308 ≤ R.frames) (hRl : 18480 ≤ R.locals) {N : Nat} {rv : Int32} {g1 : Hg} {S0 S1 : Hs} {cT wT : Nat} (hRc : cT ≤ R.cells) (hRs : wT ≤ R.slots) : ∀ (H : Heap) (locs : List Loc) (ls : Array Slot) (cells slots k w : Nat) (S : Hs) (g : Hg) (a0 : Nat) (x1 : Int32) (x2 : Int32) (x3 : Int32), Mm D cA lo S g s H locs → Ext lo S0 S → Rf lo S a0 11 → lv_has ls 6 [(0, .ref a0), (1, .int x1), (2, .int x2), (3, .int x3)] → b_X11_take_0 N S g a0 x1 x2 x3 = some (rv, S1, g1, k, w) → cells + k = cT → slots + w = wT → W p l e R s m args below meth c H locs cells slots (MQ below (Qcx D cA lo S0 (some (.int rv)) S1 g1 True) args s cT wT (fun q : Nat => lo ≤ q)) (F0 m 0 ls []) := by
  intro H locs ls cells slots k w S g a0 x1 x2 x3 M hE ra0 hl q hc hs
  unfold b_X11_take_0 at q
  refine lv_aload_n hx hb dX11_take_0 rfl (lv_at hl 0 rfl) ?_
  replace q := nn_s q
  obtain ⟨a_1, e_a_1, q⟩ := q
  refine x_getR hx hb hown hX M e_a_1 okX11 ra0 (by decide) rfl kw_359 dX11_take_1 (fun ra_1 => ?_)
  refine lv_iload_n hx hb dX11_take_4 rfl (lv_at hl 2 rfl) ?_
  replace q := c2_s q
  obtain ⟨o_3, g_2, qc, q⟩ := q
  refine x_callV hx hb hml hl.1 hown hX M (S1 := S) (As := [.int x2]) (rest := []) okX1 ra_1 rfl kw_495 kw_496 mok_X1_logAt (c_X1_logAt ra_1 qc (Nat.le_refl 1)) kw_494 rfl rfl dX11_take_5 (Nat.le_of_ble_eq_true rfl) ⟨Nat.le_trans (by decide) hRf, Nat.le_trans (by decide) hRl⟩ (hz_step hc hRc) (hz_step hs hRs) (fun H locs M hEF => ?_)
  have ro_3 := hEF.2
  refine x_astore (lv' := [(4, va_rf o_3), (0, .ref a0), (1, .int x1), (2, .int x2), (3, .int x3)]) hx hb dX11_take_8 hl (by decide) rfl (fun ls hl => ?_)
  refine lv_iload_n hx hb dX11_take_10 rfl (lv_at hl 2 rfl) ?_
  refine lv_if_lt (tgt := 34) hx hb dX11_take_11 (by decide) (fun c_4 => ?_) (fun c_4 => ?_)
  · replace q := if_t c_4 q
    refine lv_iconst (v := -1) hx hb dX11_take_34 (by decide) ?_
    cases q
    have hc : cells = cT := hc
    have hs : slots = wT := hs
    subst hc
    subst hs
    exact x_iret hx hb hr hlk M hE dX11_take_35
  · replace q := if_f c_4 q
    refine lv_iload_n hx hb dX11_take_14 rfl (lv_at hl 2 rfl) ?_
    refine lv_bipush (v := 12) hx hb dX11_take_15 (by decide) ?_
    refine lv_icmp_ge (tgt := 34) hx hb dX11_take_17 (by decide) (fun c_5 => ?_) (fun c_5 => ?_)
    · replace q := if_t c_5 q
      refine lv_iconst (v := -1) hx hb dX11_take_34 (by decide) ?_
      cases q
      have hc : cells = cT := hc
      have hs : slots = wT := hs
      subst hc
      subst hs
      exact x_iret hx hb hr hlk M hE dX11_take_35
    · replace q := if_f c_5 q
      refine x_aload hx hb dX11_take_20 (lv_at hl 0 rfl) ?_
      refine x_ifnull (tgt := 34) hx hb dX11_take_22 (by decide) (fun c_47 => ?_) (fun a_6 c_47 => ?_)
      · replace q := on_n c_47 q
        refine lv_iconst (v := -1) hx hb dX11_take_34 (by decide) ?_
        cases q
        have hc : cells = cT := hc
        have hs : slots = wT := hs
        subst hc
        subst hs
        exact x_iret hx hb hr hlk M hE dX11_take_35
      · subst c_47
        replace q := on_s rfl q
        have ra_6 := ro_3 a_6 rfl
        have hl : lv_has ls 6 [(4, .ref a_6), (0, .ref a0), (1, .int x1), (2, .int x2), (3, .int x3)] := hl
        refine lv_aload hx hb dX11_take_25 (lv_at hl 0 rfl) ?_
        refine lv_iload_n hx hb dX11_take_27 rfl (lv_at hl 4 rfl) ?_
        replace q := c2_s q
        obtain ⟨x_8, g_7, qc, q⟩ := q
        refine x_callV hx hb hml hl.1 hown hX M (S1 := S) (As := [.int x3]) (rest := []) okX3 ra_6 rfl kw_550 kw_551 mok_X3_reaches (c_X3_reaches ra_6 qc (Nat.le_refl 1)) kw_549 rfl rfl dX11_take_28 (Nat.le_of_ble_eq_true rfl) ⟨Nat.le_trans (by decide) hRf, Nat.le_trans (by decide) hRl⟩ (hz_step hc hRc) (hz_step hs hRs) (fun H locs M hEF => ?_)
        refine lv_if_ne (tgt := 36) hx hb dX11_take_31 (by decide) (fun c_9 => ?_) (fun c_9 => ?_)
        · replace q := if_f c_9 q
          refine lv_aload_n hx hb dX11_take_36 rfl (lv_at hl 1 rfl) ?_
          replace q := nn_s q
          obtain ⟨a_10, e_a_10, q⟩ := q
          refine x_getR hx hb hown hX M e_a_10 okX11 ra0 (by decide) rfl kw_358 dX11_take_37 (fun ra_10 => ?_)
          refine lv_aload hx hb dX11_take_40 (lv_at hl 0 rfl) ?_
          refine lv_iload_n hx hb dX11_take_42 rfl (lv_at hl 3 rfl) ?_
          refine lv_iload_n hx hb dX11_take_43 rfl (lv_at hl 4 rfl) ?_
          refine lv_aload_n hx hb dX11_take_44 rfl (lv_at hl 1 rfl) ?_
          replace q := nn_s q
          obtain ⟨a_11, e_a_11, q⟩ := q
          refine x_getR hx hb hown hX M e_a_11 okX11 ra0 (by decide) rfl kw_360 dX11_take_45 (fun ra_11 => ?_)
          replace q := c2_s q
          obtain ⟨u_13, g_12, qc, q⟩ := q
          refine x_callV hx hb hml hl.1 hown hX M (S1 := S) (As := [.ref a_6, .int x2, .int x3, .ref a_11]) (rest := []) okX8 ra_10 rfl kw_717 kw_718 mok_X8_makeHead (c_X8_makeHead ra_10 ra_6 ra_11 qc (Nat.le_refl 307)) kw_716 rfl rfl dX11_take_48 (Nat.le_of_ble_eq_true rfl) ⟨Nat.le_trans (by decide) hRf, Nat.le_trans (by decide) hRl⟩ (hz_step hc hRc) (hz_step hs hRs) (fun H locs M hEF => ?_)
          refine lv_aload_n hx hb dX11_take_51 rfl (lv_at hl 1 rfl) ?_
          replace q := nn_s q
          obtain ⟨a_14, e_a_14, q⟩ := q
          refine x_getR hx hb hown hX M e_a_14 okX11 ra0 (by decide) rfl kw_359 dX11_take_52 (fun ra_14 => ?_)
          refine lv_iload_n hx hb dX11_take_55 rfl (lv_at hl 2 rfl) ?_
          replace q := c2_s q
          obtain ⟨o_16, g_15, qc, q⟩ := q
          refine x_callV hx hb hml hl.1 hown hX M (S1 := S) (As := [.int x1]) (rest := []) okX1 ra_14 rfl kw_841 kw_842 mok_X1_headOf (c_X1_headOf ra_14 qc (Nat.le_refl 1)) kw_840 rfl rfl dX11_take_56 (Nat.le_of_ble_eq_true rfl) ⟨Nat.le_trans (by decide) hRf, Nat.le_trans (by decide) hRl⟩ (hz_step hc hRc) (hz_step hs hRs) (fun H locs M hEF => ?_)
          have ro_16 := hEF.2
          refine x_astore (lv' := [(5, va_rf o_16), (4, .ref a_6), (0, .ref a0), (1, .int x1), (2, .int x2), (3, .int x3)]) hx hb dX11_take_59 hl (by decide) rfl (fun ls hl => ?_)
          refine x_aload hx hb dX11_take_61 (lv_at hl 0 rfl) ?_
          refine x_ifnull (tgt := 81) hx hb dX11_take_63 (by decide) (fun c_46 => ?_) (fun a_17 c_46 => ?_)
          · replace q := on_n c_46 q
            exact w_X11_take_81 hx hb hml hr hlk hown hX hRf hRl (N := N) hRc hRs  _ _ _ _ _ _ _ _ _ _ _ M hE ra0 (lv_sub hl [2, 3] rfl) q hc hs
          · subst c_46
            replace q := on_s rfl q
            have ra_17 := ro_16 a_17 rfl
            have hl : lv_has ls 6 [(5, .ref a_17), (4, .ref a_6), (0, .ref a0), (1, .int x1), (2, .int x2), (3, .int x3)] := hl
            refine lv_aload hx hb dX11_take_66 (lv_at hl 0 rfl) ?_
            refine x_getI hx hb hown hX M (k := 6) okX0 ra_17 (by decide) rfl kw_272 dX11_take_68 ?_
            refine lv_aload_n hx hb dX11_take_71 rfl (lv_at hl 2 rfl) ?_
            replace q := nn_s q
            obtain ⟨a_18, e_a_18, q⟩ := q
            refine x_getR hx hb hown hX M e_a_18 okX11 ra0 (by decide) rfl kw_360 dX11_take_72 (fun ra_18 => ?_)
            refine x_getI hx hb hown hX M (k := 6) okX0 ra_18 (by decide) rfl kw_272 dX11_take_75 ?_
            refine lv_icmp_eq (tgt := 99) hx hb dX11_take_78 (by decide) (fun c_19 => ?_) (fun c_19 => ?_)
            · replace q := if_t c_19 q
              refine lv_aload_n hx hb dX11_take_99 rfl (lv_at hl 2 rfl) ?_
              refine lv_aload hx hb dX11_take_100 (lv_at hl 0 rfl) ?_
              refine lv_aload_n hx hb dX11_take_102 rfl (lv_at hl 2 rfl) ?_
              replace q := nn_s q
              obtain ⟨a_20, e_a_20, q⟩ := q
              refine x_getR hx hb hown hX M e_a_20 okX11 ra0 (by decide) rfl kw_360 dX11_take_103 (fun ra_20 => ?_)
              replace q := c5_s q
              obtain ⟨x_22, S_23, g_21, k_24, w_25, k_26, w_27, qc, ek, ew, q⟩ := q
              refine x_callV hx hb hml hl.1 hown hX M (As := [.ref a_17, .ref a_20]) (rest := []) okX11 ra0 rfl kw_886 kw_12 mok_X11_agree (c_X11_agree ra0 ra_17 ra_20 qc (Nat.le_refl 7)) kw_884 rfl rfl dX11_take_106 (Nat.le_of_ble_eq_true rfl) ⟨Nat.le_trans (by decide) hRf, Nat.le_trans (by decide) hRl⟩ (hb_step hc ek hRc) (hb_step hs ew hRs) (fun H locs M hEF => ?_)
              replace ra0 := ra0.ext hEF.1
              replace ra_6 := ra_6.ext hEF.1
              replace ra_17 := ra_17.ext hEF.1
              replace hE := hE.tr hEF.1
              replace hc := hc_step hc ek
              replace hs := hc_step hs ew
              clear ek ew
              refine lv_if_ne (tgt := 140) hx hb dX11_take_109 (by decide) (fun c_28 => ?_) (fun c_28 => ?_)
              · replace q := if_f c_28 q
                refine lv_aload_n hx hb dX11_take_140 rfl (lv_at hl 2 rfl) ?_
                replace q := nn_s q
                obtain ⟨a_29, e_a_29, q⟩ := q
                refine x_getR hx hb hown hX M e_a_29 okX11 ra0 (by decide) rfl kw_360 dX11_take_141 (fun ra_29 => ?_)
                refine x_getI hx hb hown hX M (k := 4) okX0 ra_29 (by decide) rfl kw_265 dX11_take_144 ?_
                refine lv_aload hx hb dX11_take_147 (lv_at hl 0 rfl) ?_
                refine x_getI hx hb hown hX M (k := 4) okX0 ra_17 (by decide) rfl kw_265 dX11_take_149 ?_
                refine lv_icmp_le (tgt := 164) hx hb dX11_take_152 (by decide) (fun c_30 => ?_) (fun c_30 => ?_)
                · replace q := if_t c_30 q
                  refine lv_iconst (v := 1) hx hb dX11_take_164 (by decide) ?_
                  cases q
                  have hc : cells + k_24 = cT := hc
                  have hs : slots + w_25 = wT := hs
                  subst hc
                  subst hs
                  exact x_iret hx hb hr hlk M hE dX11_take_165
                · replace q := if_f c_30 q
                  refine lv_aload hx hb dX11_take_155 (lv_at hl 0 rfl) ?_
                  refine lv_aload_n hx hb dX11_take_157 rfl (lv_at hl 2 rfl) ?_
                  replace q := nn_s q
                  obtain ⟨a_31, e_a_31, q⟩ := q
                  refine x_getR hx hb hown hX M e_a_31 okX11 ra0 (by decide) rfl kw_360 dX11_take_158 (fun ra_31 => ?_)
                  replace q := c2_s q
                  obtain ⟨u_33, g_32, qc, q⟩ := q
                  refine x_callV hx hb hml hl.1 hown hX M (S1 := S_23) (As := [.ref a_31]) (rest := []) okX0 ra_17 rfl kw_880 kw_881 mok_X0_copy (c_X0_copy ra_17 ra_31 qc (Nat.le_refl 2)) kw_879 rfl rfl dX11_take_161 (Nat.le_of_ble_eq_true rfl) ⟨Nat.le_trans (by decide) hRf, Nat.le_trans (by decide) hRl⟩ (hz_step hc hRc) (hz_step hs hRs) (fun H locs M hEF => ?_)
                  refine lv_iconst (v := 1) hx hb dX11_take_164 (by decide) ?_
                  cases q
                  have hc : cells + k_24 = cT := hc
                  have hs : slots + w_25 = wT := hs
                  subst hc
                  subst hs
                  exact x_iret hx hb hr hlk M hE dX11_take_165
              · replace q := if_t c_28 q
                refine lv_aload_n hx hb dX11_take_112 rfl (lv_at hl 2 rfl) ?_
                replace q := nn_s q
                obtain ⟨a_34, e_a_34, q⟩ := q
                refine x_getR hx hb hown hX M e_a_34 okX11 ra0 (by decide) rfl kw_359 dX11_take_113 (fun ra_34 => ?_)
                refine lv_aload hx hb dX11_take_116 (lv_at hl 0 rfl) ?_
                refine lv_aload_n hx hb dX11_take_118 rfl (lv_at hl 2 rfl) ?_
                replace q := nn_s q
                obtain ⟨a_35, e_a_35, q⟩ := q
                refine x_getR hx hb hown hX M e_a_35 okX11 ra0 (by decide) rfl kw_360 dX11_take_119 (fun ra_35 => ?_)
                replace q := c5_s q
                obtain ⟨u_37, S_38, g_36, k_39, w_40, k_41, w_42, qc, ek, ew, q⟩ := q
                refine x_callV hx hb hml hl.1 hown hX M (As := [va_rf (some a_17), va_rf (some a_35)]) (rest := []) okX1 ra_34 rfl kw_890 kw_891 mok_X1_tellBlame (c_X1_tellBlame ra_34 (ra_17.ro) (ra_35.ro) qc (Nat.le_refl 3)) kw_889 rfl rfl dX11_take_122 (Nat.le_of_ble_eq_true rfl) ⟨Nat.le_trans (by decide) hRf, Nat.le_trans (by decide) hRl⟩ (hb_step hc ek hRc) (hb_step hs ew hRs) (fun H locs M hEF => ?_)
                replace ra0 := ra0.ext hEF.1
                replace ra_6 := ra_6.ext hEF.1
                replace ra_17 := ra_17.ext hEF.1
                replace hE := hE.tr hEF.1
                replace hc := hc_step hc ek
                replace hs := hc_step hs ew
                clear ek ew
                refine lv_aload_n hx hb dX11_take_125 rfl (lv_at hl 2 rfl) ?_
                replace q := nn_s q
                obtain ⟨a_43, e_a_43, q⟩ := q
                refine x_getR hx hb hown hX M e_a_43 okX11 ra0 (by decide) rfl kw_359 dX11_take_126 (fun ra_43 => ?_)
                replace q := nn_s q
                obtain ⟨a_44, e_a_44, q⟩ := q
                refine x_getR hx hb hown hX M e_a_44 okX1 ra_43 (by decide) rfl kw_326 dX11_take_129 (fun ra_44 => ?_)
                refine lv_iload_n hx hb dX11_take_132 rfl (lv_at hl 3 rfl) ?_
                refine lv_dup2_11 hx hb dX11_take_133 rfl rfl ?_
                replace q := ck_s q
                obtain ⟨hin, q⟩ := q
                refine x_iald hx hb hX M ra_44 (inb_in hin) dX11_take_134 ?_
                refine lv_iconst (v := 1) hx hb dX11_take_135 (by decide) ?_
                refine lv_iadd hx hb dX11_take_136 ?_
                replace q := ck_s q
                obtain ⟨hin, q⟩ := q
                refine x_iast hx hb hX M ra_44 (inb_in hin) dX11_take_137 (fun H locs M => ?_)
                replace q := gen_g M q
                obtain ⟨g_45, -, M, q⟩ := q
                refine lv_iconst (v := 0) hx hb dX11_take_138 (by decide) ?_
                cases q
                have hc : cells + k_24 + k_39 = cT := hc
                have hs : slots + w_25 + w_40 = wT := hs
                subst hc
                subst hs
                exact x_iret hx hb hr hlk M hE dX11_take_139
            · replace q := if_f c_19 q
              exact w_X11_take_81 hx hb hml hr hlk hown hX hRf hRl (N := N) hRc hRs  _ _ _ _ _ _ _ _ _ _ _ M hE ra0 (lv_sub hl [2, 3] rfl) q hc hs
        · replace q := if_t c_9 q
          refine lv_iconst (v := -1) hx hb dX11_take_34 (by decide) ?_
          cases q
          have hc : cells = cT := hc
          have hs : slots = wT := hs
          subst hc
          subst hs
          exact x_iret hx hb hr hlk M hE dX11_take_35
set_option maxRecDepth 100000 in
theorem c_X11_take {l : Launch} {D : va_G} {cA : Nat → ClassId} {lo tS N : Nat} {S S1 : Hs} {g g1 : Hg} {k w : Nat} {rv : Int32} {a0 : Nat} {x1 : Int32} {x2 : Int32} {x3 : Int32} (ra0 : Rf lo S a0 11) (q : f_X11_take N S g a0 x1 x2 x3 = some (rv, S1, g1, k, w)) {d : Nat} (hd : 308 ≤ d) : Ctr l yX11_take cX11_take 6 (some .int) D cA lo tS [.ref a0, .int x1, .int x2, .int x3] S g d (some (.int rv)) S1 g1 True k w := by
  refine x_met (by decide) (Nat.le_of_ble_eq_true rfl) ?_
  intro p e s m below meth c ls hx hb hml hr hlk hown hnm hX M hl
  exact w_X11_take_0 hx hb hml hr hlk hown hX hd (Nat.mul_le_mul_left 60 hd) (N := N) (Nat.le_refl k) (Nat.le_refl w) _ _ _ _ _ _ _ _ _ _ _ _ _ M Ext.rf ra0 (lv_sub hl [0, 1, 2, 3] rfl) q (Nat.zero_add k) (Nat.zero_add w)
def b_X11_talk_0 (N : Nat) (S : Hs) (g : Hg) (a0 : Nat) (x1 : Int32) (x2 : Int32) : Option (Int32 × Hs × Hg × Nat × Nat) :=
nn (rdR g a0 3) (fun a_1 =>
c2 (f_X1_headOf N S g a_1 x1) (fun o_3 g_2 =>
nn (rdR g_2 a0 3) (fun a_4 =>
c2 (f_X1_headOf N S g_2 a_4 x2) (fun o_6 g_5 =>
if x1 = x2 then (
some ((-1 : Int32), S, g_5, 0, 0)) else (
on o_3 (
some ((-1 : Int32), S, g_5, 0, 0)) (fun a_8 =>
on o_6 (
some ((-1 : Int32), S, g_5, 0, 0)) (fun a_9 =>
if (rdI g_5 a_8 6) = (rdI g_5 a_9 6) then (
c5 (f_X11_agree N S g_5 a0 a_8 a_9) (fun x_12 S_13 g_11 =>
if x_12 = 0 then (
nn (rdR g_11 a0 3) (fun a_25 =>
c5 (f_X1_tellBlame N S_13 g_11 a_25 (some a_8) (some a_9)) (fun u_27 S_28 g_26 =>
nn (rdR g_26 a0 3) (fun a_33 =>
nn (rdR g_26 a_33 4) (fun a_34 =>
ck (inb x1 (hpL S_28 a_34)) (
ck (inb x1 (hpL S_28 a_34)) (
nm (wrI g_26 a_34 x1.toNatClampNeg ((rdI g_26 a_34 x1.toNatClampNeg) + (1 : Int32))) (fun g_35 =>
nn (rdR g_35 a0 3) (fun a_36 =>
nn (rdR g_35 a_36 4) (fun a_37 =>
ck (inb x2 (hpL S_28 a_37)) (
ck (inb x2 (hpL S_28 a_37)) (
nm (wrI g_35 a_37 x2.toNatClampNeg ((rdI g_35 a_37 x2.toNatClampNeg) + (1 : Int32))) (fun g_38 =>
some ((0 : Int32), S_28, g_38, 0, 0)))))))))))))) else (
if (rdI g_11 a_8 4) ≤ (rdI g_11 a_9 4) then (
if (rdI g_11 a_9 4) ≤ (rdI g_11 a_8 4) then (
some ((1 : Int32), S_13, g_11, 0, 0)) else (
c2 (f_X0_copy N S_13 g_11 a_8 a_9) (fun u_22 g_21 =>
some ((1 : Int32), S_13, g_21, 0, 0)))) else (
c2 (f_X0_copy N S_13 g_11 a_9 a_8) (fun u_24 g_23 =>
some ((1 : Int32), S_13, g_23, 0, 0)))))) else (
some ((-1 : Int32), S, g_5, 0, 0)))))))))
def f_X11_talk (N : Nat) (S : Hs) (g : Hg) (a0 : Nat) (x1 : Int32) (x2 : Int32) : Option (Int32 × Hs × Hg × Nat × Nat) := b_X11_talk_0 N S g a0 x1 x2
set_option maxHeartbeats 4000000 in
set_option maxRecDepth 100000 in
theorem w_X11_talk_0 (hx : p.tables.exec = Jvm.exec) (hb : c.code = cX11_talk) (hml : c.maxLocals = 5) (hr : meth.sig.returnType = (some .int)) (hlk : meth.locks = false) (hown : s.vm.findClass RX11 = some m.cls) (hX : Kx D cA lo tS s) (hRf : 8 ≤ R.frames) (hRl : 480 ≤ R.locals) {N : Nat} {rv : Int32} {g1 : Hg} {S0 S1 : Hs} {cT wT : Nat} (hRc : cT ≤ R.cells) (hRs : wT ≤ R.slots) : ∀ (H : Heap) (locs : List Loc) (ls : Array Slot) (cells slots k w : Nat) (S : Hs) (g : Hg) (a0 : Nat) (x1 : Int32) (x2 : Int32), Mm D cA lo S g s H locs → Ext lo S0 S → Rf lo S a0 11 → lv_has ls 5 [(0, .ref a0), (1, .int x1), (2, .int x2)] → b_X11_talk_0 N S g a0 x1 x2 = some (rv, S1, g1, k, w) → cells + k = cT → slots + w = wT → W p l e R s m args below meth c H locs cells slots (MQ below (Qcx D cA lo S0 (some (.int rv)) S1 g1 True) args s cT wT (fun q : Nat => lo ≤ q)) (F0 m 0 ls []) := by
  intro H locs ls cells slots k w S g a0 x1 x2 M hE ra0 hl q hc hs
  unfold b_X11_talk_0 at q
  refine lv_aload_n hx hb dX11_talk_0 rfl (lv_at hl 0 rfl) ?_
  replace q := nn_s q
  obtain ⟨a_1, e_a_1, q⟩ := q
  refine x_getR hx hb hown hX M e_a_1 okX11 ra0 (by decide) rfl kw_359 dX11_talk_1 (fun ra_1 => ?_)
  refine lv_iload_n hx hb dX11_talk_4 rfl (lv_at hl 1 rfl) ?_
  replace q := c2_s q
  obtain ⟨o_3, g_2, qc, q⟩ := q
  refine x_callV hx hb hml hl.1 hown hX M (S1 := S) (As := [.int x1]) (rest := []) okX1 ra_1 rfl kw_841 kw_842 mok_X1_headOf (c_X1_headOf ra_1 qc (Nat.le_refl 1)) kw_840 rfl rfl dX11_talk_5 (Nat.le_of_ble_eq_true rfl) ⟨Nat.le_trans (by decide) hRf, Nat.le_trans (by decide) hRl⟩ (hz_step hc hRc) (hz_step hs hRs) (fun H locs M hEF => ?_)
  have ro_3 := hEF.2
  refine x_astore_n (lv' := [(3, va_rf o_3), (0, .ref a0), (1, .int x1), (2, .int x2)]) hx hb dX11_talk_8 rfl hl (by decide) rfl (fun ls hl => ?_)
  refine lv_aload_n hx hb dX11_talk_9 rfl (lv_at hl 1 rfl) ?_
  replace q := nn_s q
  obtain ⟨a_4, e_a_4, q⟩ := q
  refine x_getR hx hb hown hX M e_a_4 okX11 ra0 (by decide) rfl kw_359 dX11_talk_10 (fun ra_4 => ?_)
  refine lv_iload_n hx hb dX11_talk_13 rfl (lv_at hl 3 rfl) ?_
  replace q := c2_s q
  obtain ⟨o_6, g_5, qc, q⟩ := q
  refine x_callV hx hb hml hl.1 hown hX M (S1 := S) (As := [.int x2]) (rest := []) okX1 ra_4 rfl kw_841 kw_842 mok_X1_headOf (c_X1_headOf ra_4 qc (Nat.le_refl 1)) kw_840 rfl rfl dX11_talk_14 (Nat.le_of_ble_eq_true rfl) ⟨Nat.le_trans (by decide) hRf, Nat.le_trans (by decide) hRl⟩ (hz_step hc hRc) (hz_step hs hRs) (fun H locs M hEF => ?_)
  have ro_6 := hEF.2
  refine x_astore (lv' := [(4, va_rf o_6), (3, va_rf o_3), (0, .ref a0), (1, .int x1), (2, .int x2)]) hx hb dX11_talk_17 hl (by decide) (by cases o_3 <;> rfl) (fun ls hl => ?_)
  refine lv_iload_n hx hb dX11_talk_19 rfl (lv_at hl 3 rfl) ?_
  refine lv_iload_n hx hb dX11_talk_20 rfl (lv_at hl 4 rfl) ?_
  refine lv_icmp_eq (tgt := 45) hx hb dX11_talk_21 (by decide) (fun c_7 => ?_) (fun c_7 => ?_)
  · replace q := if_t c_7 q
    refine lv_iconst (v := -1) hx hb dX11_talk_45 (by decide) ?_
    cases q
    have hc : cells = cT := hc
    have hs : slots = wT := hs
    subst hc
    subst hs
    exact x_iret hx hb hr hlk M hE dX11_talk_46
  · replace q := if_f c_7 q
    refine x_aload_n hx hb dX11_talk_24 rfl (lv_at hl 1 rfl) ?_
    refine x_ifnull (tgt := 45) hx hb dX11_talk_25 (by decide) (fun c_40 => ?_) (fun a_8 c_40 => ?_)
    · replace q := on_n c_40 q
      refine lv_iconst (v := -1) hx hb dX11_talk_45 (by decide) ?_
      cases q
      have hc : cells = cT := hc
      have hs : slots = wT := hs
      subst hc
      subst hs
      exact x_iret hx hb hr hlk M hE dX11_talk_46
    · subst c_40
      replace q := on_s rfl q
      have ra_8 := ro_3 a_8 rfl
      have hl : lv_has ls 5 [(4, va_rf o_6), (3, .ref a_8), (0, .ref a0), (1, .int x1), (2, .int x2)] := hl
      refine x_aload hx hb dX11_talk_28 (lv_at hl 0 rfl) ?_
      refine x_ifnull (tgt := 45) hx hb dX11_talk_30 (by decide) (fun c_39 => ?_) (fun a_9 c_39 => ?_)
      · replace q := on_n c_39 q
        refine lv_iconst (v := -1) hx hb dX11_talk_45 (by decide) ?_
        cases q
        have hc : cells = cT := hc
        have hs : slots = wT := hs
        subst hc
        subst hs
        exact x_iret hx hb hr hlk M hE dX11_talk_46
      · subst c_39
        replace q := on_s rfl q
        have ra_9 := ro_6 a_9 rfl
        have hl : lv_has ls 5 [(4, .ref a_9), (3, .ref a_8), (0, .ref a0), (1, .int x1), (2, .int x2)] := hl
        refine lv_aload_n hx hb dX11_talk_33 rfl (lv_at hl 1 rfl) ?_
        refine x_getI hx hb hown hX M (k := 6) okX0 ra_8 (by decide) rfl kw_272 dX11_talk_34 ?_
        refine lv_aload hx hb dX11_talk_37 (lv_at hl 0 rfl) ?_
        refine x_getI hx hb hown hX M (k := 6) okX0 ra_9 (by decide) rfl kw_272 dX11_talk_39 ?_
        refine lv_icmp_eq (tgt := 47) hx hb dX11_talk_42 (by decide) (fun c_10 => ?_) (fun c_10 => ?_)
        · replace q := if_t c_10 q
          refine lv_aload_n hx hb dX11_talk_47 rfl (lv_at hl 2 rfl) ?_
          refine lv_aload_n hx hb dX11_talk_48 rfl (lv_at hl 1 rfl) ?_
          refine lv_aload hx hb dX11_talk_49 (lv_at hl 0 rfl) ?_
          replace q := c5_s q
          obtain ⟨x_12, S_13, g_11, k_14, w_15, k_16, w_17, qc, ek, ew, q⟩ := q
          refine x_callV hx hb hml hl.1 hown hX M (As := [.ref a_8, .ref a_9]) (rest := []) okX11 ra0 rfl kw_886 kw_12 mok_X11_agree (c_X11_agree ra0 ra_8 ra_9 qc (Nat.le_refl 7)) kw_884 rfl rfl dX11_talk_51 (Nat.le_of_ble_eq_true rfl) ⟨Nat.le_trans (by decide) hRf, Nat.le_trans (by decide) hRl⟩ (hb_step hc ek hRc) (hb_step hs ew hRs) (fun H locs M hEF => ?_)
          replace ra0 := ra0.ext hEF.1
          replace ra_8 := ra_8.ext hEF.1
          replace ra_9 := ra_9.ext hEF.1
          replace hE := hE.tr hEF.1
          replace hc := hc_step hc ek
          replace hs := hc_step hs ew
          clear ek ew
          refine lv_if_ne (tgt := 95) hx hb dX11_talk_54 (by decide) (fun c_18 => ?_) (fun c_18 => ?_)
          · replace q := if_f c_18 q
            refine lv_aload_n hx hb dX11_talk_95 rfl (lv_at hl 1 rfl) ?_
            refine x_getI hx hb hown hX M (k := 4) okX0 ra_8 (by decide) rfl kw_265 dX11_talk_96 ?_
            refine lv_aload hx hb dX11_talk_99 (lv_at hl 0 rfl) ?_
            refine x_getI hx hb hown hX M (k := 4) okX0 ra_9 (by decide) rfl kw_265 dX11_talk_101 ?_
            refine lv_icmp_le (tgt := 116) hx hb dX11_talk_104 (by decide) (fun c_19 => ?_) (fun c_19 => ?_)
            · replace q := if_t c_19 q
              refine lv_aload hx hb dX11_talk_116 (lv_at hl 0 rfl) ?_
              refine x_getI hx hb hown hX M (k := 4) okX0 ra_9 (by decide) rfl kw_265 dX11_talk_118 ?_
              refine lv_aload_n hx hb dX11_talk_121 rfl (lv_at hl 1 rfl) ?_
              refine x_getI hx hb hown hX M (k := 4) okX0 ra_8 (by decide) rfl kw_265 dX11_talk_122 ?_
              refine lv_icmp_le (tgt := 134) hx hb dX11_talk_125 (by decide) (fun c_20 => ?_) (fun c_20 => ?_)
              · replace q := if_t c_20 q
                refine lv_iconst (v := 1) hx hb dX11_talk_134 (by decide) ?_
                cases q
                have hc : cells + k_14 = cT := hc
                have hs : slots + w_15 = wT := hs
                subst hc
                subst hs
                exact x_iret hx hb hr hlk M hE dX11_talk_135
              · replace q := if_f c_20 q
                refine lv_aload_n hx hb dX11_talk_128 rfl (lv_at hl 1 rfl) ?_
                refine lv_aload hx hb dX11_talk_129 (lv_at hl 0 rfl) ?_
                replace q := c2_s q
                obtain ⟨u_22, g_21, qc, q⟩ := q
                refine x_callV hx hb hml hl.1 hown hX M (S1 := S_13) (As := [.ref a_9]) (rest := []) okX0 ra_8 rfl kw_880 kw_881 mok_X0_copy (c_X0_copy ra_8 ra_9 qc (Nat.le_refl 2)) kw_879 rfl rfl dX11_talk_131 (Nat.le_of_ble_eq_true rfl) ⟨Nat.le_trans (by decide) hRf, Nat.le_trans (by decide) hRl⟩ (hz_step hc hRc) (hz_step hs hRs) (fun H locs M hEF => ?_)
                refine lv_iconst (v := 1) hx hb dX11_talk_134 (by decide) ?_
                cases q
                have hc : cells + k_14 = cT := hc
                have hs : slots + w_15 = wT := hs
                subst hc
                subst hs
                exact x_iret hx hb hr hlk M hE dX11_talk_135
            · replace q := if_f c_19 q
              refine lv_aload hx hb dX11_talk_107 (lv_at hl 0 rfl) ?_
              refine lv_aload_n hx hb dX11_talk_109 rfl (lv_at hl 1 rfl) ?_
              replace q := c2_s q
              obtain ⟨u_24, g_23, qc, q⟩ := q
              refine x_callV hx hb hml hl.1 hown hX M (S1 := S_13) (As := [.ref a_8]) (rest := []) okX0 ra_9 rfl kw_880 kw_881 mok_X0_copy (c_X0_copy ra_9 ra_8 qc (Nat.le_refl 2)) kw_879 rfl rfl dX11_talk_110 (Nat.le_of_ble_eq_true rfl) ⟨Nat.le_trans (by decide) hRf, Nat.le_trans (by decide) hRl⟩ (hz_step hc hRc) (hz_step hs hRs) (fun H locs M hEF => ?_)
              refine lv_goto (tgt := 134) hx hb dX11_talk_113 (by decide) ?_
              refine lv_iconst (v := 1) hx hb dX11_talk_134 (by decide) ?_
              cases q
              have hc : cells + k_14 = cT := hc
              have hs : slots + w_15 = wT := hs
              subst hc
              subst hs
              exact x_iret hx hb hr hlk M hE dX11_talk_135
          · replace q := if_t c_18 q
            refine lv_aload_n hx hb dX11_talk_57 rfl (lv_at hl 2 rfl) ?_
            replace q := nn_s q
            obtain ⟨a_25, e_a_25, q⟩ := q
            refine x_getR hx hb hown hX M e_a_25 okX11 ra0 (by decide) rfl kw_359 dX11_talk_58 (fun ra_25 => ?_)
            refine lv_aload_n hx hb dX11_talk_61 rfl (lv_at hl 1 rfl) ?_
            refine lv_aload hx hb dX11_talk_62 (lv_at hl 0 rfl) ?_
            replace q := c5_s q
            obtain ⟨u_27, S_28, g_26, k_29, w_30, k_31, w_32, qc, ek, ew, q⟩ := q
            refine x_callV hx hb hml hl.1 hown hX M (As := [va_rf (some a_8), va_rf (some a_9)]) (rest := []) okX1 ra_25 rfl kw_890 kw_891 mok_X1_tellBlame (c_X1_tellBlame ra_25 (ra_8.ro) (ra_9.ro) qc (Nat.le_refl 3)) kw_889 rfl rfl dX11_talk_64 (Nat.le_of_ble_eq_true rfl) ⟨Nat.le_trans (by decide) hRf, Nat.le_trans (by decide) hRl⟩ (hb_step hc ek hRc) (hb_step hs ew hRs) (fun H locs M hEF => ?_)
            replace ra0 := ra0.ext hEF.1
            replace ra_8 := ra_8.ext hEF.1
            replace ra_9 := ra_9.ext hEF.1
            replace hE := hE.tr hEF.1
            replace hc := hc_step hc ek
            replace hs := hc_step hs ew
            clear ek ew
            refine lv_aload_n hx hb dX11_talk_67 rfl (lv_at hl 2 rfl) ?_
            replace q := nn_s q
            obtain ⟨a_33, e_a_33, q⟩ := q
            refine x_getR hx hb hown hX M e_a_33 okX11 ra0 (by decide) rfl kw_359 dX11_talk_68 (fun ra_33 => ?_)
            replace q := nn_s q
            obtain ⟨a_34, e_a_34, q⟩ := q
            refine x_getR hx hb hown hX M e_a_34 okX1 ra_33 (by decide) rfl kw_326 dX11_talk_71 (fun ra_34 => ?_)
            refine lv_iload_n hx hb dX11_talk_74 rfl (lv_at hl 3 rfl) ?_
            refine lv_dup2_11 hx hb dX11_talk_75 rfl rfl ?_
            replace q := ck_s q
            obtain ⟨hin, q⟩ := q
            refine x_iald hx hb hX M ra_34 (inb_in hin) dX11_talk_76 ?_
            refine lv_iconst (v := 1) hx hb dX11_talk_77 (by decide) ?_
            refine lv_iadd hx hb dX11_talk_78 ?_
            replace q := ck_s q
            obtain ⟨hin, q⟩ := q
            refine x_iast hx hb hX M ra_34 (inb_in hin) dX11_talk_79 (fun H locs M => ?_)
            replace q := gen_g M q
            obtain ⟨g_35, -, M, q⟩ := q
            refine lv_aload_n hx hb dX11_talk_80 rfl (lv_at hl 2 rfl) ?_
            replace q := nn_s q
            obtain ⟨a_36, e_a_36, q⟩ := q
            refine x_getR hx hb hown hX M e_a_36 okX11 ra0 (by decide) rfl kw_359 dX11_talk_81 (fun ra_36 => ?_)
            replace q := nn_s q
            obtain ⟨a_37, e_a_37, q⟩ := q
            refine x_getR hx hb hown hX M e_a_37 okX1 ra_36 (by decide) rfl kw_326 dX11_talk_84 (fun ra_37 => ?_)
            refine lv_iload_n hx hb dX11_talk_87 rfl (lv_at hl 4 rfl) ?_
            refine lv_dup2_11 hx hb dX11_talk_88 rfl rfl ?_
            replace q := ck_s q
            obtain ⟨hin, q⟩ := q
            refine x_iald hx hb hX M ra_37 (inb_in hin) dX11_talk_89 ?_
            refine lv_iconst (v := 1) hx hb dX11_talk_90 (by decide) ?_
            refine lv_iadd hx hb dX11_talk_91 ?_
            replace q := ck_s q
            obtain ⟨hin, q⟩ := q
            refine x_iast hx hb hX M ra_37 (inb_in hin) dX11_talk_92 (fun H locs M => ?_)
            replace q := gen_g M q
            obtain ⟨g_38, -, M, q⟩ := q
            refine lv_iconst (v := 0) hx hb dX11_talk_93 (by decide) ?_
            cases q
            have hc : cells + k_14 + k_29 = cT := hc
            have hs : slots + w_15 + w_30 = wT := hs
            subst hc
            subst hs
            exact x_iret hx hb hr hlk M hE dX11_talk_94
        · replace q := if_f c_10 q
          refine lv_iconst (v := -1) hx hb dX11_talk_45 (by decide) ?_
          cases q
          have hc : cells = cT := hc
          have hs : slots = wT := hs
          subst hc
          subst hs
          exact x_iret hx hb hr hlk M hE dX11_talk_46
set_option maxRecDepth 100000 in
theorem c_X11_talk {l : Launch} {D : va_G} {cA : Nat → ClassId} {lo tS N : Nat} {S S1 : Hs} {g g1 : Hg} {k w : Nat} {rv : Int32} {a0 : Nat} {x1 : Int32} {x2 : Int32} (ra0 : Rf lo S a0 11) (q : f_X11_talk N S g a0 x1 x2 = some (rv, S1, g1, k, w)) {d : Nat} (hd : 8 ≤ d) : Ctr l yX11_talk cX11_talk 5 (some .int) D cA lo tS [.ref a0, .int x1, .int x2] S g d (some (.int rv)) S1 g1 True k w := by
  refine x_met (by decide) (Nat.le_of_ble_eq_true rfl) ?_
  intro p e s m below meth c ls hx hb hml hr hlk hown hnm hX M hl
  exact w_X11_talk_0 hx hb hml hr hlk hown hX hd (Nat.mul_le_mul_left 60 hd) (N := N) (Nat.le_refl k) (Nat.le_refl w) _ _ _ _ _ _ _ _ _ _ _ _ M Ext.rf ra0 (lv_sub hl [0, 1, 2] rfl) q (Nat.zero_add k) (Nat.zero_add w)
def b_X10_note_20 (N : Nat) (S : Hs) (g : Hg) (a0 : Nat) (x1 : Int32) : Option (Unit × Hg) :=
nn (rdR g a0 0) (fun a_1 =>
ck (inb x1 (hpL S a_1)) (
nm (wrI g a_1 x1.toNatClampNeg (rdI g a0 3)) (fun g_2 =>
some ((), g_2))))
def b_X10_note_0 (N : Nat) (S : Hs) (g : Hg) (a0 : Nat) (x1 : Int32) : Option (Unit × Hg) :=
nn (rdR g a0 0) (fun a_1 =>
ck (inb x1 (hpL S a_1)) (
if (rdI g a_1 x1.toNatClampNeg) = (-1 : Int32) then (
nm (wrI g a0 4 ((rdI g a0 4) + (1 : Int32))) (fun g_3 =>
b_X10_note_20 N S g_3 a0 x1)) else (
b_X10_note_20 N S g a0 x1)))
def f_X10_note (N : Nat) (S : Hs) (g : Hg) (a0 : Nat) (x1 : Int32) : Option (Unit × Hg) := b_X10_note_0 N S g a0 x1
set_option maxHeartbeats 4000000 in
set_option maxRecDepth 100000 in
theorem w_X10_note_20 (hx : p.tables.exec = Jvm.exec) (hb : c.code = cX10_note) (hml : c.maxLocals = 2) (hr : meth.sig.returnType = none) (hlk : meth.locks = false) (hown : s.vm.findClass RX10 = some m.cls) (hX : Kx D cA lo tS s) (hRf : 1 ≤ R.frames) (hRl : 60 ≤ R.locals) {N : Nat} {rv : Unit} {g1 : Hg} {S : Hs} : ∀ (H : Heap) (locs : List Loc) (ls : Array Slot) (g : Hg) (a0 : Nat) (x1 : Int32), Mm D cA lo S g s H locs → Rf lo S a0 10 → lv_has ls 2 [(0, .ref a0), (1, .int x1)] → b_X10_note_20 N S g a0 x1 = some (rv, g1) → W p l e R s m args below meth c H locs 0 0 (MQ below (Qcx D cA lo S none S g1 True) args s 0 0 (fun q : Nat => lo ≤ q)) (F0 m 20 ls []) := by
  intro H locs ls g a0 x1 M ra0 hl q
  unfold b_X10_note_20 at q
  refine lv_aload_n hx hb dX10_note_20 rfl (lv_at hl 0 rfl) ?_
  replace q := nn_s q
  obtain ⟨a_1, e_a_1, q⟩ := q
  refine x_getR hx hb hown hX M e_a_1 okX10 ra0 (by decide) rfl kw_293 dX10_note_21 (fun ra_1 => ?_)
  refine lv_iload_n hx hb dX10_note_24 rfl (lv_at hl 1 rfl) ?_
  refine lv_aload_n hx hb dX10_note_25 rfl (lv_at hl 0 rfl) ?_
  refine x_getI hx hb hown hX M (k := 3) okX10 ra0 (by decide) rfl kw_298 dX10_note_26 ?_
  replace q := ck_s q
  obtain ⟨hin, q⟩ := q
  refine x_iast hx hb hX M ra_1 (inb_in hin) dX10_note_29 (fun H locs M => ?_)
  replace q := gen_g M q
  obtain ⟨g_2, -, M, q⟩ := q
  cases q
  exact x_vret hx hb hr hlk M Ext.rf dX10_note_30
set_option maxHeartbeats 4000000 in
set_option maxRecDepth 100000 in
theorem w_X10_note_0 (hx : p.tables.exec = Jvm.exec) (hb : c.code = cX10_note) (hml : c.maxLocals = 2) (hr : meth.sig.returnType = none) (hlk : meth.locks = false) (hown : s.vm.findClass RX10 = some m.cls) (hX : Kx D cA lo tS s) (hRf : 1 ≤ R.frames) (hRl : 60 ≤ R.locals) {N : Nat} {rv : Unit} {g1 : Hg} {S : Hs} : ∀ (H : Heap) (locs : List Loc) (ls : Array Slot) (g : Hg) (a0 : Nat) (x1 : Int32), Mm D cA lo S g s H locs → Rf lo S a0 10 → lv_has ls 2 [(0, .ref a0), (1, .int x1)] → b_X10_note_0 N S g a0 x1 = some (rv, g1) → W p l e R s m args below meth c H locs 0 0 (MQ below (Qcx D cA lo S none S g1 True) args s 0 0 (fun q : Nat => lo ≤ q)) (F0 m 0 ls []) := by
  intro H locs ls g a0 x1 M ra0 hl q
  unfold b_X10_note_0 at q
  refine lv_aload_n hx hb dX10_note_0 rfl (lv_at hl 0 rfl) ?_
  replace q := nn_s q
  obtain ⟨a_1, e_a_1, q⟩ := q
  refine x_getR hx hb hown hX M e_a_1 okX10 ra0 (by decide) rfl kw_293 dX10_note_1 (fun ra_1 => ?_)
  refine lv_iload_n hx hb dX10_note_4 rfl (lv_at hl 1 rfl) ?_
  replace q := ck_s q
  obtain ⟨hin, q⟩ := q
  refine x_iald hx hb hX M ra_1 (inb_in hin) dX10_note_5 ?_
  refine lv_iconst (v := -1) hx hb dX10_note_6 (by decide) ?_
  refine lv_icmp_ne (tgt := 20) hx hb dX10_note_7 (by decide) (fun c_2 => ?_) (fun c_2 => ?_)
  · replace q := if_f c_2 q
    exact w_X10_note_20 hx hb hml hr hlk hown hX hRf hRl (N := N)  _ _ _ _ _ _ M ra0 (lv_sub hl [0, 1] rfl) q
  · replace q := if_t c_2 q
    refine lv_aload_n hx hb dX10_note_10 rfl (lv_at hl 0 rfl) ?_
    refine lv_dup hx hb dX10_note_11 rfl ?_
    refine x_getI hx hb hown hX M (k := 4) okX10 ra0 (by decide) rfl kw_300 dX10_note_12 ?_
    refine lv_iconst (v := 1) hx hb dX10_note_15 (by decide) ?_
    refine lv_iadd hx hb dX10_note_16 ?_
    refine x_putI hx hb hown hX M (k := 4) okX10 ra0 (by decide) rfl (Or.inl rfl) rfl rfl kw_300 dX10_note_17 (fun H locs M => ?_)
    replace q := gen_g M q
    obtain ⟨g_3, -, M, q⟩ := q
    exact w_X10_note_20 hx hb hml hr hlk hown hX hRf hRl (N := N)  _ _ _ _ _ _ M ra0 (lv_sub hl [0, 1] rfl) q
set_option maxRecDepth 100000 in
theorem c_X10_note {l : Launch} {D : va_G} {cA : Nat → ClassId} {lo tS N : Nat} {S : Hs} {g g1 : Hg} {rv : Unit} {a0 : Nat} {x1 : Int32} (ra0 : Rf lo S a0 10) (q : f_X10_note N S g a0 x1 = some (rv, g1)) {d : Nat} (hd : 1 ≤ d) : Ctr l yX10_note cX10_note 2 none D cA lo tS [.ref a0, .int x1] S g d none S g1 True 0 0 := by
  refine x_met (by decide) (Nat.le_of_ble_eq_true rfl) ?_
  intro p e s m below meth c ls hx hb hml hr hlk hown hnm hX M hl
  exact w_X10_note_0 hx hb hml hr hlk hown hX hd (Nat.mul_le_mul_left 60 hd) (N := N) _ _ _ _ _ _ M ra0 (lv_sub hl [0, 1] rfl) q
def b_X10_readOn_60 (N : Nat) (S : Hs) (k0 : Hg → Nat → Nat → Option (Unit × Hg)) (g : Hg) (a0 : Nat) (a1 : Nat) : Option (Unit × Hg) :=
nm (wrI g a0 3 ((rdI g a0 3) + (1 : Int32))) (fun g_1 =>
k0 g_1 a0 a1)
def b_X10_readOn_0 (N : Nat) (S : Hs) (k0 : Hg → Nat → Nat → Option (Unit × Hg)) (g : Hg) (a0 : Nat) (a1 : Nat) : Option (Unit × Hg) :=
if (rdI g a1 7) ≤ (rdI g a0 3) then (
some ((), g)) else (
c2 (f_X3_keyAt N S g a1 (rdI g a0 3)) (fun x_3 g_2 =>
c2 (f_X3_shows N S g_2 a1 (rdI g_2 a0 3)) (fun x_5 g_4 =>
if x_5 = 0 then (
b_X10_readOn_60 N S k0 g_4 a0 a1) else (
if x_3 < (rdI g_4 a0 5) then (
b_X10_readOn_60 N S k0 g_4 a0 a1) else (
if (rdI g_4 a0 6) < x_3 then (
b_X10_readOn_60 N S k0 g_4 a0 a1) else (
nn (rdR g_4 a1 2) (fun a_9 =>
ck (inb (rdI g_4 a0 3) (hpL S a_9)) (
c2 (f_X10_note N S g_4 a0 (rdI g_4 a_9 (rdI g_4 a0 3).toNatClampNeg)) (fun u_11 g_10 =>
b_X10_readOn_60 N S k0 g_10 a0 a1)))))))))
def n_X10_readOn_0 (N : Nat) (S : Hs) : Nat → Hg → Nat → Nat → Option (Unit × Hg)
  | 0 => fun _ _ _ => none
  | n + 1 => fun g a0 a1 => b_X10_readOn_0 N S (n_X10_readOn_0 N S n) g a0 a1
def f_X10_readOn (N : Nat) (S : Hs) (g : Hg) (a0 : Nat) (a1 : Nat) : Option (Unit × Hg) := n_X10_readOn_0 N S N g a0 a1
set_option maxHeartbeats 4000000 in
set_option maxRecDepth 100000 in
theorem w_X10_readOn_60 (hx : p.tables.exec = Jvm.exec) (hb : c.code = cX10_readOn) (hml : c.maxLocals = 3) (hr : meth.sig.returnType = none) (hlk : meth.locks = false) (hown : s.vm.findClass RX10 = some m.cls) (hX : Kx D cA lo tS s) (hRf : 3 ≤ R.frames) (hRl : 180 ≤ R.locals) {N : Nat} {rv : Unit} {g1 : Hg} {S : Hs} {k0 : Hg → Nat → Nat → Option (Unit × Hg)} (hk0 : ∀ (H : Heap) (locs : List Loc) (ls : Array Slot) (g : Hg) (a0 : Nat) (a1 : Nat), Mm D cA lo S g s H locs → Rf lo S a0 10 → Rf lo S a1 3 → lv_has ls 3 [(0, .ref a0), (1, .ref a1)] → k0 g a0 a1 = some (rv, g1) → W p l e R s m args below meth c H locs 0 0 (MQ below (Qcx D cA lo S none S g1 True) args s 0 0 (fun q : Nat => lo ≤ q)) (F0 m 0 ls [])) : ∀ (H : Heap) (locs : List Loc) (ls : Array Slot) (g : Hg) (a0 : Nat) (a1 : Nat), Mm D cA lo S g s H locs → Rf lo S a0 10 → Rf lo S a1 3 → lv_has ls 3 [(0, .ref a0), (1, .ref a1)] → b_X10_readOn_60 N S k0 g a0 a1 = some (rv, g1) → W p l e R s m args below meth c H locs 0 0 (MQ below (Qcx D cA lo S none S g1 True) args s 0 0 (fun q : Nat => lo ≤ q)) (F0 m 60 ls []) := by
  intro H locs ls g a0 a1 M ra0 ra1 hl q
  unfold b_X10_readOn_60 at q
  refine lv_aload_n hx hb dX10_readOn_60 rfl (lv_at hl 0 rfl) ?_
  refine lv_dup hx hb dX10_readOn_61 rfl ?_
  refine x_getI hx hb hown hX M (k := 3) okX10 ra0 (by decide) rfl kw_298 dX10_readOn_62 ?_
  refine lv_iconst (v := 1) hx hb dX10_readOn_65 (by decide) ?_
  refine lv_iadd hx hb dX10_readOn_66 ?_
  refine x_putI hx hb hown hX M (k := 3) okX10 ra0 (by decide) rfl (Or.inl rfl) rfl rfl kw_298 dX10_readOn_67 (fun H locs M => ?_)
  replace q := gen_g M q
  obtain ⟨g_1, -, M, q⟩ := q
  refine lv_goto (tgt := 0) hx hb dX10_readOn_70 (by decide) ?_
  exact hk0 _ _ _ _ _ _ M ra0 ra1 (lv_sub hl [0, 1] rfl) q
set_option maxHeartbeats 4000000 in
set_option maxRecDepth 100000 in
theorem w_X10_readOn_0 (hx : p.tables.exec = Jvm.exec) (hb : c.code = cX10_readOn) (hml : c.maxLocals = 3) (hr : meth.sig.returnType = none) (hlk : meth.locks = false) (hown : s.vm.findClass RX10 = some m.cls) (hX : Kx D cA lo tS s) (hRf : 3 ≤ R.frames) (hRl : 180 ≤ R.locals) {N : Nat} {rv : Unit} {g1 : Hg} {S : Hs} {k0 : Hg → Nat → Nat → Option (Unit × Hg)} (hk0 : ∀ (H : Heap) (locs : List Loc) (ls : Array Slot) (g : Hg) (a0 : Nat) (a1 : Nat), Mm D cA lo S g s H locs → Rf lo S a0 10 → Rf lo S a1 3 → lv_has ls 3 [(0, .ref a0), (1, .ref a1)] → k0 g a0 a1 = some (rv, g1) → W p l e R s m args below meth c H locs 0 0 (MQ below (Qcx D cA lo S none S g1 True) args s 0 0 (fun q : Nat => lo ≤ q)) (F0 m 0 ls [])) : ∀ (H : Heap) (locs : List Loc) (ls : Array Slot) (g : Hg) (a0 : Nat) (a1 : Nat), Mm D cA lo S g s H locs → Rf lo S a0 10 → Rf lo S a1 3 → lv_has ls 3 [(0, .ref a0), (1, .ref a1)] → b_X10_readOn_0 N S k0 g a0 a1 = some (rv, g1) → W p l e R s m args below meth c H locs 0 0 (MQ below (Qcx D cA lo S none S g1 True) args s 0 0 (fun q : Nat => lo ≤ q)) (F0 m 0 ls []) := by
  intro H locs ls g a0 a1 M ra0 ra1 hl q
  unfold b_X10_readOn_0 at q
  refine lv_aload_n hx hb dX10_readOn_0 rfl (lv_at hl 0 rfl) ?_
  refine x_getI hx hb hown hX M (k := 3) okX10 ra0 (by decide) rfl kw_298 dX10_readOn_1 ?_
  refine lv_aload_n hx hb dX10_readOn_4 rfl (lv_at hl 1 rfl) ?_
  refine x_getI hx hb hown hX M (k := 7) okX3 ra1 (by decide) rfl kw_458 dX10_readOn_5 ?_
  refine lv_icmp_ge (tgt := 73) hx hb dX10_readOn_8 (by decide) (fun c_1 => ?_) (fun c_1 => ?_)
  · replace q := if_t c_1 q
    cases q
    exact x_vret hx hb hr hlk M Ext.rf dX10_readOn_73
  · replace q := if_f c_1 q
    refine lv_aload_n hx hb dX10_readOn_11 rfl (lv_at hl 1 rfl) ?_
    refine lv_aload_n hx hb dX10_readOn_12 rfl (lv_at hl 0 rfl) ?_
    refine x_getI hx hb hown hX M (k := 3) okX10 ra0 (by decide) rfl kw_298 dX10_readOn_13 ?_
    replace q := c2_s q
    obtain ⟨x_3, g_2, qc, q⟩ := q
    refine x_callV hx hb hml hl.1 hown hX M (S1 := S) (As := [.int (rdI g a0 3)]) (rest := []) okX3 ra1 rfl kw_744 kw_745 mok_X3_keyAt (c_X3_keyAt ra1 qc (Nat.le_refl 2)) kw_945 rfl rfl dX10_readOn_16 (Nat.le_of_ble_eq_true rfl) ⟨Nat.le_trans (by decide) hRf, Nat.le_trans (by decide) hRl⟩ (Nat.zero_le _) (Nat.zero_le _) (fun H locs M hEF => ?_)
    refine lv_istore_n (lv' := [(2, .int x_3), (0, .ref a0), (1, .ref a1)]) hx hb dX10_readOn_19 rfl hl (by decide) rfl (fun ls hl => ?_)
    refine lv_aload_n hx hb dX10_readOn_20 rfl (lv_at hl 2 rfl) ?_
    refine lv_aload_n hx hb dX10_readOn_21 rfl (lv_at hl 1 rfl) ?_
    refine x_getI hx hb hown hX M (k := 3) okX10 ra0 (by decide) rfl kw_298 dX10_readOn_22 ?_
    replace q := c2_s q
    obtain ⟨x_5, g_4, qc, q⟩ := q
    refine x_callV hx hb hml hl.1 hown hX M (S1 := S) (As := [.int (rdI g_2 a0 3)]) (rest := []) okX3 ra1 rfl kw_603 kw_604 mok_X3_shows (c_X3_shows ra1 qc (Nat.le_refl 1)) kw_946 rfl rfl dX10_readOn_25 (Nat.le_of_ble_eq_true rfl) ⟨Nat.le_trans (by decide) hRf, Nat.le_trans (by decide) hRl⟩ (Nat.zero_le _) (Nat.zero_le _) (fun H locs M hEF => ?_)
    refine lv_if_eq (tgt := 60) hx hb dX10_readOn_28 (by decide) (fun c_6 => ?_) (fun c_6 => ?_)
    · replace q := if_t c_6 q
      exact w_X10_readOn_60 hx hb hml hr hlk hown hX hRf hRl (N := N) hk0 _ _ _ _ _ _ M ra0 ra1 (lv_sub hl [1, 2] rfl) q
    · replace q := if_f c_6 q
      refine lv_iload_n hx hb dX10_readOn_31 rfl (lv_at hl 0 rfl) ?_
      refine lv_aload_n hx hb dX10_readOn_32 rfl (lv_at hl 1 rfl) ?_
      refine x_getI hx hb hown hX M (k := 5) okX10 ra0 (by decide) rfl kw_302 dX10_readOn_33 ?_
      refine lv_icmp_lt (tgt := 60) hx hb dX10_readOn_36 (by decide) (fun c_7 => ?_) (fun c_7 => ?_)
      · replace q := if_t c_7 q
        exact w_X10_readOn_60 hx hb hml hr hlk hown hX hRf hRl (N := N) hk0 _ _ _ _ _ _ M ra0 ra1 (lv_sub hl [1, 2] rfl) q
      · replace q := if_f c_7 q
        refine lv_iload_n hx hb dX10_readOn_39 rfl (lv_at hl 0 rfl) ?_
        refine lv_aload_n hx hb dX10_readOn_40 rfl (lv_at hl 1 rfl) ?_
        refine x_getI hx hb hown hX M (k := 6) okX10 ra0 (by decide) rfl kw_303 dX10_readOn_41 ?_
        refine lv_icmp_gt (tgt := 60) hx hb dX10_readOn_44 (by decide) (fun c_8 => ?_) (fun c_8 => ?_)
        · replace q := if_t c_8 q
          exact w_X10_readOn_60 hx hb hml hr hlk hown hX hRf hRl (N := N) hk0 _ _ _ _ _ _ M ra0 ra1 (lv_sub hl [1, 2] rfl) q
        · replace q := if_f c_8 q
          refine lv_aload_n hx hb dX10_readOn_47 rfl (lv_at hl 1 rfl) ?_
          refine lv_aload_n hx hb dX10_readOn_48 rfl (lv_at hl 2 rfl) ?_
          replace q := nn_s q
          obtain ⟨a_9, e_a_9, q⟩ := q
          refine x_getR hx hb hown hX M e_a_9 okX3 ra1 (by decide) rfl kw_449 dX10_readOn_49 (fun ra_9 => ?_)
          refine lv_aload_n hx hb dX10_readOn_52 rfl (lv_at hl 1 rfl) ?_
          refine x_getI hx hb hown hX M (k := 3) okX10 ra0 (by decide) rfl kw_298 dX10_readOn_53 ?_
          replace q := ck_s q
          obtain ⟨hin, q⟩ := q
          refine x_iald hx hb hX M ra_9 (inb_in hin) dX10_readOn_56 ?_
          replace q := c2_s q
          obtain ⟨u_11, g_10, qc, q⟩ := q
          refine x_callV hx hb hml hl.1 hown hX M (S1 := S) (As := [.int (rdI g_4 a_9 (rdI g_4 a0 3).toNatClampNeg)]) (rest := []) okX10 ra0 rfl kw_949 kw_13 mok_X10_note (c_X10_note ra0 qc (Nat.le_refl 1)) kw_947 rfl rfl dX10_readOn_57 (Nat.le_of_ble_eq_true rfl) ⟨Nat.le_trans (by decide) hRf, Nat.le_trans (by decide) hRl⟩ (Nat.zero_le _) (Nat.zero_le _) (fun H locs M hEF => ?_)
          exact w_X10_readOn_60 hx hb hml hr hlk hown hX hRf hRl (N := N) hk0 _ _ _ _ _ _ M ra0 ra1 (lv_sub hl [1, 2] rfl) q
set_option maxRecDepth 100000 in
theorem l_X10_readOn_0 (hx : p.tables.exec = Jvm.exec) (hb : c.code = cX10_readOn) (hml : c.maxLocals = 3) (hr : meth.sig.returnType = none) (hlk : meth.locks = false) (hown : s.vm.findClass RX10 = some m.cls) (hX : Kx D cA lo tS s) (hRf : 3 ≤ R.frames) (hRl : 180 ≤ R.locals) {N : Nat} {rv : Unit} {g1 : Hg} {S : Hs} : ∀ (n : Nat), ∀ (H : Heap) (locs : List Loc) (ls : Array Slot) (g : Hg) (a0 : Nat) (a1 : Nat), Mm D cA lo S g s H locs → Rf lo S a0 10 → Rf lo S a1 3 → lv_has ls 3 [(0, .ref a0), (1, .ref a1)] → n_X10_readOn_0 N S n g a0 a1 = some (rv, g1) → W p l e R s m args below meth c H locs 0 0 (MQ below (Qcx D cA lo S none S g1 True) args s 0 0 (fun q : Nat => lo ≤ q)) (F0 m 0 ls []) := by
  intro n
  induction n with
  | zero =>
    intro H locs ls g a0 a1 M ra0 ra1 hl q
    exact absurd q (by simp [n_X10_readOn_0])
  | succ n ih => exact w_X10_readOn_0 hx hb hml hr hlk hown hX hRf hRl (N := N)  ih
set_option maxRecDepth 100000 in
theorem c_X10_readOn {l : Launch} {D : va_G} {cA : Nat → ClassId} {lo tS N : Nat} {S : Hs} {g g1 : Hg} {rv : Unit} {a0 : Nat} {a1 : Nat} (ra0 : Rf lo S a0 10) (ra1 : Rf lo S a1 3) (q : f_X10_readOn N S g a0 a1 = some (rv, g1)) {d : Nat} (hd : 3 ≤ d) : Ctr l yX10_readOn cX10_readOn 3 none D cA lo tS [.ref a0, .ref a1] S g d none S g1 True 0 0 := by
  refine x_met (by decide) (Nat.le_of_ble_eq_true rfl) ?_
  intro p e s m below meth c ls hx hb hml hr hlk hown hnm hX M hl
  exact l_X10_readOn_0 hx hb hml hr hlk hown hX hd (Nat.mul_le_mul_left 60 hd) (N := N) N _ _ _ _ _ _ M ra0 ra1 (lv_sub hl [0, 1] rfl) q
def b_X10_unlikeKeys_5 (N : Nat) (S : Hs) (k5 : Hg → Nat → Nat → Int32 → Int32 → Int32 → Option (Int32 × Hg)) (g : Hg) (a0 : Nat) (a1 : Nat) (x2 : Int32) (x3 : Int32) (x4 : Int32) : Option (Int32 × Hg) :=
if x2 ≤ x4 then (
some (x3, g)) else (
nn (rdR g a0 0) (fun a_2 =>
ck (inb x4 (hpL S a_2)) (
if (rdI g a_2 x4.toNatClampNeg) = (-1 : Int32) then (
nm (x4 + 1) (fun x_4 =>
k5 g a0 a1 x2 x3 x_4)) else (
nn (rdR g a0 0) (fun a_5 =>
ck (inb x4 (hpL S a_5)) (
c2 (f_X4_latestOf N S g a1 x4) (fun x_7 g_6 =>
if (rdI g a_5 x4.toNatClampNeg) = x_7 then (
nm (x4 + 1) (fun x_9 =>
k5 g_6 a0 a1 x2 x3 x_9)) else (
nm (x3 + 1) (fun x_10 =>
nm (x4 + 1) (fun x_11 =>
k5 g_6 a0 a1 x2 x_10 x_11))))))))))
def n_X10_unlikeKeys_5 (N : Nat) (S : Hs) : Nat → Hg → Nat → Nat → Int32 → Int32 → Int32 → Option (Int32 × Hg)
  | 0 => fun _ _ _ _ _ _ => none
  | n + 1 => fun g a0 a1 x2 x3 x4 => b_X10_unlikeKeys_5 N S (n_X10_unlikeKeys_5 N S n) g a0 a1 x2 x3 x4
def b_X10_unlikeKeys_0 (N : Nat) (S : Hs) (g : Hg) (a0 : Nat) (a1 : Nat) (x2 : Int32) : Option (Int32 × Hg) :=
n_X10_unlikeKeys_5 N S N g a0 a1 x2 (0 : Int32) (0 : Int32)
def f_X10_unlikeKeys (N : Nat) (S : Hs) (g : Hg) (a0 : Nat) (a1 : Nat) (x2 : Int32) : Option (Int32 × Hg) := b_X10_unlikeKeys_0 N S g a0 a1 x2
set_option maxHeartbeats 4000000 in
set_option maxRecDepth 100000 in
theorem w_X10_unlikeKeys_5 (hx : p.tables.exec = Jvm.exec) (hb : c.code = cX10_unlikeKeys) (hml : c.maxLocals = 5) (hr : meth.sig.returnType = (some .int)) (hlk : meth.locks = false) (hown : s.vm.findClass RX10 = some m.cls) (hX : Kx D cA lo tS s) (hRf : 2 ≤ R.frames) (hRl : 120 ≤ R.locals) {N : Nat} {rv : Int32} {g1 : Hg} {S : Hs} {k5 : Hg → Nat → Nat → Int32 → Int32 → Int32 → Option (Int32 × Hg)} (hk5 : ∀ (H : Heap) (locs : List Loc) (ls : Array Slot) (g : Hg) (a0 : Nat) (a1 : Nat) (x2 : Int32) (x3 : Int32) (x4 : Int32), Mm D cA lo S g s H locs → Rf lo S a0 10 → Rf lo S a1 4 → lv_has ls 5 [(0, .ref a0), (1, .ref a1), (2, .int x2), (3, .int x3), (4, .int x4)] → k5 g a0 a1 x2 x3 x4 = some (rv, g1) → W p l e R s m args below meth c H locs 0 0 (MQ below (Qcx D cA lo S (some (.int rv)) S g1 True) args s 0 0 (fun q : Nat => lo ≤ q)) (F0 m 5 ls [])) : ∀ (H : Heap) (locs : List Loc) (ls : Array Slot) (g : Hg) (a0 : Nat) (a1 : Nat) (x2 : Int32) (x3 : Int32) (x4 : Int32), Mm D cA lo S g s H locs → Rf lo S a0 10 → Rf lo S a1 4 → lv_has ls 5 [(0, .ref a0), (1, .ref a1), (2, .int x2), (3, .int x3), (4, .int x4)] → b_X10_unlikeKeys_5 N S k5 g a0 a1 x2 x3 x4 = some (rv, g1) → W p l e R s m args below meth c H locs 0 0 (MQ below (Qcx D cA lo S (some (.int rv)) S g1 True) args s 0 0 (fun q : Nat => lo ≤ q)) (F0 m 5 ls []) := by
  intro H locs ls g a0 a1 x2 x3 x4 M ra0 ra1 hl q
  unfold b_X10_unlikeKeys_5 at q
  refine lv_iload hx hb dX10_unlikeKeys_5 (lv_at hl 4 rfl) ?_
  refine lv_iload_n hx hb dX10_unlikeKeys_7 rfl (lv_at hl 2 rfl) ?_
  refine lv_icmp_ge (tgt := 47) hx hb dX10_unlikeKeys_8 (by decide) (fun c_1 => ?_) (fun c_1 => ?_)
  · replace q := if_t c_1 q
    refine lv_iload_n hx hb dX10_unlikeKeys_47 rfl (lv_at hl 3 rfl) ?_
    cases q
    exact x_iret hx hb hr hlk M Ext.rf dX10_unlikeKeys_48
  · replace q := if_f c_1 q
    refine lv_aload_n hx hb dX10_unlikeKeys_11 rfl (lv_at hl 0 rfl) ?_
    replace q := nn_s q
    obtain ⟨a_2, e_a_2, q⟩ := q
    refine x_getR hx hb hown hX M e_a_2 okX10 ra0 (by decide) rfl kw_293 dX10_unlikeKeys_12 (fun ra_2 => ?_)
    refine lv_iload hx hb dX10_unlikeKeys_15 (lv_at hl 4 rfl) ?_
    replace q := ck_s q
    obtain ⟨hin, q⟩ := q
    refine x_iald hx hb hX M ra_2 (inb_in hin) dX10_unlikeKeys_17 ?_
    refine lv_iconst (v := -1) hx hb dX10_unlikeKeys_18 (by decide) ?_
    refine lv_icmp_eq (tgt := 41) hx hb dX10_unlikeKeys_19 (by decide) (fun c_3 => ?_) (fun c_3 => ?_)
    · replace q := if_t c_3 q
      obtain ⟨x_4, e_x_4⟩ : ∃ y : Int32, y = x4 + 1 := ⟨_, rfl⟩
      replace q := nm_s q e_x_4
      refine lv_iinc (v := x_4) (lv' := [(4, .int x_4), (0, .ref a0), (1, .ref a1), (2, .int x2), (3, .int x3)]) hx hb dX10_unlikeKeys_41 hl (k := 4) rfl (by rw [e_x_4]; rfl) (by decide) rfl (fun ls hl => ?_)
      refine lv_goto (tgt := 5) hx hb dX10_unlikeKeys_44 (by decide) ?_
      exact hk5 _ _ _ _ _ _ _ _ _ M ra0 ra1 (lv_sub hl [1, 2, 3, 4, 0] rfl) q
    · replace q := if_f c_3 q
      refine lv_aload_n hx hb dX10_unlikeKeys_22 rfl (lv_at hl 0 rfl) ?_
      replace q := nn_s q
      obtain ⟨a_5, e_a_5, q⟩ := q
      refine x_getR hx hb hown hX M e_a_5 okX10 ra0 (by decide) rfl kw_293 dX10_unlikeKeys_23 (fun ra_5 => ?_)
      refine lv_iload hx hb dX10_unlikeKeys_26 (lv_at hl 4 rfl) ?_
      replace q := ck_s q
      obtain ⟨hin, q⟩ := q
      refine x_iald hx hb hX M ra_5 (inb_in hin) dX10_unlikeKeys_28 ?_
      refine lv_aload_n hx hb dX10_unlikeKeys_29 rfl (lv_at hl 1 rfl) ?_
      refine lv_iload hx hb dX10_unlikeKeys_30 (lv_at hl 4 rfl) ?_
      replace q := c2_s q
      obtain ⟨x_7, g_6, qc, q⟩ := q
      refine x_callV hx hb hml hl.1 hown hX M (S1 := S) (As := [.int x4]) (rest := [.int (rdI g a_5 x4.toNatClampNeg)]) okX4 ra1 rfl kw_639 kw_640 mok_X4_latestOf (c_X4_latestOf ra1 qc (Nat.le_refl 1)) kw_955 rfl rfl dX10_unlikeKeys_32 (Nat.le_of_ble_eq_true rfl) ⟨Nat.le_trans (by decide) hRf, Nat.le_trans (by decide) hRl⟩ (Nat.zero_le _) (Nat.zero_le _) (fun H locs M hEF => ?_)
      refine lv_icmp_eq (tgt := 41) hx hb dX10_unlikeKeys_35 (by decide) (fun c_8 => ?_) (fun c_8 => ?_)
      · replace q := if_t c_8 q
        obtain ⟨x_9, e_x_9⟩ : ∃ y : Int32, y = x4 + 1 := ⟨_, rfl⟩
        replace q := nm_s q e_x_9
        refine lv_iinc (v := x_9) (lv' := [(4, .int x_9), (0, .ref a0), (1, .ref a1), (2, .int x2), (3, .int x3)]) hx hb dX10_unlikeKeys_41 hl (k := 4) rfl (by rw [e_x_9]; rfl) (by decide) rfl (fun ls hl => ?_)
        refine lv_goto (tgt := 5) hx hb dX10_unlikeKeys_44 (by decide) ?_
        exact hk5 _ _ _ _ _ _ _ _ _ M ra0 ra1 (lv_sub hl [1, 2, 3, 4, 0] rfl) q
      · replace q := if_f c_8 q
        obtain ⟨x_10, e_x_10⟩ : ∃ y : Int32, y = x3 + 1 := ⟨_, rfl⟩
        replace q := nm_s q e_x_10
        refine lv_iinc (v := x_10) (lv' := [(3, .int x_10), (0, .ref a0), (1, .ref a1), (2, .int x2), (4, .int x4)]) hx hb dX10_unlikeKeys_38 hl (k := 3) rfl (by rw [e_x_10]; rfl) (by decide) rfl (fun ls hl => ?_)
        obtain ⟨x_11, e_x_11⟩ : ∃ y : Int32, y = x4 + 1 := ⟨_, rfl⟩
        replace q := nm_s q e_x_11
        refine lv_iinc (v := x_11) (lv' := [(4, .int x_11), (3, .int x_10), (0, .ref a0), (1, .ref a1), (2, .int x2)]) hx hb dX10_unlikeKeys_41 hl (k := 4) rfl (by rw [e_x_11]; rfl) (by decide) rfl (fun ls hl => ?_)
        refine lv_goto (tgt := 5) hx hb dX10_unlikeKeys_44 (by decide) ?_
        exact hk5 _ _ _ _ _ _ _ _ _ M ra0 ra1 (lv_sub hl [2, 3, 4, 1, 0] rfl) q
set_option maxRecDepth 100000 in
theorem l_X10_unlikeKeys_5 (hx : p.tables.exec = Jvm.exec) (hb : c.code = cX10_unlikeKeys) (hml : c.maxLocals = 5) (hr : meth.sig.returnType = (some .int)) (hlk : meth.locks = false) (hown : s.vm.findClass RX10 = some m.cls) (hX : Kx D cA lo tS s) (hRf : 2 ≤ R.frames) (hRl : 120 ≤ R.locals) {N : Nat} {rv : Int32} {g1 : Hg} {S : Hs} : ∀ (n : Nat), ∀ (H : Heap) (locs : List Loc) (ls : Array Slot) (g : Hg) (a0 : Nat) (a1 : Nat) (x2 : Int32) (x3 : Int32) (x4 : Int32), Mm D cA lo S g s H locs → Rf lo S a0 10 → Rf lo S a1 4 → lv_has ls 5 [(0, .ref a0), (1, .ref a1), (2, .int x2), (3, .int x3), (4, .int x4)] → n_X10_unlikeKeys_5 N S n g a0 a1 x2 x3 x4 = some (rv, g1) → W p l e R s m args below meth c H locs 0 0 (MQ below (Qcx D cA lo S (some (.int rv)) S g1 True) args s 0 0 (fun q : Nat => lo ≤ q)) (F0 m 5 ls []) := by
  intro n
  induction n with
  | zero =>
    intro H locs ls g a0 a1 x2 x3 x4 M ra0 ra1 hl q
    exact absurd q (by simp [n_X10_unlikeKeys_5])
  | succ n ih => exact w_X10_unlikeKeys_5 hx hb hml hr hlk hown hX hRf hRl (N := N)  ih
set_option maxHeartbeats 4000000 in
set_option maxRecDepth 100000 in
theorem w_X10_unlikeKeys_0 (hx : p.tables.exec = Jvm.exec) (hb : c.code = cX10_unlikeKeys) (hml : c.maxLocals = 5) (hr : meth.sig.returnType = (some .int)) (hlk : meth.locks = false) (hown : s.vm.findClass RX10 = some m.cls) (hX : Kx D cA lo tS s) (hRf : 2 ≤ R.frames) (hRl : 120 ≤ R.locals) {N : Nat} {rv : Int32} {g1 : Hg} {S : Hs} : ∀ (H : Heap) (locs : List Loc) (ls : Array Slot) (g : Hg) (a0 : Nat) (a1 : Nat) (x2 : Int32), Mm D cA lo S g s H locs → Rf lo S a0 10 → Rf lo S a1 4 → lv_has ls 5 [(0, .ref a0), (1, .ref a1), (2, .int x2)] → b_X10_unlikeKeys_0 N S g a0 a1 x2 = some (rv, g1) → W p l e R s m args below meth c H locs 0 0 (MQ below (Qcx D cA lo S (some (.int rv)) S g1 True) args s 0 0 (fun q : Nat => lo ≤ q)) (F0 m 0 ls []) := by
  intro H locs ls g a0 a1 x2 M ra0 ra1 hl q
  unfold b_X10_unlikeKeys_0 at q
  refine lv_iconst (v := 0) hx hb dX10_unlikeKeys_0 (by decide) ?_
  refine lv_istore_n (lv' := [(3, .int (0 : Int32)), (0, .ref a0), (1, .ref a1), (2, .int x2)]) hx hb dX10_unlikeKeys_1 rfl hl (by decide) rfl (fun ls hl => ?_)
  refine lv_iconst (v := 0) hx hb dX10_unlikeKeys_2 (by decide) ?_
  refine lv_istore (lv' := [(4, .int (0 : Int32)), (3, .int (0 : Int32)), (0, .ref a0), (1, .ref a1), (2, .int x2)]) hx hb dX10_unlikeKeys_3 hl (by decide) rfl (fun ls hl => ?_)
  exact l_X10_unlikeKeys_5 hx hb hml hr hlk hown hX hRf hRl (N := N)  N _ _ _ _ _ _ _ _ _ M ra0 ra1 (lv_sub hl [2, 3, 4, 1, 0] rfl) q
set_option maxRecDepth 100000 in
theorem c_X10_unlikeKeys {l : Launch} {D : va_G} {cA : Nat → ClassId} {lo tS N : Nat} {S : Hs} {g g1 : Hg} {rv : Int32} {a0 : Nat} {a1 : Nat} {x2 : Int32} (ra0 : Rf lo S a0 10) (ra1 : Rf lo S a1 4) (q : f_X10_unlikeKeys N S g a0 a1 x2 = some (rv, g1)) {d : Nat} (hd : 2 ≤ d) : Ctr l yX10_unlikeKeys cX10_unlikeKeys 5 (some .int) D cA lo tS [.ref a0, .ref a1, .int x2] S g d (some (.int rv)) S g1 True 0 0 := by
  refine x_met (by decide) (Nat.le_of_ble_eq_true rfl) ?_
  intro p e s m below meth c ls hx hb hml hr hlk hown hnm hX M hl
  exact w_X10_unlikeKeys_0 hx hb hml hr hlk hown hX hd (Nat.mul_le_mul_left 60 hd) (N := N) _ _ _ _ _ _ _ M ra0 ra1 (lv_sub hl [0, 1, 2] rfl) q
def b_X1_watcherAt_0 (N : Nat) (S : Hs) (g : Hg) (a0 : Nat) (x1 : Int32) : Option (Option Nat × Hg) :=
if x1 < 0 then (
some (none, g)) else (
if (8 : Int32) ≤ x1 then (
some (none, g)) else (
nn (rdR g a0 8) (fun a_3 =>
ck (inb x1 (hpL S a_3)) (
nn (rdR g a_3 x1.toNatClampNeg) (fun a_4 =>
if (rdI g a_4 1) = 0 then (
some (none, g)) else (
nn (rdR g a0 8) (fun a_6 =>
ck (inb x1 (hpL S a_6)) (
some ((rdR g a_6 x1.toNatClampNeg), g)))))))))
def f_X1_watcherAt (N : Nat) (S : Hs) (g : Hg) (a0 : Nat) (x1 : Int32) : Option (Option Nat × Hg) := b_X1_watcherAt_0 N S g a0 x1
set_option maxHeartbeats 4000000 in
set_option maxRecDepth 100000 in
theorem w_X1_watcherAt_0 (hx : p.tables.exec = Jvm.exec) (hb : c.code = cX1_watcherAt) (hml : c.maxLocals = 2) (hr : meth.sig.returnType = (some (.object "GlassLog$Watcher"))) (hlk : meth.locks = false) (hown : s.vm.findClass RX1 = some m.cls) (hX : Kx D cA lo tS s) (hRf : 1 ≤ R.frames) (hRl : 60 ≤ R.locals) {N : Nat} {rv : Option Nat} {g1 : Hg} {S : Hs} : ∀ (H : Heap) (locs : List Loc) (ls : Array Slot) (g : Hg) (a0 : Nat) (x1 : Int32), Mm D cA lo S g s H locs → Rf lo S a0 1 → lv_has ls 2 [(0, .ref a0), (1, .int x1)] → b_X1_watcherAt_0 N S g a0 x1 = some (rv, g1) → W p l e R s m args below meth c H locs 0 0 (MQ below (Qcx D cA lo S (some (va_rf rv)) S g1 (Ro lo S rv 10)) args s 0 0 (fun q : Nat => lo ≤ q)) (F0 m 0 ls []) := by
  intro H locs ls g a0 x1 M ra0 hl q
  unfold b_X1_watcherAt_0 at q
  refine lv_iload_n hx hb dX1_watcherAt_0 rfl (lv_at hl 1 rfl) ?_
  refine lv_if_lt (tgt := 31) hx hb dX1_watcherAt_1 (by decide) (fun c_1 => ?_) (fun c_1 => ?_)
  · replace q := if_t c_1 q
    refine lv_null hx hb dX1_watcherAt_31 ?_
    cases q
    exact x_aret (v := none) Ro.none hx hb hr (Or.inl ⟨_, rfl⟩) hlk M Ext.rf dX1_watcherAt_32
  · replace q := if_f c_1 q
    refine lv_iload_n hx hb dX1_watcherAt_4 rfl (lv_at hl 1 rfl) ?_
    refine lv_bipush (v := 8) hx hb dX1_watcherAt_5 (by decide) ?_
    refine lv_icmp_ge (tgt := 31) hx hb dX1_watcherAt_7 (by decide) (fun c_2 => ?_) (fun c_2 => ?_)
    · replace q := if_t c_2 q
      refine lv_null hx hb dX1_watcherAt_31 ?_
      cases q
      exact x_aret (v := none) Ro.none hx hb hr (Or.inl ⟨_, rfl⟩) hlk M Ext.rf dX1_watcherAt_32
    · replace q := if_f c_2 q
      refine lv_aload_n hx hb dX1_watcherAt_10 rfl (lv_at hl 0 rfl) ?_
      replace q := nn_s q
      obtain ⟨a_3, e_a_3, q⟩ := q
      refine x_getR hx hb hown hX M e_a_3 okX1 ra0 (by decide) rfl kw_331 dX1_watcherAt_11 (fun ra_3 => ?_)
      refine lv_iload_n hx hb dX1_watcherAt_14 rfl (lv_at hl 1 rfl) ?_
      replace q := ck_s q
      obtain ⟨hin, q⟩ := q
      replace q := nn_s q
      obtain ⟨a_4, e_a_4, q⟩ := q
      refine x_aaldn26 hx hb hX M ra_3 e_a_4 (inb_in hin) dX1_watcherAt_15 (fun ra_4 => ?_)
      refine x_getI hx hb hown hX M (k := 1) okX10 ra_4 (by decide) rfl kw_295 dX1_watcherAt_16 ?_
      refine lv_if_eq (tgt := 31) hx hb dX1_watcherAt_19 (by decide) (fun c_5 => ?_) (fun c_5 => ?_)
      · replace q := if_t c_5 q
        refine lv_null hx hb dX1_watcherAt_31 ?_
        cases q
        exact x_aret (v := none) Ro.none hx hb hr (Or.inl ⟨_, rfl⟩) hlk M Ext.rf dX1_watcherAt_32
      · replace q := if_f c_5 q
        refine lv_aload_n hx hb dX1_watcherAt_22 rfl (lv_at hl 0 rfl) ?_
        replace q := nn_s q
        obtain ⟨a_6, e_a_6, q⟩ := q
        refine x_getR hx hb hown hX M e_a_6 okX1 ra0 (by decide) rfl kw_331 dX1_watcherAt_23 (fun ra_6 => ?_)
        refine lv_iload_n hx hb dX1_watcherAt_26 rfl (lv_at hl 1 rfl) ?_
        replace q := ck_s q
        obtain ⟨hin, q⟩ := q
        refine x_aald26 hx hb hX M ra_6 (inb_in hin) dX1_watcherAt_27 (fun rf_7 => ?_)
        refine lv_goto (tgt := 32) hx hb dX1_watcherAt_28 (by decide) ?_
        cases q
        exact x_aret (v := _) rf_7 hx hb hr (Or.inl ⟨_, rfl⟩) hlk M Ext.rf dX1_watcherAt_32
set_option maxRecDepth 100000 in
theorem c_X1_watcherAt {l : Launch} {D : va_G} {cA : Nat → ClassId} {lo tS N : Nat} {S : Hs} {g g1 : Hg} {rv : Option Nat} {a0 : Nat} {x1 : Int32} (ra0 : Rf lo S a0 1) (q : f_X1_watcherAt N S g a0 x1 = some (rv, g1)) {d : Nat} (hd : 1 ≤ d) : Ctr l yX1_watcherAt cX1_watcherAt 2 (some (.object "GlassLog$Watcher")) D cA lo tS [.ref a0, .int x1] S g d (some (va_rf rv)) S g1 (Ro lo S rv 10) 0 0 := by
  refine x_met (by decide) (Nat.le_of_ble_eq_true rfl) ?_
  intro p e s m below meth c ls hx hb hml hr hlk hown hnm hX M hl
  exact w_X1_watcherAt_0 hx hb hml hr hlk hown hX hd (Nat.mul_le_mul_left 60 hd) (N := N) _ _ _ _ _ _ M ra0 (lv_sub hl [0, 1] rfl) q
def b_X11_watch_0 (N : Nat) (S : Hs) (g : Hg) (a0 : Nat) (x1 : Int32) : Option (Int32 × Hg) :=
nn (rdR g a0 3) (fun a_1 =>
c2 (f_X1_watcherAt N S g a_1 x1) (fun o_3 g_2 =>
on o_3 (
some ((-1 : Int32), g_2)) (fun a_4 =>
nn (rdR g_2 a0 3) (fun a_5 =>
c2 (f_X1_logAt N S g_2 a_5 (rdI g_2 a_4 2)) (fun o_7 g_6 =>
on o_7 (
some ((-1 : Int32), g_6)) (fun a_8 =>
c2 (f_X10_readOn N S g_6 a_4 a_8) (fun u_10 g_9 =>
nn (rdR g_9 a0 1) (fun a_11 =>
c2 (f_X4_read N S g_9 a_11 a_8 (rdI g_9 a_8 7)) (fun u_13 g_12 =>
nn (rdR g_12 a0 1) (fun a_14 =>
nn (rdR g_12 a_8 0) (fun a_15 =>
c2 (f_X10_unlikeKeys N S g_12 a_4 a_14 (rdI g_12 a_15 3)) (fun x_17 g_16 =>
some (x_17, g_16)))))))))))))
def f_X11_watch (N : Nat) (S : Hs) (g : Hg) (a0 : Nat) (x1 : Int32) : Option (Int32 × Hg) := b_X11_watch_0 N S g a0 x1
set_option maxHeartbeats 4000000 in
set_option maxRecDepth 100000 in
theorem w_X11_watch_0 (hx : p.tables.exec = Jvm.exec) (hb : c.code = cX11_watch) (hml : c.maxLocals = 4) (hr : meth.sig.returnType = (some .int)) (hlk : meth.locks = false) (hown : s.vm.findClass RX11 = some m.cls) (hX : Kx D cA lo tS s) (hRf : 4 ≤ R.frames) (hRl : 240 ≤ R.locals) {N : Nat} {rv : Int32} {g1 : Hg} {S : Hs} : ∀ (H : Heap) (locs : List Loc) (ls : Array Slot) (g : Hg) (a0 : Nat) (x1 : Int32), Mm D cA lo S g s H locs → Rf lo S a0 11 → lv_has ls 4 [(0, .ref a0), (1, .int x1)] → b_X11_watch_0 N S g a0 x1 = some (rv, g1) → W p l e R s m args below meth c H locs 0 0 (MQ below (Qcx D cA lo S (some (.int rv)) S g1 True) args s 0 0 (fun q : Nat => lo ≤ q)) (F0 m 0 ls []) := by
  intro H locs ls g a0 x1 M ra0 hl q
  unfold b_X11_watch_0 at q
  refine lv_aload_n hx hb dX11_watch_0 rfl (lv_at hl 0 rfl) ?_
  replace q := nn_s q
  obtain ⟨a_1, e_a_1, q⟩ := q
  refine x_getR hx hb hown hX M e_a_1 okX11 ra0 (by decide) rfl kw_359 dX11_watch_1 (fun ra_1 => ?_)
  refine lv_iload_n hx hb dX11_watch_4 rfl (lv_at hl 1 rfl) ?_
  replace q := c2_s q
  obtain ⟨o_3, g_2, qc, q⟩ := q
  refine x_callV hx hb hml hl.1 hown hX M (S1 := S) (As := [.int x1]) (rest := []) okX1 ra_1 rfl kw_938 kw_939 mok_X1_watcherAt (c_X1_watcherAt ra_1 qc (Nat.le_refl 1)) kw_937 rfl rfl dX11_watch_5 (Nat.le_of_ble_eq_true rfl) ⟨Nat.le_trans (by decide) hRf, Nat.le_trans (by decide) hRl⟩ (Nat.zero_le _) (Nat.zero_le _) (fun H locs M hEF => ?_)
  have ro_3 := hEF.2
  refine x_astore_n (lv' := [(2, va_rf o_3), (0, .ref a0), (1, .int x1)]) hx hb dX11_watch_8 rfl hl (by decide) rfl (fun ls hl => ?_)
  refine x_aload_n hx hb dX11_watch_9 rfl (lv_at hl 0 rfl) ?_
  refine x_ifnonnull (tgt := 15) hx hb dX11_watch_10 (by decide) (fun a_4 c_19 => ?_) (fun c_19 => ?_)
  · subst c_19
    replace q := on_s rfl q
    have ra_4 := ro_3 a_4 rfl
    have hl : lv_has ls 4 [(2, .ref a_4), (0, .ref a0), (1, .int x1)] := hl
    refine lv_aload_n hx hb dX11_watch_15 rfl (lv_at hl 1 rfl) ?_
    replace q := nn_s q
    obtain ⟨a_5, e_a_5, q⟩ := q
    refine x_getR hx hb hown hX M e_a_5 okX11 ra0 (by decide) rfl kw_359 dX11_watch_16 (fun ra_5 => ?_)
    refine lv_aload_n hx hb dX11_watch_19 rfl (lv_at hl 0 rfl) ?_
    refine x_getI hx hb hown hX M (k := 2) okX10 ra_4 (by decide) rfl kw_297 dX11_watch_20 ?_
    replace q := c2_s q
    obtain ⟨o_7, g_6, qc, q⟩ := q
    refine x_callV hx hb hml hl.1 hown hX M (S1 := S) (As := [.int (rdI g_2 a_4 2)]) (rest := []) okX1 ra_5 rfl kw_495 kw_496 mok_X1_logAt (c_X1_logAt ra_5 qc (Nat.le_refl 1)) kw_494 rfl rfl dX11_watch_23 (Nat.le_of_ble_eq_true rfl) ⟨Nat.le_trans (by decide) hRf, Nat.le_trans (by decide) hRl⟩ (Nat.zero_le _) (Nat.zero_le _) (fun H locs M hEF => ?_)
    have ro_7 := hEF.2
    refine x_astore_n (lv' := [(3, va_rf o_7), (2, .ref a_4), (0, .ref a0), (1, .int x1)]) hx hb dX11_watch_26 rfl hl (by decide) rfl (fun ls hl => ?_)
    refine x_aload_n hx hb dX11_watch_27 rfl (lv_at hl 0 rfl) ?_
    refine x_ifnonnull (tgt := 33) hx hb dX11_watch_28 (by decide) (fun a_8 c_18 => ?_) (fun c_18 => ?_)
    · subst c_18
      replace q := on_s rfl q
      have ra_8 := ro_7 a_8 rfl
      have hl : lv_has ls 4 [(3, .ref a_8), (2, .ref a_4), (0, .ref a0), (1, .int x1)] := hl
      refine lv_aload_n hx hb dX11_watch_33 rfl (lv_at hl 1 rfl) ?_
      refine lv_aload_n hx hb dX11_watch_34 rfl (lv_at hl 0 rfl) ?_
      replace q := c2_s q
      obtain ⟨u_10, g_9, qc, q⟩ := q
      refine x_callV hx hb hml hl.1 hown hX M (S1 := S) (As := [.ref a_8]) (rest := []) okX10 ra_4 rfl kw_942 kw_943 mok_X10_readOn (c_X10_readOn ra_4 ra_8 qc (Nat.le_refl 3)) kw_941 rfl rfl dX11_watch_35 (Nat.le_of_ble_eq_true rfl) ⟨Nat.le_trans (by decide) hRf, Nat.le_trans (by decide) hRl⟩ (Nat.zero_le _) (Nat.zero_le _) (fun H locs M hEF => ?_)
      refine lv_aload_n hx hb dX11_watch_38 rfl (lv_at hl 2 rfl) ?_
      replace q := nn_s q
      obtain ⟨a_11, e_a_11, q⟩ := q
      refine x_getR hx hb hown hX M e_a_11 okX11 ra0 (by decide) rfl kw_357 dX11_watch_39 (fun ra_11 => ?_)
      refine lv_aload_n hx hb dX11_watch_42 rfl (lv_at hl 0 rfl) ?_
      refine lv_aload_n hx hb dX11_watch_43 rfl (lv_at hl 0 rfl) ?_
      refine x_getI hx hb hown hX M (k := 7) okX3 ra_8 (by decide) rfl kw_459 dX11_watch_44 ?_
      replace q := c2_s q
      obtain ⟨u_13, g_12, qc, q⟩ := q
      refine x_callV hx hb hml hl.1 hown hX M (S1 := S) (As := [.ref a_8, .int (rdI g_9 a_8 7)]) (rest := []) okX4 ra_11 rfl kw_615 kw_616 mok_X4_read (c_X4_read ra_11 ra_8 qc (Nat.le_refl 3)) kw_614 rfl rfl dX11_watch_47 (Nat.le_of_ble_eq_true rfl) ⟨Nat.le_trans (by decide) hRf, Nat.le_trans (by decide) hRl⟩ (Nat.zero_le _) (Nat.zero_le _) (fun H locs M hEF => ?_)
      refine lv_aload_n hx hb dX11_watch_50 rfl (lv_at hl 1 rfl) ?_
      refine lv_aload_n hx hb dX11_watch_51 rfl (lv_at hl 2 rfl) ?_
      replace q := nn_s q
      obtain ⟨a_14, e_a_14, q⟩ := q
      refine x_getR hx hb hown hX M e_a_14 okX11 ra0 (by decide) rfl kw_357 dX11_watch_52 (fun ra_14 => ?_)
      refine lv_aload_n hx hb dX11_watch_55 rfl (lv_at hl 0 rfl) ?_
      replace q := nn_s q
      obtain ⟨a_15, e_a_15, q⟩ := q
      refine x_getR hx hb hown hX M e_a_15 okX3 ra_8 (by decide) rfl kw_443 dX11_watch_56 (fun ra_15 => ?_)
      refine x_getI hx hb hown hX M (k := 3) okX2 ra_15 (by decide) rfl kw_405 dX11_watch_59 ?_
      replace q := c2_s q
      obtain ⟨x_17, g_16, qc, q⟩ := q
      refine x_callV hx hb hml hl.1 hown hX M (S1 := S) (As := [.ref a_14, .int (rdI g_12 a_15 3)]) (rest := []) okX10 ra_4 rfl kw_952 kw_953 mok_X10_unlikeKeys (c_X10_unlikeKeys ra_4 ra_14 qc (Nat.le_refl 2)) kw_951 rfl rfl dX11_watch_62 (Nat.le_of_ble_eq_true rfl) ⟨Nat.le_trans (by decide) hRf, Nat.le_trans (by decide) hRl⟩ (Nat.zero_le _) (Nat.zero_le _) (fun H locs M hEF => ?_)
      cases q
      exact x_iret hx hb hr hlk M Ext.rf dX11_watch_65
    · replace q := on_n c_18 q
      refine lv_iconst (v := -1) hx hb dX11_watch_31 (by decide) ?_
      cases q
      exact x_iret hx hb hr hlk M Ext.rf dX11_watch_32
  · replace q := on_n c_19 q
    refine lv_iconst (v := -1) hx hb dX11_watch_13 (by decide) ?_
    cases q
    exact x_iret hx hb hr hlk M Ext.rf dX11_watch_14
set_option maxRecDepth 100000 in
theorem c_X11_watch {l : Launch} {D : va_G} {cA : Nat → ClassId} {lo tS N : Nat} {S : Hs} {g g1 : Hg} {rv : Int32} {a0 : Nat} {x1 : Int32} (ra0 : Rf lo S a0 11) (q : f_X11_watch N S g a0 x1 = some (rv, g1)) {d : Nat} (hd : 4 ≤ d) : Ctr l yX11_watch cX11_watch 4 (some .int) D cA lo tS [.ref a0, .int x1] S g d (some (.int rv)) S g1 True 0 0 := by
  refine x_met (by decide) (Nat.le_of_ble_eq_true rfl) ?_
  intro p e s m below meth c ls hx hb hml hr hlk hown hnm hX M hl
  exact w_X11_watch_0 hx hb hml hr hlk hown hX hd (Nat.mul_le_mul_left 60 hd) (N := N) _ _ _ _ _ _ M ra0 (lv_sub hl [0, 1] rfl) q
def b_X10_begin_0 (N : Nat) (S : Hs) (g : Hg) (a0 : Nat) (x1 : Int32) (x2 : Int32) (x3 : Int32) : Option (Unit × Hg) :=
nm (wrI g a0 1 (1 : Int32)) (fun g_1 =>
nm (wrI g_1 a0 2 x1) (fun g_2 =>
nm (wrI g_2 a0 5 x2) (fun g_3 =>
nm (wrI g_3 a0 6 x3) (fun g_4 =>
nm (wrI g_4 a0 3 (0 : Int32)) (fun g_5 =>
nm (wrI g_5 a0 4 (0 : Int32)) (fun g_6 =>
nn (rdR g_6 a0 0) (fun a_7 =>
c2 (f_J7_fill_53178 N S g_6 a_7 (-1 : Int32)) (fun u_9 g_8 =>
some ((), g_8)))))))))
def f_X10_begin (N : Nat) (S : Hs) (g : Hg) (a0 : Nat) (x1 : Int32) (x2 : Int32) (x3 : Int32) : Option (Unit × Hg) := b_X10_begin_0 N S g a0 x1 x2 x3
set_option maxHeartbeats 4000000 in
set_option maxRecDepth 100000 in
theorem w_X10_begin_0 (hx : p.tables.exec = Jvm.exec) (hb : c.code = cX10_begin) (hml : c.maxLocals = 4) (hr : meth.sig.returnType = none) (hlk : meth.locks = false) (hown : s.vm.findClass RX10 = some m.cls) (hX : Kx D cA lo tS s) (hRf : 2 ≤ R.frames) (hRl : 120 ≤ R.locals) {N : Nat} {rv : Unit} {g1 : Hg} {S : Hs} : ∀ (H : Heap) (locs : List Loc) (ls : Array Slot) (g : Hg) (a0 : Nat) (x1 : Int32) (x2 : Int32) (x3 : Int32), Mm D cA lo S g s H locs → Rf lo S a0 10 → lv_has ls 4 [(0, .ref a0), (1, .int x1), (2, .int x2), (3, .int x3)] → b_X10_begin_0 N S g a0 x1 x2 x3 = some (rv, g1) → W p l e R s m args below meth c H locs 0 0 (MQ below (Qcx D cA lo S none S g1 True) args s 0 0 (fun q : Nat => lo ≤ q)) (F0 m 0 ls []) := by
  intro H locs ls g a0 x1 x2 x3 M ra0 hl q
  unfold b_X10_begin_0 at q
  refine lv_aload_n hx hb dX10_begin_0 rfl (lv_at hl 0 rfl) ?_
  refine lv_iconst (v := 1) hx hb dX10_begin_1 (by decide) ?_
  refine x_putI hx hb hown hX M (k := 1) okX10 ra0 (by decide) rfl (Or.inl rfl) rfl rfl kw_294 dX10_begin_2 (fun H locs M => ?_)
  replace q := gen_g M q
  obtain ⟨g_1, -, M, q⟩ := q
  refine lv_aload_n hx hb dX10_begin_5 rfl (lv_at hl 0 rfl) ?_
  refine lv_iload_n hx hb dX10_begin_6 rfl (lv_at hl 1 rfl) ?_
  refine x_putI hx hb hown hX M (k := 2) okX10 ra0 (by decide) rfl (Or.inl rfl) rfl rfl kw_296 dX10_begin_7 (fun H locs M => ?_)
  replace q := gen_g M q
  obtain ⟨g_2, -, M, q⟩ := q
  refine lv_aload_n hx hb dX10_begin_10 rfl (lv_at hl 0 rfl) ?_
  refine lv_iload_n hx hb dX10_begin_11 rfl (lv_at hl 2 rfl) ?_
  refine x_putI hx hb hown hX M (k := 5) okX10 ra0 (by decide) rfl (Or.inl rfl) rfl rfl kw_302 dX10_begin_12 (fun H locs M => ?_)
  replace q := gen_g M q
  obtain ⟨g_3, -, M, q⟩ := q
  refine lv_aload_n hx hb dX10_begin_15 rfl (lv_at hl 0 rfl) ?_
  refine lv_iload_n hx hb dX10_begin_16 rfl (lv_at hl 3 rfl) ?_
  refine x_putI hx hb hown hX M (k := 6) okX10 ra0 (by decide) rfl (Or.inl rfl) rfl rfl kw_303 dX10_begin_17 (fun H locs M => ?_)
  replace q := gen_g M q
  obtain ⟨g_4, -, M, q⟩ := q
  refine lv_aload_n hx hb dX10_begin_20 rfl (lv_at hl 0 rfl) ?_
  refine lv_iconst (v := 0) hx hb dX10_begin_21 (by decide) ?_
  refine x_putI hx hb hown hX M (k := 3) okX10 ra0 (by decide) rfl (Or.inl rfl) rfl rfl kw_298 dX10_begin_22 (fun H locs M => ?_)
  replace q := gen_g M q
  obtain ⟨g_5, -, M, q⟩ := q
  refine lv_aload_n hx hb dX10_begin_25 rfl (lv_at hl 0 rfl) ?_
  refine lv_iconst (v := 0) hx hb dX10_begin_26 (by decide) ?_
  refine x_putI hx hb hown hX M (k := 4) okX10 ra0 (by decide) rfl (Or.inl rfl) rfl rfl kw_300 dX10_begin_27 (fun H locs M => ?_)
  replace q := gen_g M q
  obtain ⟨g_6, -, M, q⟩ := q
  refine lv_aload_n hx hb dX10_begin_30 rfl (lv_at hl 0 rfl) ?_
  replace q := nn_s q
  obtain ⟨a_7, e_a_7, q⟩ := q
  refine x_getR hx hb hown hX M e_a_7 okX10 ra0 (by decide) rfl kw_293 dX10_begin_31 (fun ra_7 => ?_)
  refine lv_iconst (v := -1) hx hb dX10_begin_34 (by decide) ?_
  replace q := c2_s q
  obtain ⟨u_9, g_8, qc, q⟩ := q
  refine x_callS hx hb hml hl.1 hown hX M (S1 := S) (As := [.ref a_7, .int (-1 : Int32)]) (rest := []) kw_931 mok_J7_fill_53178 (c_J7_fill_53178 ra_7 qc (Nat.le_refl 1)) kw_930 rfl rfl dX10_begin_35 (Nat.le_of_ble_eq_true rfl) ⟨Nat.le_trans (by decide) hRf, Nat.le_trans (by decide) hRl⟩ (Nat.zero_le _) (Nat.zero_le _) (fun H locs M hEF => ?_)
  cases q
  exact x_vret hx hb hr hlk M Ext.rf dX10_begin_38
set_option maxRecDepth 100000 in
theorem c_X10_begin {l : Launch} {D : va_G} {cA : Nat → ClassId} {lo tS N : Nat} {S : Hs} {g g1 : Hg} {rv : Unit} {a0 : Nat} {x1 : Int32} {x2 : Int32} {x3 : Int32} (ra0 : Rf lo S a0 10) (q : f_X10_begin N S g a0 x1 x2 x3 = some (rv, g1)) {d : Nat} (hd : 2 ≤ d) : Ctr l yX10_begin cX10_begin 4 none D cA lo tS [.ref a0, .int x1, .int x2, .int x3] S g d none S g1 True 0 0 := by
  refine x_met (by decide) (Nat.le_of_ble_eq_true rfl) ?_
  intro p e s m below meth c ls hx hb hml hr hlk hown hnm hX M hl
  exact w_X10_begin_0 hx hb hml hr hlk hown hX hd (Nat.mul_le_mul_left 60 hd) (N := N) _ _ _ _ _ _ _ _ M ra0 (lv_sub hl [0, 1, 2, 3] rfl) q
def b_X11_watcher_0 (N : Nat) (S : Hs) (g : Hg) (a0 : Nat) (x1 : Int32) (x2 : Int32) (x3 : Int32) (x4 : Int32) : Option (Int32 × Hg) :=
if x1 < 0 then (
some ((0 : Int32), g)) else (
if (8 : Int32) ≤ x1 then (
some ((0 : Int32), g)) else (
nn (rdR g a0 3) (fun a_3 =>
c2 (f_X1_logAt N S g a_3 x2) (fun o_5 g_4 =>
on o_5 (
some ((0 : Int32), g_4)) (fun a_6 =>
nn (rdR g_4 a0 3) (fun a_7 =>
nn (rdR g_4 a_7 8) (fun a_8 =>
ck (inb x1 (hpL S a_8)) (
nn (rdR g_4 a_8 x1.toNatClampNeg) (fun a_9 =>
c2 (f_X10_begin N S g_4 a_9 x2 x3 x4) (fun u_11 g_10 =>
some ((1 : Int32), g_10)))))))))))
def f_X11_watcher (N : Nat) (S : Hs) (g : Hg) (a0 : Nat) (x1 : Int32) (x2 : Int32) (x3 : Int32) (x4 : Int32) : Option (Int32 × Hg) := b_X11_watcher_0 N S g a0 x1 x2 x3 x4
set_option maxHeartbeats 4000000 in
set_option maxRecDepth 100000 in
theorem w_X11_watcher_0 (hx : p.tables.exec = Jvm.exec) (hb : c.code = cX11_watcher) (hml : c.maxLocals = 5) (hr : meth.sig.returnType = (some .boolean)) (hlk : meth.locks = false) (hown : s.vm.findClass RX11 = some m.cls) (hX : Kx D cA lo tS s) (hRf : 3 ≤ R.frames) (hRl : 180 ≤ R.locals) {N : Nat} {rv : Int32} {g1 : Hg} {S : Hs} : ∀ (H : Heap) (locs : List Loc) (ls : Array Slot) (g : Hg) (a0 : Nat) (x1 : Int32) (x2 : Int32) (x3 : Int32) (x4 : Int32), Mm D cA lo S g s H locs → Rf lo S a0 11 → lv_has ls 5 [(0, .ref a0), (1, .int x1), (2, .int x2), (3, .int x3), (4, .int x4)] → b_X11_watcher_0 N S g a0 x1 x2 x3 x4 = some (rv, g1) → W p l e R s m args below meth c H locs 0 0 (MQ below (Qcx D cA lo S (some (.int rv)) S g1 True) args s 0 0 (fun q : Nat => lo ≤ q)) (F0 m 0 ls []) := by
  intro H locs ls g a0 x1 x2 x3 x4 M ra0 hl q
  unfold b_X11_watcher_0 at q
  refine lv_iload_n hx hb dX11_watcher_0 rfl (lv_at hl 1 rfl) ?_
  refine lv_if_lt (tgt := 21) hx hb dX11_watcher_1 (by decide) (fun c_1 => ?_) (fun c_1 => ?_)
  · replace q := if_t c_1 q
    refine lv_iconst (v := 0) hx hb dX11_watcher_21 (by decide) ?_
    cases q
    exact x_zret hx hb hr hlk rfl M Ext.rf dX11_watcher_22
  · replace q := if_f c_1 q
    refine lv_iload_n hx hb dX11_watcher_4 rfl (lv_at hl 1 rfl) ?_
    refine lv_bipush (v := 8) hx hb dX11_watcher_5 (by decide) ?_
    refine lv_icmp_ge (tgt := 21) hx hb dX11_watcher_7 (by decide) (fun c_2 => ?_) (fun c_2 => ?_)
    · replace q := if_t c_2 q
      refine lv_iconst (v := 0) hx hb dX11_watcher_21 (by decide) ?_
      cases q
      exact x_zret hx hb hr hlk rfl M Ext.rf dX11_watcher_22
    · replace q := if_f c_2 q
      refine lv_aload_n hx hb dX11_watcher_10 rfl (lv_at hl 0 rfl) ?_
      replace q := nn_s q
      obtain ⟨a_3, e_a_3, q⟩ := q
      refine x_getR hx hb hown hX M e_a_3 okX11 ra0 (by decide) rfl kw_359 dX11_watcher_11 (fun ra_3 => ?_)
      refine lv_iload_n hx hb dX11_watcher_14 rfl (lv_at hl 2 rfl) ?_
      replace q := c2_s q
      obtain ⟨o_5, g_4, qc, q⟩ := q
      refine x_callV hx hb hml hl.1 hown hX M (S1 := S) (As := [.int x2]) (rest := []) okX1 ra_3 rfl kw_495 kw_496 mok_X1_logAt (c_X1_logAt ra_3 qc (Nat.le_refl 1)) kw_494 rfl rfl dX11_watcher_15 (Nat.le_of_ble_eq_true rfl) ⟨Nat.le_trans (by decide) hRf, Nat.le_trans (by decide) hRl⟩ (Nat.zero_le _) (Nat.zero_le _) (fun H locs M hEF => ?_)
      have ro_5 := hEF.2
      refine x_ifnonnull (tgt := 23) hx hb dX11_watcher_18 (by decide) (fun a_6 c_12 => ?_) (fun c_12 => ?_)
      · subst c_12
        replace q := on_s rfl q
        have ra_6 := ro_5 a_6 rfl
        have hl : lv_has ls 5 [(0, .ref a0), (1, .int x1), (2, .int x2), (3, .int x3), (4, .int x4)] := hl
        refine lv_aload_n hx hb dX11_watcher_23 rfl (lv_at hl 0 rfl) ?_
        replace q := nn_s q
        obtain ⟨a_7, e_a_7, q⟩ := q
        refine x_getR hx hb hown hX M e_a_7 okX11 ra0 (by decide) rfl kw_359 dX11_watcher_24 (fun ra_7 => ?_)
        replace q := nn_s q
        obtain ⟨a_8, e_a_8, q⟩ := q
        refine x_getR hx hb hown hX M e_a_8 okX1 ra_7 (by decide) rfl kw_332 dX11_watcher_27 (fun ra_8 => ?_)
        refine lv_iload_n hx hb dX11_watcher_30 rfl (lv_at hl 1 rfl) ?_
        replace q := ck_s q
        obtain ⟨hin, q⟩ := q
        replace q := nn_s q
        obtain ⟨a_9, e_a_9, q⟩ := q
        refine x_aaldn26 hx hb hX M ra_8 e_a_9 (inb_in hin) dX11_watcher_31 (fun ra_9 => ?_)
        refine lv_iload_n hx hb dX11_watcher_32 rfl (lv_at hl 2 rfl) ?_
        refine lv_iload_n hx hb dX11_watcher_33 rfl (lv_at hl 3 rfl) ?_
        refine lv_iload hx hb dX11_watcher_34 (lv_at hl 4 rfl) ?_
        replace q := c2_s q
        obtain ⟨u_11, g_10, qc, q⟩ := q
        refine x_callV hx hb hml hl.1 hown hX M (S1 := S) (As := [.int x2, .int x3, .int x4]) (rest := []) okX10 ra_9 rfl kw_927 kw_928 mok_X10_begin (c_X10_begin ra_9 qc (Nat.le_refl 2)) kw_926 rfl rfl dX11_watcher_36 (Nat.le_of_ble_eq_true rfl) ⟨Nat.le_trans (by decide) hRf, Nat.le_trans (by decide) hRl⟩ (Nat.zero_le _) (Nat.zero_le _) (fun H locs M hEF => ?_)
        refine lv_iconst (v := 1) hx hb dX11_watcher_39 (by decide) ?_
        cases q
        exact x_zret hx hb hr hlk rfl M Ext.rf dX11_watcher_40
      · replace q := on_n c_12 q
        refine lv_iconst (v := 0) hx hb dX11_watcher_21 (by decide) ?_
        cases q
        exact x_zret hx hb hr hlk rfl M Ext.rf dX11_watcher_22
set_option maxRecDepth 100000 in
theorem c_X11_watcher {l : Launch} {D : va_G} {cA : Nat → ClassId} {lo tS N : Nat} {S : Hs} {g g1 : Hg} {rv : Int32} {a0 : Nat} {x1 : Int32} {x2 : Int32} {x3 : Int32} {x4 : Int32} (ra0 : Rf lo S a0 11) (q : f_X11_watcher N S g a0 x1 x2 x3 x4 = some (rv, g1)) {d : Nat} (hd : 3 ≤ d) : Ctr l yX11_watcher cX11_watcher 5 (some .boolean) D cA lo tS [.ref a0, .int x1, .int x2, .int x3, .int x4] S g d (some (.int rv)) S g1 True 0 0 := by
  refine x_met (by decide) (Nat.le_of_ble_eq_true rfl) ?_
  intro p e s m below meth c ls hx hb hml hr hlk hown hnm hX M hl
  exact w_X11_watcher_0 hx hb hml hr hlk hown hX hd (Nat.mul_le_mul_left 60 hd) (N := N) _ _ _ _ _ _ _ _ _ M ra0 (lv_sub hl [0, 1, 2, 3, 4] rfl) q
def b_X11_watching_0 (N : Nat) (S : Hs) (g : Hg) (a0 : Nat) (x1 : Int32) (x2 : Int32) : Option (Int32 × Hg) :=
nn (rdR g a0 3) (fun a_1 =>
c2 (f_X1_watcherAt N S g a_1 x1) (fun o_3 g_2 =>
on o_3 (
some ((-1 : Int32), g_2)) (fun a_4 =>
nm x2 (fun x_5 =>
if x_5 = 0 then (
some ((rdI g_2 a_4 3), g_2)) else (
if x_5 = 1 then (
some ((rdI g_2 a_4 4), g_2)) else (
if x_5 = 2 then (
some ((rdI g_2 a_4 2), g_2)) else (
some ((-1 : Int32), g_2))))))))
def f_X11_watching (N : Nat) (S : Hs) (g : Hg) (a0 : Nat) (x1 : Int32) (x2 : Int32) : Option (Int32 × Hg) := b_X11_watching_0 N S g a0 x1 x2
set_option maxHeartbeats 4000000 in
set_option maxRecDepth 100000 in
theorem w_X11_watching_0 (hx : p.tables.exec = Jvm.exec) (hb : c.code = cX11_watching) (hml : c.maxLocals = 4) (hr : meth.sig.returnType = (some .int)) (hlk : meth.locks = false) (hown : s.vm.findClass RX11 = some m.cls) (hX : Kx D cA lo tS s) (hRf : 2 ≤ R.frames) (hRl : 120 ≤ R.locals) {N : Nat} {rv : Int32} {g1 : Hg} {S : Hs} : ∀ (H : Heap) (locs : List Loc) (ls : Array Slot) (g : Hg) (a0 : Nat) (x1 : Int32) (x2 : Int32), Mm D cA lo S g s H locs → Rf lo S a0 11 → lv_has ls 4 [(0, .ref a0), (1, .int x1), (2, .int x2)] → b_X11_watching_0 N S g a0 x1 x2 = some (rv, g1) → W p l e R s m args below meth c H locs 0 0 (MQ below (Qcx D cA lo S (some (.int rv)) S g1 True) args s 0 0 (fun q : Nat => lo ≤ q)) (F0 m 0 ls []) := by
  intro H locs ls g a0 x1 x2 M ra0 hl q
  unfold b_X11_watching_0 at q
  refine lv_aload_n hx hb dX11_watching_0 rfl (lv_at hl 0 rfl) ?_
  replace q := nn_s q
  obtain ⟨a_1, e_a_1, q⟩ := q
  refine x_getR hx hb hown hX M e_a_1 okX11 ra0 (by decide) rfl kw_359 dX11_watching_1 (fun ra_1 => ?_)
  refine lv_iload_n hx hb dX11_watching_4 rfl (lv_at hl 1 rfl) ?_
  replace q := c2_s q
  obtain ⟨o_3, g_2, qc, q⟩ := q
  refine x_callV hx hb hml hl.1 hown hX M (S1 := S) (As := [.int x1]) (rest := []) okX1 ra_1 rfl kw_938 kw_939 mok_X1_watcherAt (c_X1_watcherAt ra_1 qc (Nat.le_refl 1)) kw_937 rfl rfl dX11_watching_5 (Nat.le_of_ble_eq_true rfl) ⟨Nat.le_trans (by decide) hRf, Nat.le_trans (by decide) hRl⟩ (Nat.zero_le _) (Nat.zero_le _) (fun H locs M hEF => ?_)
  have ro_3 := hEF.2
  refine x_astore_n (lv' := [(3, va_rf o_3), (0, .ref a0), (1, .int x1), (2, .int x2)]) hx hb dX11_watching_8 rfl hl (by decide) rfl (fun ls hl => ?_)
  refine x_aload_n hx hb dX11_watching_9 rfl (lv_at hl 0 rfl) ?_
  refine x_ifnonnull (tgt := 15) hx hb dX11_watching_10 (by decide) (fun a_4 c_6 => ?_) (fun c_6 => ?_)
  · subst c_6
    replace q := on_s rfl q
    have ra_4 := ro_3 a_4 rfl
    have hl : lv_has ls 4 [(3, .ref a_4), (0, .ref a0), (1, .int x1), (2, .int x2)] := hl
    refine lv_iload_n hx hb dX11_watching_15 rfl (lv_at hl 3 rfl) ?_
    refine lv_topi (fun x_5 e_x_5 => ?_)
    replace q := nm_s q e_x_5
    clear e_x_5
    by_cases cx_5_0 : x_5 = 0
    · replace q := if_t cx_5_0 q
      subst cx_5_0
      refine lv_tableIn (off := 28) (tgt := 44) hx hb dX11_watching_16 (by decide) (by decide) (by decide) (by decide) ?_
      refine lv_aload_n hx hb dX11_watching_44 rfl (lv_at hl 0 rfl) ?_
      refine x_getI hx hb hown hX M (k := 3) okX10 ra_4 (by decide) rfl kw_299 dX11_watching_45 ?_
      cases q
      exact x_iret hx hb hr hlk M Ext.rf dX11_watching_48
    replace q := if_f cx_5_0 q
    by_cases cx_5_1 : x_5 = 1
    · replace q := if_t cx_5_1 q
      subst cx_5_1
      refine lv_tableIn (off := 33) (tgt := 49) hx hb dX11_watching_16 (by decide) (by decide) (by decide) (by decide) ?_
      refine lv_aload_n hx hb dX11_watching_49 rfl (lv_at hl 0 rfl) ?_
      refine x_getI hx hb hown hX M (k := 4) okX10 ra_4 (by decide) rfl kw_301 dX11_watching_50 ?_
      cases q
      exact x_iret hx hb hr hlk M Ext.rf dX11_watching_53
    replace q := if_f cx_5_1 q
    by_cases cx_5_2 : x_5 = 2
    · replace q := if_t cx_5_2 q
      subst cx_5_2
      refine lv_tableIn (off := 38) (tgt := 54) hx hb dX11_watching_16 (by decide) (by decide) (by decide) (by decide) ?_
      refine lv_aload_n hx hb dX11_watching_54 rfl (lv_at hl 0 rfl) ?_
      refine x_getI hx hb hown hX M (k := 2) okX10 ra_4 (by decide) rfl kw_297 dX11_watching_55 ?_
      cases q
      exact x_iret hx hb hr hlk M Ext.rf dX11_watching_58
    replace q := if_f cx_5_2 q
    refine lv_tableOut (tgt := 59) hx hb dX11_watching_16 (sw_def (fun z h1 h2 => ?_)) (by decide) ?_
    · have hz : z = 0 ∨ z = 1 ∨ z = 2 := by omega
      rcases hz with rfl | rfl | rfl
      · exact cx_5_0
      · exact cx_5_1
      · exact cx_5_2
    · refine lv_iconst (v := -1) hx hb dX11_watching_59 (by decide) ?_
      cases q
      exact x_iret hx hb hr hlk M Ext.rf dX11_watching_60
  · replace q := on_n c_6 q
    refine lv_iconst (v := -1) hx hb dX11_watching_13 (by decide) ?_
    cases q
    exact x_iret hx hb hr hlk M Ext.rf dX11_watching_14
set_option maxRecDepth 100000 in
theorem c_X11_watching {l : Launch} {D : va_G} {cA : Nat → ClassId} {lo tS N : Nat} {S : Hs} {g g1 : Hg} {rv : Int32} {a0 : Nat} {x1 : Int32} {x2 : Int32} (ra0 : Rf lo S a0 11) (q : f_X11_watching N S g a0 x1 x2 = some (rv, g1)) {d : Nat} (hd : 2 ≤ d) : Ctr l yX11_watching cX11_watching 4 (some .int) D cA lo tS [.ref a0, .int x1, .int x2] S g d (some (.int rv)) S g1 True 0 0 := by
  refine x_met (by decide) (Nat.le_of_ble_eq_true rfl) ?_
  intro p e s m below meth c ls hx hb hml hr hlk hown hnm hX M hl
  exact w_X11_watching_0 hx hb hml hr hlk hown hX hd (Nat.mul_le_mul_left 60 hd) (N := N) _ _ _ _ _ _ _ M ra0 (lv_sub hl [0, 1, 2] rfl) q
def b_X11_within_0 (N : Nat) (S : Hs) (g : Hg) (a0 : Nat) (x1 : Int32) (x2 : Int32) (x3 : Int32) (x4 : Int32) : Option (Int32 × Hs × Hg × Nat × Nat) :=
nn (rdR g a0 3) (fun a_1 =>
c2 (f_X1_slotAt N S g a_1 x1) (fun o_3 g_2 =>
nn (rdR g_2 a0 3) (fun a_4 =>
c2 (f_X1_logAt N S g_2 a_4 x2) (fun o_6 g_5 =>
on o_3 (
some ((-1 : Int32), S, g_5, 0, 0)) (fun a_7 =>
on o_6 (
some ((-1 : Int32), S, g_5, 0, 0)) (fun a_8 =>
c2 (f_X3_reaches N S g_5 a_8 x3) (fun x_10 g_9 =>
if x_10 = 0 then (
some ((-1 : Int32), S, g_9, 0, 0)) else (
if x3 ≤ x4 then (
some ((-1 : Int32), S, g_9, 0, 0)) else (
c2 (f_X3_shows N S g_9 a_8 x4) (fun x_14 g_13 =>
if x_14 = 0 then (
some ((-1 : Int32), S, g_13, 0, 0)) else (
c2 (f_X7_begin N S g_13 a_7 (1 : Int32) x3 x4) (fun u_17 g_16 =>
c5 (f_X3_showEntries N S g_16 a_8 a_7 x3 x4 (x4 + (1 : Int32))) (fun u_19 S_20 g_18 =>
some ((rdI g_18 a_7 4), S_20, g_18, 0, 0))))))))))))))
def f_X11_within (N : Nat) (S : Hs) (g : Hg) (a0 : Nat) (x1 : Int32) (x2 : Int32) (x3 : Int32) (x4 : Int32) : Option (Int32 × Hs × Hg × Nat × Nat) := b_X11_within_0 N S g a0 x1 x2 x3 x4
set_option maxHeartbeats 4000000 in
set_option maxRecDepth 100000 in
theorem w_X11_within_0 (hx : p.tables.exec = Jvm.exec) (hb : c.code = cX11_within) (hml : c.maxLocals = 7) (hr : meth.sig.returnType = (some .int)) (hlk : meth.locks = false) (hown : s.vm.findClass RX11 = some m.cls) (hX : Kx D cA lo tS s) (hRf : 6 ≤ R.frames) (hRl : 360 ≤ R.locals) {N : Nat} {rv : Int32} {g1 : Hg} {S0 S1 : Hs} {cT wT : Nat} (hRc : cT ≤ R.cells) (hRs : wT ≤ R.slots) : ∀ (H : Heap) (locs : List Loc) (ls : Array Slot) (cells slots k w : Nat) (S : Hs) (g : Hg) (a0 : Nat) (x1 : Int32) (x2 : Int32) (x3 : Int32) (x4 : Int32), Mm D cA lo S g s H locs → Ext lo S0 S → Rf lo S a0 11 → lv_has ls 7 [(0, .ref a0), (1, .int x1), (2, .int x2), (3, .int x3), (4, .int x4)] → b_X11_within_0 N S g a0 x1 x2 x3 x4 = some (rv, S1, g1, k, w) → cells + k = cT → slots + w = wT → W p l e R s m args below meth c H locs cells slots (MQ below (Qcx D cA lo S0 (some (.int rv)) S1 g1 True) args s cT wT (fun q : Nat => lo ≤ q)) (F0 m 0 ls []) := by
  intro H locs ls cells slots k w S g a0 x1 x2 x3 x4 M hE ra0 hl q hc hs
  unfold b_X11_within_0 at q
  refine lv_aload_n hx hb dX11_within_0 rfl (lv_at hl 0 rfl) ?_
  replace q := nn_s q
  obtain ⟨a_1, e_a_1, q⟩ := q
  refine x_getR hx hb hown hX M e_a_1 okX11 ra0 (by decide) rfl kw_359 dX11_within_1 (fun ra_1 => ?_)
  refine lv_iload_n hx hb dX11_within_4 rfl (lv_at hl 1 rfl) ?_
  replace q := c2_s q
  obtain ⟨o_3, g_2, qc, q⟩ := q
  refine x_callV hx hb hml hl.1 hown hX M (S1 := S) (As := [.int x1]) (rest := []) okX1 ra_1 rfl kw_732 kw_733 mok_X1_slotAt (c_X1_slotAt ra_1 qc (Nat.le_refl 1)) kw_731 rfl rfl dX11_within_5 (Nat.le_of_ble_eq_true rfl) ⟨Nat.le_trans (by decide) hRf, Nat.le_trans (by decide) hRl⟩ (hz_step hc hRc) (hz_step hs hRs) (fun H locs M hEF => ?_)
  have ro_3 := hEF.2
  refine x_astore (lv' := [(5, va_rf o_3), (0, .ref a0), (1, .int x1), (2, .int x2), (3, .int x3), (4, .int x4)]) hx hb dX11_within_8 hl (by decide) rfl (fun ls hl => ?_)
  refine lv_aload_n hx hb dX11_within_10 rfl (lv_at hl 1 rfl) ?_
  replace q := nn_s q
  obtain ⟨a_4, e_a_4, q⟩ := q
  refine x_getR hx hb hown hX M e_a_4 okX11 ra0 (by decide) rfl kw_359 dX11_within_11 (fun ra_4 => ?_)
  refine lv_iload_n hx hb dX11_within_14 rfl (lv_at hl 3 rfl) ?_
  replace q := c2_s q
  obtain ⟨o_6, g_5, qc, q⟩ := q
  refine x_callV hx hb hml hl.1 hown hX M (S1 := S) (As := [.int x2]) (rest := []) okX1 ra_4 rfl kw_495 kw_496 mok_X1_logAt (c_X1_logAt ra_4 qc (Nat.le_refl 1)) kw_494 rfl rfl dX11_within_15 (Nat.le_of_ble_eq_true rfl) ⟨Nat.le_trans (by decide) hRf, Nat.le_trans (by decide) hRl⟩ (hz_step hc hRc) (hz_step hs hRs) (fun H locs M hEF => ?_)
  have ro_6 := hEF.2
  refine x_astore (lv' := [(6, va_rf o_6), (5, va_rf o_3), (0, .ref a0), (1, .int x1), (2, .int x2), (3, .int x3), (4, .int x4)]) hx hb dX11_within_18 hl (by decide) (by cases o_3 <;> rfl) (fun ls hl => ?_)
  refine x_aload hx hb dX11_within_20 (lv_at hl 1 rfl) ?_
  refine x_ifnull (tgt := 55) hx hb dX11_within_22 (by decide) (fun c_26 => ?_) (fun a_7 c_26 => ?_)
  · replace q := on_n c_26 q
    refine lv_iconst (v := -1) hx hb dX11_within_55 (by decide) ?_
    cases q
    have hc : cells = cT := hc
    have hs : slots = wT := hs
    subst hc
    subst hs
    exact x_iret hx hb hr hlk M hE dX11_within_56
  · subst c_26
    replace q := on_s rfl q
    have ra_7 := ro_3 a_7 rfl
    have hl : lv_has ls 7 [(6, va_rf o_6), (5, .ref a_7), (0, .ref a0), (1, .int x1), (2, .int x2), (3, .int x3), (4, .int x4)] := hl
    refine x_aload hx hb dX11_within_25 (lv_at hl 0 rfl) ?_
    refine x_ifnull (tgt := 55) hx hb dX11_within_27 (by decide) (fun c_25 => ?_) (fun a_8 c_25 => ?_)
    · replace q := on_n c_25 q
      refine lv_iconst (v := -1) hx hb dX11_within_55 (by decide) ?_
      cases q
      have hc : cells = cT := hc
      have hs : slots = wT := hs
      subst hc
      subst hs
      exact x_iret hx hb hr hlk M hE dX11_within_56
    · subst c_25
      replace q := on_s rfl q
      have ra_8 := ro_6 a_8 rfl
      have hl : lv_has ls 7 [(6, .ref a_8), (5, .ref a_7), (0, .ref a0), (1, .int x1), (2, .int x2), (3, .int x3), (4, .int x4)] := hl
      refine lv_aload hx hb dX11_within_30 (lv_at hl 0 rfl) ?_
      refine lv_iload_n hx hb dX11_within_32 rfl (lv_at hl 5 rfl) ?_
      replace q := c2_s q
      obtain ⟨x_10, g_9, qc, q⟩ := q
      refine x_callV hx hb hml hl.1 hown hX M (S1 := S) (As := [.int x3]) (rest := []) okX3 ra_8 rfl kw_550 kw_551 mok_X3_reaches (c_X3_reaches ra_8 qc (Nat.le_refl 1)) kw_549 rfl rfl dX11_within_33 (Nat.le_of_ble_eq_true rfl) ⟨Nat.le_trans (by decide) hRf, Nat.le_trans (by decide) hRl⟩ (hz_step hc hRc) (hz_step hs hRs) (fun H locs M hEF => ?_)
      refine lv_if_eq (tgt := 55) hx hb dX11_within_36 (by decide) (fun c_11 => ?_) (fun c_11 => ?_)
      · replace q := if_t c_11 q
        refine lv_iconst (v := -1) hx hb dX11_within_55 (by decide) ?_
        cases q
        have hc : cells = cT := hc
        have hs : slots = wT := hs
        subst hc
        subst hs
        exact x_iret hx hb hr hlk M hE dX11_within_56
      · replace q := if_f c_11 q
        refine lv_iload hx hb dX11_within_39 (lv_at hl 6 rfl) ?_
        refine lv_iload_n hx hb dX11_within_41 rfl (lv_at hl 5 rfl) ?_
        refine lv_icmp_ge (tgt := 55) hx hb dX11_within_42 (by decide) (fun c_12 => ?_) (fun c_12 => ?_)
        · replace q := if_t c_12 q
          refine lv_iconst (v := -1) hx hb dX11_within_55 (by decide) ?_
          cases q
          have hc : cells = cT := hc
          have hs : slots = wT := hs
          subst hc
          subst hs
          exact x_iret hx hb hr hlk M hE dX11_within_56
        · replace q := if_f c_12 q
          refine lv_aload hx hb dX11_within_45 (lv_at hl 0 rfl) ?_
          refine lv_iload hx hb dX11_within_47 (lv_at hl 6 rfl) ?_
          replace q := c2_s q
          obtain ⟨x_14, g_13, qc, q⟩ := q
          refine x_callV hx hb hml hl.1 hown hX M (S1 := S) (As := [.int x4]) (rest := []) okX3 ra_8 rfl kw_603 kw_604 mok_X3_shows (c_X3_shows ra_8 qc (Nat.le_refl 1)) kw_602 rfl rfl dX11_within_49 (Nat.le_of_ble_eq_true rfl) ⟨Nat.le_trans (by decide) hRf, Nat.le_trans (by decide) hRl⟩ (hz_step hc hRc) (hz_step hs hRs) (fun H locs M hEF => ?_)
          refine lv_if_ne (tgt := 57) hx hb dX11_within_52 (by decide) (fun c_15 => ?_) (fun c_15 => ?_)
          · replace q := if_f c_15 q
            refine lv_aload hx hb dX11_within_57 (lv_at hl 1 rfl) ?_
            refine lv_iconst (v := 1) hx hb dX11_within_59 (by decide) ?_
            refine lv_iload_n hx hb dX11_within_60 rfl (lv_at hl 5 rfl) ?_
            refine lv_iload hx hb dX11_within_61 (lv_at hl 6 rfl) ?_
            replace q := c2_s q
            obtain ⟨u_17, g_16, qc, q⟩ := q
            refine x_callV hx hb hml hl.1 hown hX M (S1 := S) (As := [.int (1 : Int32), .int x3, .int x4]) (rest := []) okX7 ra_7 rfl kw_736 kw_737 mok_X7_begin (c_X7_begin ra_7 qc (Nat.le_refl 1)) kw_735 rfl rfl dX11_within_63 (Nat.le_of_ble_eq_true rfl) ⟨Nat.le_trans (by decide) hRf, Nat.le_trans (by decide) hRl⟩ (hz_step hc hRc) (hz_step hs hRs) (fun H locs M hEF => ?_)
            refine lv_aload hx hb dX11_within_66 (lv_at hl 0 rfl) ?_
            refine lv_aload hx hb dX11_within_68 (lv_at hl 1 rfl) ?_
            refine lv_iload_n hx hb dX11_within_70 rfl (lv_at hl 5 rfl) ?_
            refine lv_iload hx hb dX11_within_71 (lv_at hl 6 rfl) ?_
            refine lv_iload hx hb dX11_within_73 (lv_at hl 6 rfl) ?_
            refine lv_iconst (v := 1) hx hb dX11_within_75 (by decide) ?_
            refine lv_iadd hx hb dX11_within_76 ?_
            replace q := c5_s q
            obtain ⟨u_19, S_20, g_18, k_21, w_22, k_23, w_24, qc, ek, ew, q⟩ := q
            refine x_callV hx hb hml hl.1 hown hX M (As := [.ref a_7, .int x3, .int x4, .int (x4 + (1 : Int32))]) (rest := []) okX3 ra_8 rfl kw_740 kw_741 mok_X3_showEntries (c_X3_showEntries ra_8 ra_7 qc (Nat.le_refl 5)) kw_739 rfl rfl dX11_within_77 (Nat.le_of_ble_eq_true rfl) ⟨Nat.le_trans (by decide) hRf, Nat.le_trans (by decide) hRl⟩ (hb_step hc ek hRc) (hb_step hs ew hRs) (fun H locs M hEF => ?_)
            replace ra0 := ra0.ext hEF.1
            replace ra_7 := ra_7.ext hEF.1
            replace ra_8 := ra_8.ext hEF.1
            replace hE := hE.tr hEF.1
            replace hc := hc_step hc ek
            replace hs := hc_step hs ew
            clear ek ew
            refine lv_aload hx hb dX11_within_80 (lv_at hl 1 rfl) ?_
            refine x_getI hx hb hown hX M (k := 4) okX7 ra_7 (by decide) rfl kw_194 dX11_within_82 ?_
            cases q
            have hc : cells + k_21 = cT := hc
            have hs : slots + w_22 = wT := hs
            subst hc
            subst hs
            exact x_iret hx hb hr hlk M hE dX11_within_85
          · replace q := if_t c_15 q
            refine lv_iconst (v := -1) hx hb dX11_within_55 (by decide) ?_
            cases q
            have hc : cells = cT := hc
            have hs : slots = wT := hs
            subst hc
            subst hs
            exact x_iret hx hb hr hlk M hE dX11_within_56
set_option maxRecDepth 100000 in
theorem c_X11_within {l : Launch} {D : va_G} {cA : Nat → ClassId} {lo tS N : Nat} {S S1 : Hs} {g g1 : Hg} {k w : Nat} {rv : Int32} {a0 : Nat} {x1 : Int32} {x2 : Int32} {x3 : Int32} {x4 : Int32} (ra0 : Rf lo S a0 11) (q : f_X11_within N S g a0 x1 x2 x3 x4 = some (rv, S1, g1, k, w)) {d : Nat} (hd : 6 ≤ d) : Ctr l yX11_within cX11_within 7 (some .int) D cA lo tS [.ref a0, .int x1, .int x2, .int x3, .int x4] S g d (some (.int rv)) S1 g1 True k w := by
  refine x_met (by decide) (Nat.le_of_ble_eq_true rfl) ?_
  intro p e s m below meth c ls hx hb hml hr hlk hown hnm hX M hl
  exact w_X11_within_0 hx hb hml hr hlk hown hX hd (Nat.mul_le_mul_left 60 hd) (N := N) (Nat.le_refl k) (Nat.le_refl w) _ _ _ _ _ _ _ _ _ _ _ _ _ _ M Ext.rf ra0 (lv_sub hl [0, 1, 2, 3, 4] rfl) q (Nat.zero_add k) (Nat.zero_add w)
end W10
