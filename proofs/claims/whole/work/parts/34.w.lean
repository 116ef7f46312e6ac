section W14
variable {p : Program} {l : Launch} {e : Env} {R : Room} {s : State} {m : MethodId} {args : Array Value} {below : List Frame} {meth : Method} {c : Code} {D : va_G} {cA : Nat → ClassId} {lo tS : Nat}
def b_X12_blame__0 (N : Nat) (S : Hs) (g : Hg) (a0 : Nat) (x1 : Int32) (x2 : Int32) : Option (Int32 × Hg) :=
if x1 < 0 then (
some ((-1 : Int32), g)) else (
if x1 < (rdI g a0 16) then (
nm ((56 : Int32) * x1) (fun x_3 =>
nm (x_3 + (28 : Int32)) (fun x_4 =>
nm x2 (fun x_5 =>
if x_5 = 0 then (
nn (rdR g a0 15) (fun a_6 =>
ck (inb x_3 (hpL S a_6)) (
some ((rdI g a_6 x_3.toNatClampNeg), g)))) else (
if x_5 = 1 then (
nn (rdR g a0 15) (fun a_7 =>
ck (inb x_4 (hpL S a_7)) (
some ((rdI g a_7 x_4.toNatClampNeg), g)))) else (
if x_5 = 2 then (
nn (rdR g a0 15) (fun a_8 =>
ck (inb (x_3 + (2 : Int32)) (hpL S a_8)) (
some ((rdI g a_8 (x_3 + (2 : Int32)).toNatClampNeg), g)))) else (
if x_5 = 3 then (
c2 (f_X12_isMarked N S g a0 x_3) (fun x_10 g_9 =>
if x_10 = 0 then (
some ((0 : Int32), g_9)) else (
c2 (f_X12_isMarked N S g_9 a0 x_4) (fun x_13 g_12 =>
if x_13 = 0 then (
some ((0 : Int32), g_12)) else (
some ((1 : Int32), g_12)))))) else (
if x_5 = 4 then (
nn (rdR g a0 15) (fun a_15 =>
ck (inb (x_3 + (4 : Int32)) (hpL S a_15)) (
some ((rdI g a_15 (x_3 + (4 : Int32)).toNatClampNeg), g)))) else (
if x_5 = 5 then (
nn (rdR g a0 15) (fun a_16 =>
ck (inb (x_4 + (4 : Int32)) (hpL S a_16)) (
some ((rdI g a_16 (x_4 + (4 : Int32)).toNatClampNeg), g)))) else (
if x_5 = 6 then (
nn (rdR g a0 15) (fun a_17 =>
ck (inb (x_3 + (12 : Int32)) (hpL S a_17)) (
some ((rdI g a_17 (x_3 + (12 : Int32)).toNatClampNeg), g)))) else (
if x_5 = 7 then (
nn (rdR g a0 15) (fun a_18 =>
ck (inb (x_4 + (12 : Int32)) (hpL S a_18)) (
some ((rdI g a_18 (x_4 + (12 : Int32)).toNatClampNeg), g)))) else (
some ((-1 : Int32), g))))))))))))) else (
some ((-1 : Int32), g)))
def f_X12_blame_ (N : Nat) (S : Hs) (g : Hg) (a0 : Nat) (x1 : Int32) (x2 : Int32) : Option (Int32 × Hg) := b_X12_blame__0 N S g a0 x1 x2
set_option maxHeartbeats 4000000 in
set_option maxRecDepth 100000 in
theorem w_X12_blame__0 (hx : p.tables.exec = Jvm.exec) (hb : c.code = cX12_blame_) (hml : c.maxLocals = 5) (hr : meth.sig.returnType = (some .int)) (hlk : meth.locks = false) (hown : s.vm.findClass RX12 = some m.cls) (hX : Kx D cA lo tS s) (hRf : 5 ≤ R.frames) (hRl : 300 ≤ R.locals) {N : Nat} {rv : Int32} {g1 : Hg} {S : Hs} : ∀ (H : Heap) (locs : List Loc) (ls : Array Slot) (g : Hg) (a0 : Nat) (x1 : Int32) (x2 : Int32), Mm D cA lo S g s H locs → Rf lo S a0 12 → lv_has ls 5 [(0, .ref a0), (1, .int x1), (2, .int x2)] → b_X12_blame__0 N S g a0 x1 x2 = some (rv, g1) → W p l e R s m args below meth c H locs 0 0 (MQ below (Qcx D cA lo S (some (.int rv)) S g1 True) args s 0 0 (fun q : Nat => lo ≤ q)) (F0 m 0 ls []) := by
  intro H locs ls g a0 x1 x2 M ra0 hl q
  unfold b_X12_blame__0 at q
  refine lv_iload_n hx hb dX12_blame__0 rfl (lv_at hl 1 rfl) ?_
  refine lv_if_lt (tgt := 12) hx hb dX12_blame__1 (by decide) (fun c_1 => ?_) (fun c_1 => ?_)
  · replace q := if_t c_1 q
    refine lv_iconst (v := -1) hx hb dX12_blame__12 (by decide) ?_
    cases q
    exact x_iret hx hb hr hlk M Ext.rf dX12_blame__13
  · replace q := if_f c_1 q
    refine lv_iload_n hx hb dX12_blame__4 rfl (lv_at hl 1 rfl) ?_
    refine lv_aload_n hx hb dX12_blame__5 rfl (lv_at hl 0 rfl) ?_
    refine x_getI hx hb hown hX M (k := 16) okX12 ra0 (by decide) rfl kw_1028 dX12_blame__6 ?_
    refine lv_icmp_lt (tgt := 14) hx hb dX12_blame__9 (by decide) (fun c_2 => ?_) (fun c_2 => ?_)
    · replace q := if_t c_2 q
      refine lv_bipush (v := 56) hx hb dX12_blame__14 (by decide) ?_
      refine lv_iload_n hx hb dX12_blame__16 rfl (lv_at hl 1 rfl) ?_
      refine lv_imul hx hb dX12_blame__17 ?_
      refine lv_topi (fun x_3 e_x_3 => ?_)
      replace q := nm_s q e_x_3
      refine lv_istore_n (lv' := [(3, .int x_3), (0, .ref a0), (1, .int x1), (2, .int x2)]) hx hb dX12_blame__18 rfl hl (by decide) rfl (fun ls hl => ?_)
      refine lv_iload_n hx hb dX12_blame__19 rfl (lv_at hl 0 rfl) ?_
      refine lv_bipush (v := 28) hx hb dX12_blame__20 (by decide) ?_
      refine lv_iadd hx hb dX12_blame__22 ?_
      refine lv_topi (fun x_4 e_x_4 => ?_)
      replace q := nm_s q e_x_4
      refine lv_istore (lv' := [(4, .int x_4), (3, .int x_3), (0, .ref a0), (1, .int x1), (2, .int x2)]) hx hb dX12_blame__23 hl (by decide) rfl (fun ls hl => ?_)
      refine lv_iload_n hx hb dX12_blame__25 rfl (lv_at hl 4 rfl) ?_
      refine lv_topi (fun x_5 e_x_5 => ?_)
      replace q := nm_s q e_x_5
      clear e_x_5
      by_cases cx_5_0 : x_5 = 0
      · replace q := if_t cx_5_0 q
        subst cx_5_0
        refine lv_tableIn (off := 46) (tgt := 72) hx hb dX12_blame__26 (by decide) (by decide) (by decide) (by decide) ?_
        refine lv_aload_n hx hb dX12_blame__72 rfl (lv_at hl 2 rfl) ?_
        replace q := nn_s q
        obtain ⟨a_6, e_a_6, q⟩ := q
        refine x_getR hx hb hown hX M e_a_6 okX12 ra0 (by decide) rfl kw_1027 dX12_blame__73 (fun ra_6 => ?_)
        refine lv_iload_n hx hb dX12_blame__76 rfl (lv_at hl 1 rfl) ?_
        replace q := ck_s q
        obtain ⟨hin, q⟩ := q
        refine x_iald hx hb hX M ra_6 (inb_in hin) dX12_blame__77 ?_
        cases q
        exact x_iret hx hb hr hlk M Ext.rf dX12_blame__78
      replace q := if_f cx_5_0 q
      by_cases cx_5_1 : x_5 = 1
      · replace q := if_t cx_5_1 q
        subst cx_5_1
        refine lv_tableIn (off := 53) (tgt := 79) hx hb dX12_blame__26 (by decide) (by decide) (by decide) (by decide) ?_
        refine lv_aload_n hx hb dX12_blame__79 rfl (lv_at hl 2 rfl) ?_
        replace q := nn_s q
        obtain ⟨a_7, e_a_7, q⟩ := q
        refine x_getR hx hb hown hX M e_a_7 okX12 ra0 (by decide) rfl kw_1027 dX12_blame__80 (fun ra_7 => ?_)
        refine lv_iload hx hb dX12_blame__83 (lv_at hl 0 rfl) ?_
        replace q := ck_s q
        obtain ⟨hin, q⟩ := q
        refine x_iald hx hb hX M ra_7 (inb_in hin) dX12_blame__85 ?_
        cases q
        exact x_iret hx hb hr hlk M Ext.rf dX12_blame__86
      replace q := if_f cx_5_1 q
      by_cases cx_5_2 : x_5 = 2
      · replace q := if_t cx_5_2 q
        subst cx_5_2
        refine lv_tableIn (off := 61) (tgt := 87) hx hb dX12_blame__26 (by decide) (by decide) (by decide) (by decide) ?_
        refine lv_aload_n hx hb dX12_blame__87 rfl (lv_at hl 2 rfl) ?_
        replace q := nn_s q
        obtain ⟨a_8, e_a_8, q⟩ := q
        refine x_getR hx hb hown hX M e_a_8 okX12 ra0 (by decide) rfl kw_1027 dX12_blame__88 (fun ra_8 => ?_)
        refine lv_iload_n hx hb dX12_blame__91 rfl (lv_at hl 1 rfl) ?_
        refine lv_iconst (v := 2) hx hb dX12_blame__92 (by decide) ?_
        refine lv_iadd hx hb dX12_blame__93 ?_
        replace q := ck_s q
        obtain ⟨hin, q⟩ := q
        refine x_iald hx hb hX M ra_8 (inb_in hin) dX12_blame__94 ?_
        cases q
        exact x_iret hx hb hr hlk M Ext.rf dX12_blame__95
      replace q := if_f cx_5_2 q
      by_cases cx_5_3 : x_5 = 3
      · replace q := if_t cx_5_3 q
        subst cx_5_3
        refine lv_tableIn (off := 70) (tgt := 96) hx hb dX12_blame__26 (by decide) (by decide) (by decide) (by decide) ?_
        refine lv_aload_n hx hb dX12_blame__96 rfl (lv_at hl 2 rfl) ?_
        refine lv_iload_n hx hb dX12_blame__97 rfl (lv_at hl 1 rfl) ?_
        replace q := c2_s q
        obtain ⟨x_10, g_9, qc, q⟩ := q
        refine x_callV hx hb hml hl.1 hown hX M (S1 := S) (As := [.int x_3]) (rest := []) okX12 ra0 rfl kw_1471 kw_50 mok_X12_isMarked (c_X12_isMarked ra0 qc (Nat.le_refl 4)) kw_1469 rfl rfl dX12_blame__98 (Nat.le_of_ble_eq_true rfl) ⟨Nat.le_trans (by decide) hRf, Nat.le_trans (by decide) hRl⟩ (Nat.zero_le _) (Nat.zero_le _) (fun H locs M hEF => ?_)
        refine lv_if_eq (tgt := 117) hx hb dX12_blame__101 (by decide) (fun c_11 => ?_) (fun c_11 => ?_)
        · replace q := if_t c_11 q
          refine lv_iconst (v := 0) hx hb dX12_blame__117 (by decide) ?_
          cases q
          exact x_iret hx hb hr hlk M Ext.rf dX12_blame__118
        · replace q := if_f c_11 q
          refine lv_aload_n hx hb dX12_blame__104 rfl (lv_at hl 2 rfl) ?_
          refine lv_iload hx hb dX12_blame__105 (lv_at hl 0 rfl) ?_
          replace q := c2_s q
          obtain ⟨x_13, g_12, qc, q⟩ := q
          refine x_callV hx hb hml hl.1 hown hX M (S1 := S) (As := [.int x_4]) (rest := []) okX12 ra0 rfl kw_1471 kw_50 mok_X12_isMarked (c_X12_isMarked ra0 qc (Nat.le_refl 4)) kw_1469 rfl rfl dX12_blame__107 (Nat.le_of_ble_eq_true rfl) ⟨Nat.le_trans (by decide) hRf, Nat.le_trans (by decide) hRl⟩ (Nat.zero_le _) (Nat.zero_le _) (fun H locs M hEF => ?_)
          refine lv_if_eq (tgt := 117) hx hb dX12_blame__110 (by decide) (fun c_14 => ?_) (fun c_14 => ?_)
          · replace q := if_t c_14 q
            refine lv_iconst (v := 0) hx hb dX12_blame__117 (by decide) ?_
            cases q
            exact x_iret hx hb hr hlk M Ext.rf dX12_blame__118
          · replace q := if_f c_14 q
            refine lv_iconst (v := 1) hx hb dX12_blame__113 (by decide) ?_
            refine lv_goto (tgt := 118) hx hb dX12_blame__114 (by decide) ?_
            cases q
            exact x_iret hx hb hr hlk M Ext.rf dX12_blame__118
      replace q := if_f cx_5_3 q
      by_cases cx_5_4 : x_5 = 4
      · replace q := if_t cx_5_4 q
        subst cx_5_4
        refine lv_tableIn (off := 93) (tgt := 119) hx hb dX12_blame__26 (by decide) (by decide) (by decide) (by decide) ?_
        refine lv_aload_n hx hb dX12_blame__119 rfl (lv_at hl 2 rfl) ?_
        replace q := nn_s q
        obtain ⟨a_15, e_a_15, q⟩ := q
        refine x_getR hx hb hown hX M e_a_15 okX12 ra0 (by decide) rfl kw_1027 dX12_blame__120 (fun ra_15 => ?_)
        refine lv_iload_n hx hb dX12_blame__123 rfl (lv_at hl 1 rfl) ?_
        refine lv_iconst (v := 4) hx hb dX12_blame__124 (by decide) ?_
        refine lv_iadd hx hb dX12_blame__125 ?_
        replace q := ck_s q
        obtain ⟨hin, q⟩ := q
        refine x_iald hx hb hX M ra_15 (inb_in hin) dX12_blame__126 ?_
        cases q
        exact x_iret hx hb hr hlk M Ext.rf dX12_blame__127
      replace q := if_f cx_5_4 q
      by_cases cx_5_5 : x_5 = 5
      · replace q := if_t cx_5_5 q
        subst cx_5_5
        refine lv_tableIn (off := 102) (tgt := 128) hx hb dX12_blame__26 (by decide) (by decide) (by decide) (by decide) ?_
        refine lv_aload_n hx hb dX12_blame__128 rfl (lv_at hl 2 rfl) ?_
        replace q := nn_s q
        obtain ⟨a_16, e_a_16, q⟩ := q
        refine x_getR hx hb hown hX M e_a_16 okX12 ra0 (by decide) rfl kw_1027 dX12_blame__129 (fun ra_16 => ?_)
        refine lv_iload hx hb dX12_blame__132 (lv_at hl 0 rfl) ?_
        refine lv_iconst (v := 4) hx hb dX12_blame__134 (by decide) ?_
        refine lv_iadd hx hb dX12_blame__135 ?_
        replace q := ck_s q
        obtain ⟨hin, q⟩ := q
        refine x_iald hx hb hX M ra_16 (inb_in hin) dX12_blame__136 ?_
        cases q
        exact x_iret hx hb hr hlk M Ext.rf dX12_blame__137
      replace q := if_f cx_5_5 q
      by_cases cx_5_6 : x_5 = 6
      · replace q := if_t cx_5_6 q
        subst cx_5_6
        refine lv_tableIn (off := 112) (tgt := 138) hx hb dX12_blame__26 (by decide) (by decide) (by decide) (by decide) ?_
        refine lv_aload_n hx hb dX12_blame__138 rfl (lv_at hl 2 rfl) ?_
        replace q := nn_s q
        obtain ⟨a_17, e_a_17, q⟩ := q
        refine x_getR hx hb hown hX M e_a_17 okX12 ra0 (by decide) rfl kw_1027 dX12_blame__139 (fun ra_17 => ?_)
        refine lv_iload_n hx hb dX12_blame__142 rfl (lv_at hl 1 rfl) ?_
        refine lv_bipush (v := 12) hx hb dX12_blame__143 (by decide) ?_
        refine lv_iadd hx hb dX12_blame__145 ?_
        replace q := ck_s q
        obtain ⟨hin, q⟩ := q
        refine x_iald hx hb hX M ra_17 (inb_in hin) dX12_blame__146 ?_
        cases q
        exact x_iret hx hb hr hlk M Ext.rf dX12_blame__147
      replace q := if_f cx_5_6 q
      by_cases cx_5_7 : x_5 = 7
      · replace q := if_t cx_5_7 q
        subst cx_5_7
        refine lv_tableIn (off := 122) (tgt := 148) hx hb dX12_blame__26 (by decide) (by decide) (by decide) (by decide) ?_
        refine lv_aload_n hx hb dX12_blame__148 rfl (lv_at hl 2 rfl) ?_
        replace q := nn_s q
        obtain ⟨a_18, e_a_18, q⟩ := q
        refine x_getR hx hb hown hX M e_a_18 okX12 ra0 (by decide) rfl kw_1027 dX12_blame__149 (fun ra_18 => ?_)
        refine lv_iload hx hb dX12_blame__152 (lv_at hl 0 rfl) ?_
        refine lv_bipush (v := 12) hx hb dX12_blame__154 (by decide) ?_
        refine lv_iadd hx hb dX12_blame__156 ?_
        replace q := ck_s q
        obtain ⟨hin, q⟩ := q
        refine x_iald hx hb hX M ra_18 (inb_in hin) dX12_blame__157 ?_
        cases q
        exact x_iret hx hb hr hlk M Ext.rf dX12_blame__158
      replace q := if_f cx_5_7 q
      refine lv_tableOut (tgt := 159) hx hb dX12_blame__26 (sw_def (fun z h1 h2 => ?_)) (by decide) ?_
      · have hz : z = 0 ∨ z = 1 ∨ z = 2 ∨ z = 3 ∨ z = 4 ∨ z = 5 ∨ z = 6 ∨ z = 7 := by omega
        rcases hz with rfl | rfl | rfl | rfl | rfl | rfl | rfl | rfl
        · exact cx_5_0
        · exact cx_5_1
        · exact cx_5_2
        · exact cx_5_3
        · exact cx_5_4
        · exact cx_5_5
        · exact cx_5_6
        · exact cx_5_7
      · refine lv_iconst (v := -1) hx hb dX12_blame__159 (by decide) ?_
        cases q
        exact x_iret hx hb hr hlk M Ext.rf dX12_blame__160
    · replace q := if_f c_2 q
      refine lv_iconst (v := -1) hx hb dX12_blame__12 (by decide) ?_
      cases q
      exact x_iret hx hb hr hlk M Ext.rf dX12_blame__13
set_option maxRecDepth 100000 in
theorem c_X12_blame_ {l : Launch} {D : va_G} {cA : Nat → ClassId} {lo tS N : Nat} {S : Hs} {g g1 : Hg} {rv : Int32} {a0 : Nat} {x1 : Int32} {x2 : Int32} (ra0 : Rf lo S a0 12) (q : f_X12_blame_ N S g a0 x1 x2 = some (rv, g1)) {d : Nat} (hd : 5 ≤ d) : Ctr l yX12_blame_ cX12_blame_ 5 (some .int) D cA lo tS [.ref a0, .int x1, .int x2] S g d (some (.int rv)) S g1 True 0 0 := by
  refine x_met (by decide) (Nat.le_of_ble_eq_true rfl) ?_
  intro p e s m below meth c ls hx hb hml hr hlk hown hnm hX M hl
  exact w_X12_blame__0 hx hb hml hr hlk hown hX hd (Nat.mul_le_mul_left 60 hd) (N := N) _ _ _ _ _ _ _ M ra0 (lv_sub hl [0, 1, 2] rfl) q
def b_X12_blockAt_2 (N : Nat) (S : Hs) (k2 : Hg → Int32 → Int32 → Int32 → Option (Int32 × Hg)) (g : Hg) (x0 : Int32) (x1 : Int32) (x2 : Int32) : Option (Int32 × Hg) :=
ck (decide (¬ ((2 : Int32) * x2) = 0)) (
if (x0 - x0 / ((2 : Int32) * x2) * ((2 : Int32) * x2)) = 0 then (
if x1 < (x0 + ((2 : Int32) * x2)) then (
some (x2, g)) else (
nm (x2 * (2 : Int32)) (fun x_3 =>
k2 g x0 x1 x_3))) else (
some (x2, g)))
def n_X12_blockAt_2 (N : Nat) (S : Hs) : Nat → Hg → Int32 → Int32 → Int32 → Option (Int32 × Hg)
  | 0 => fun _ _ _ _ => none
  | n + 1 => fun g x0 x1 x2 => b_X12_blockAt_2 N S (n_X12_blockAt_2 N S n) g x0 x1 x2
def b_X12_blockAt_0 (N : Nat) (S : Hs) (g : Hg) (x0 : Int32) (x1 : Int32) : Option (Int32 × Hg) :=
n_X12_blockAt_2 N S N g x0 x1 (1 : Int32)
def f_X12_blockAt (N : Nat) (S : Hs) (g : Hg) (x0 : Int32) (x1 : Int32) : Option (Int32 × Hg) := b_X12_blockAt_0 N S g x0 x1
set_option maxHeartbeats 4000000 in
set_option maxRecDepth 100000 in
theorem w_X12_blockAt_2 (hx : p.tables.exec = Jvm.exec) (hb : c.code = cX12_blockAt) (hml : c.maxLocals = 3) (hr : meth.sig.returnType = (some .int)) (hlk : meth.locks = false) (hown : s.vm.findClass RX12 = some m.cls) (hX : Kx D cA lo tS s) (hRf : 1 ≤ R.frames) (hRl : 60 ≤ R.locals) {N : Nat} {rv : Int32} {g1 : Hg} {S : Hs} {k2 : Hg → Int32 → Int32 → Int32 → Option (Int32 × Hg)} (hk2 : ∀ (H : Heap) (locs : List Loc) (ls : Array Slot) (g : Hg) (x0 : Int32) (x1 : Int32) (x2 : Int32), Mm D cA lo S g s H locs → lv_has ls 3 [(0, .int x0), (1, .int x1), (2, .int x2)] → k2 g x0 x1 x2 = some (rv, g1) → W p l e R s m args below meth c H locs 0 0 (MQ below (Qcx D cA lo S (some (.int rv)) S g1 True) args s 0 0 (fun q : Nat => lo ≤ q)) (F0 m 2 ls [])) : ∀ (H : Heap) (locs : List Loc) (ls : Array Slot) (g : Hg) (x0 : Int32) (x1 : Int32) (x2 : Int32), Mm D cA lo S g s H locs → lv_has ls 3 [(0, .int x0), (1, .int x1), (2, .int x2)] → b_X12_blockAt_2 N S k2 g x0 x1 x2 = some (rv, g1) → W p l e R s m args below meth c H locs 0 0 (MQ below (Qcx D cA lo S (some (.int rv)) S g1 True) args s 0 0 (fun q : Nat => lo ≤ q)) (F0 m 2 ls []) := by
  intro H locs ls g x0 x1 x2 M hl q
  unfold b_X12_blockAt_2 at q
  refine lv_iload_n hx hb dX12_blockAt_2 rfl (lv_at hl 0 rfl) ?_
  refine lv_iconst (v := 2) hx hb dX12_blockAt_3 (by decide) ?_
  refine lv_iload_n hx hb dX12_blockAt_4 rfl (lv_at hl 2 rfl) ?_
  refine lv_imul hx hb dX12_blockAt_5 ?_
  replace q := ck_s q
  obtain ⟨hz, q⟩ := q
  refine lv_irem hx hb dX12_blockAt_6 (of_decide_eq_true hz) ?_
  refine lv_if_ne (tgt := 26) hx hb dX12_blockAt_7 (by decide) (fun c_1 => ?_) (fun c_1 => ?_)
  · replace q := if_f c_1 q
    refine lv_iload_n hx hb dX12_blockAt_26 rfl (lv_at hl 2 rfl) ?_
    cases q
    exact x_iret hx hb hr hlk M Ext.rf dX12_blockAt_27
  · replace q := if_t c_1 q
    refine lv_iload_n hx hb dX12_blockAt_10 rfl (lv_at hl 0 rfl) ?_
    refine lv_iconst (v := 2) hx hb dX12_blockAt_11 (by decide) ?_
    refine lv_iload_n hx hb dX12_blockAt_12 rfl (lv_at hl 2 rfl) ?_
    refine lv_imul hx hb dX12_blockAt_13 ?_
    refine lv_iadd hx hb dX12_blockAt_14 ?_
    refine lv_iload_n hx hb dX12_blockAt_15 rfl (lv_at hl 1 rfl) ?_
    refine lv_icmp_gt (tgt := 26) hx hb dX12_blockAt_16 (by decide) (fun c_2 => ?_) (fun c_2 => ?_)
    · replace q := if_t c_2 q
      refine lv_iload_n hx hb dX12_blockAt_26 rfl (lv_at hl 2 rfl) ?_
      cases q
      exact x_iret hx hb hr hlk M Ext.rf dX12_blockAt_27
    · replace q := if_f c_2 q
      refine lv_iload_n hx hb dX12_blockAt_19 rfl (lv_at hl 2 rfl) ?_
      refine lv_iconst (v := 2) hx hb dX12_blockAt_20 (by decide) ?_
      refine lv_imul hx hb dX12_blockAt_21 ?_
      refine lv_topi (fun x_3 e_x_3 => ?_)
      replace q := nm_s q e_x_3
      refine lv_istore_n (lv' := [(2, .int x_3), (0, .int x0), (1, .int x1)]) hx hb dX12_blockAt_22 rfl hl (by decide) rfl (fun ls hl => ?_)
      refine lv_goto (tgt := 2) hx hb dX12_blockAt_23 (by decide) ?_
      exact hk2 _ _ _ _ _ _ _ M  (lv_sub hl [1, 2, 0] rfl) q
set_option maxRecDepth 100000 in
theorem l_X12_blockAt_2 (hx : p.tables.exec = Jvm.exec) (hb : c.code = cX12_blockAt) (hml : c.maxLocals = 3) (hr : meth.sig.returnType = (some .int)) (hlk : meth.locks = false) (hown : s.vm.findClass RX12 = some m.cls) (hX : Kx D cA lo tS s) (hRf : 1 ≤ R.frames) (hRl : 60 ≤ R.locals) {N : Nat} {rv : Int32} {g1 : Hg} {S : Hs} : ∀ (n : Nat), ∀ (H : Heap) (locs : List Loc) (ls : Array Slot) (g : Hg) (x0 : Int32) (x1 : Int32) (x2 : Int32), Mm D cA lo S g s H locs → lv_has ls 3 [(0, .int x0), (1, .int x1), (2, .int x2)] → n_X12_blockAt_2 N S n g x0 x1 x2 = some (rv, g1) → W p l e R s m args below meth c H locs 0 0 (MQ below (Qcx D cA lo S (some (.int rv)) S g1 True) args s 0 0 (fun q : Nat => lo ≤ q)) (F0 m 2 ls []) := by
  intro n
  induction n with
  | zero =>
    intro H locs ls g x0 x1 x2 M hl q
    exact absurd q (by simp [n_X12_blockAt_2])
  | succ n ih => exact w_X12_blockAt_2 hx hb hml hr hlk hown hX hRf hRl (N := N)  ih
set_option maxHeartbeats 4000000 in
set_option maxRecDepth 100000 in
theorem w_X12_blockAt_0 (hx : p.tables.exec = Jvm.exec) (hb : c.code = cX12_blockAt) (hml : c.maxLocals = 3) (hr : meth.sig.returnType = (some .int)) (hlk : meth.locks = false) (hown : s.vm.findClass RX12 = some m.cls) (hX : Kx D cA lo tS s) (hRf : 1 ≤ R.frames) (hRl : 60 ≤ R.locals) {N : Nat} {rv : Int32} {g1 : Hg} {S : Hs} : ∀ (H : Heap) (locs : List Loc) (ls : Array Slot) (g : Hg) (x0 : Int32) (x1 : Int32), Mm D cA lo S g s H locs → lv_has ls 3 [(0, .int x0), (1, .int x1)] → b_X12_blockAt_0 N S g x0 x1 = some (rv, g1) → W p l e R s m args below meth c H locs 0 0 (MQ below (Qcx D cA lo S (some (.int rv)) S g1 True) args s 0 0 (fun q : Nat => lo ≤ q)) (F0 m 0 ls []) := by
  intro H locs ls g x0 x1 M hl q
  unfold b_X12_blockAt_0 at q
  refine lv_iconst (v := 1) hx hb dX12_blockAt_0 (by decide) ?_
  refine lv_istore_n (lv' := [(2, .int (1 : Int32)), (0, .int x0), (1, .int x1)]) hx hb dX12_blockAt_1 rfl hl (by decide) rfl (fun ls hl => ?_)
  exact l_X12_blockAt_2 hx hb hml hr hlk hown hX hRf hRl (N := N)  N _ _ _ _ _ _ _ M  (lv_sub hl [1, 2, 0] rfl) q
set_option maxRecDepth 100000 in
theorem c_X12_blockAt {l : Launch} {D : va_G} {cA : Nat → ClassId} {lo tS N : Nat} {S : Hs} {g g1 : Hg} {rv : Int32} {x0 : Int32} {x1 : Int32}  (q : f_X12_blockAt N S g x0 x1 = some (rv, g1)) {d : Nat} (hd : 1 ≤ d) : Ctr l yX12_blockAt cX12_blockAt 3 (some .int) D cA lo tS [.int x0, .int x1] S g d (some (.int rv)) S g1 True 0 0 := by
  refine x_met (by decide) (Nat.le_of_ble_eq_true rfl) ?_
  intro p e s m below meth c ls hx hb hml hr hlk hown hnm hX M hl
  exact w_X12_blockAt_0 hx hb hml hr hlk hown hX hd (Nat.mul_le_mul_left 60 hd) (N := N) _ _ _ _ _ _ M  (lv_sub hl [0, 1] rfl) q
def b_X12_lay_68 (N : Nat) (S : Hs) (k68 : Hg → Nat → Option (Unit × Hg)) (g : Hg) (a0 : Nat) : Option (Unit × Hg) :=
if (rdI g a0 49) ≤ (1 : Int32) then (
some ((), g)) else (
nn (rdR g a0 47) (fun a_2 =>
ck (inb ((rdI g a0 49) - (1 : Int32)) (hpL S a_2)) (
nn (rdR g a0 47) (fun a_3 =>
ck (inb ((rdI g a0 49) - (2 : Int32)) (hpL S a_3)) (
if (rdI g a_2 ((rdI g a0 49) - (1 : Int32)).toNatClampNeg) = (rdI g a_3 ((rdI g a0 49) - (2 : Int32)).toNatClampNeg) then (
nn (rdR g a0 46) (fun a_5 =>
ck (inb ((rdI g a0 49) - (2 : Int32)) (hpL S a_5)) (
nn (rdR g a0 47) (fun a_6 =>
ck (inb ((rdI g a0 49) - (1 : Int32)) (hpL S a_6)) (
ck (decide (¬ ((2 : Int32) * (rdI g a_6 ((rdI g a0 49) - (1 : Int32)).toNatClampNeg)) = 0)) (
if ((rdI g a_5 ((rdI g a0 49) - (2 : Int32)).toNatClampNeg) - (rdI g a_5 ((rdI g a0 49) - (2 : Int32)).toNatClampNeg) / ((2 : Int32) * (rdI g a_6 ((rdI g a0 49) - (1 : Int32)).toNatClampNeg)) * ((2 : Int32) * (rdI g a_6 ((rdI g a0 49) - (1 : Int32)).toNatClampNeg))) = 0 then (
nn (rdR g a0 48) (fun a_8 =>
nn (rdR g a0 48) (fun a_9 =>
nn (rdR g a0 48) (fun a_10 =>
c2 (f_X12_join N S g a0 a_8 ((8 : Int32) * ((rdI g a0 49) - (2 : Int32))) a_9 ((8 : Int32) * ((rdI g a0 49) - (1 : Int32))) a_10 ((8 : Int32) * ((rdI g a0 49) - (2 : Int32)))) (fun u_12 g_11 =>
nn (rdR g_11 a0 47) (fun a_13 =>
ck (inb ((rdI g_11 a0 49) - (2 : Int32)) (hpL S a_13)) (
ck (inb ((rdI g_11 a0 49) - (2 : Int32)) (hpL S a_13)) (
nm (wrI g_11 a_13 ((rdI g_11 a0 49) - (2 : Int32)).toNatClampNeg ((rdI g_11 a_13 ((rdI g_11 a0 49) - (2 : Int32)).toNatClampNeg) * (2 : Int32))) (fun g_14 =>
nm (wrI g_14 a0 49 ((rdI g_14 a0 49) - (1 : Int32))) (fun g_15 =>
k68 g_15 a0)))))))))) else (
some ((), g)))))))) else (
some ((), g)))))))
def n_X12_lay_68 (N : Nat) (S : Hs) : Nat → Hg → Nat → Option (Unit × Hg)
  | 0 => fun _ _ => none
  | n + 1 => fun g a0 => b_X12_lay_68 N S (n_X12_lay_68 N S n) g a0
def b_X12_lay_23 (N : Nat) (S : Hs) (k23 : Hg → Nat → Nat → Int32 → Int32 → Option (Unit × Hg)) (g : Hg) (a0 : Nat) (a3 : Nat) (x4 : Int32) (x5 : Int32) : Option (Unit × Hg) :=
if (8 : Int32) ≤ x5 then (
nm (wrI g a0 49 ((rdI g a0 49) + (1 : Int32))) (fun g_2 =>
n_X12_lay_68 N S N g_2 a0)) else (
nn (rdR g a0 48) (fun a_3 =>
ck (inb (x4 + x5) (hpL S a3)) (
ck (inb (((8 : Int32) * (rdI g a0 49)) + x5) (hpL S a_3)) (
nm (wrI g a_3 (((8 : Int32) * (rdI g a0 49)) + x5).toNatClampNeg (rdI g a3 (x4 + x5).toNatClampNeg)) (fun g_4 =>
nm (x5 + 1) (fun x_5 =>
k23 g_4 a0 a3 x4 x_5))))))
def n_X12_lay_23 (N : Nat) (S : Hs) : Nat → Hg → Nat → Nat → Int32 → Int32 → Option (Unit × Hg)
  | 0 => fun _ _ _ _ _ => none
  | n + 1 => fun g a0 a3 x4 x5 => b_X12_lay_23 N S (n_X12_lay_23 N S n) g a0 a3 x4 x5
def b_X12_lay_0 (N : Nat) (S : Hs) (g : Hg) (a0 : Nat) (x1 : Int32) (x2 : Int32) (a3 : Nat) (x4 : Int32) : Option (Unit × Hg) :=
nn (rdR g a0 46) (fun a_1 =>
ck (inb (rdI g a0 49) (hpL S a_1)) (
nm (wrI g a_1 (rdI g a0 49).toNatClampNeg x1) (fun g_2 =>
nn (rdR g_2 a0 47) (fun a_3 =>
ck (inb (rdI g_2 a0 49) (hpL S a_3)) (
nm (wrI g_2 a_3 (rdI g_2 a0 49).toNatClampNeg x2) (fun g_4 =>
n_X12_lay_23 N S N g_4 a0 a3 x4 (0 : Int32)))))))
def f_X12_lay (N : Nat) (S : Hs) (g : Hg) (a0 : Nat) (x1 : Int32) (x2 : Int32) (a3 : Nat) (x4 : Int32) : Option (Unit × Hg) := b_X12_lay_0 N S g a0 x1 x2 a3 x4
set_option maxHeartbeats 4000000 in
set_option maxRecDepth 100000 in
theorem w_X12_lay_68 (hx : p.tables.exec = Jvm.exec) (hb : c.code = cX12_lay) (hml : c.maxLocals = 6) (hr : meth.sig.returnType = none) (hlk : meth.locks = false) (hown : s.vm.findClass RX12 = some m.cls) (hX : Kx D cA lo tS s) (hRf : 4 ≤ R.frames) (hRl : 240 ≤ R.locals) {N : Nat} {rv : Unit} {g1 : Hg} {S : Hs} {k68 : Hg → Nat → Option (Unit × Hg)} (hk68 : ∀ (H : Heap) (locs : List Loc) (ls : Array Slot) (g : Hg) (a0 : Nat), Mm D cA lo S g s H locs → Rf lo S a0 12 → lv_has ls 6 [(0, .ref a0)] → k68 g a0 = some (rv, g1) → W p l e R s m args below meth c H locs 0 0 (MQ below (Qcx D cA lo S none S g1 True) args s 0 0 (fun q : Nat => lo ≤ q)) (F0 m 68 ls [])) : ∀ (H : Heap) (locs : List Loc) (ls : Array Slot) (g : Hg) (a0 : Nat), Mm D cA lo S g s H locs → Rf lo S a0 12 → lv_has ls 6 [(0, .ref a0)] → b_X12_lay_68 N S k68 g a0 = some (rv, g1) → W p l e R s m args below meth c H locs 0 0 (MQ below (Qcx D cA lo S none S g1 True) args s 0 0 (fun q : Nat => lo ≤ q)) (F0 m 68 ls []) := by
  intro H locs ls g a0 M ra0 hl q
  unfold b_X12_lay_68 at q
  refine lv_aload_n hx hb dX12_lay_68 rfl (lv_at hl 0 rfl) ?_
  refine x_getI hx hb hown hX M (k := 49) okX12 ra0 (by decide) rfl kw_1061 dX12_lay_69 ?_
  refine lv_iconst (v := 1) hx hb dX12_lay_72 (by decide) ?_
  refine lv_icmp_le (tgt := 200) hx hb dX12_lay_73 (by decide) (fun c_1 => ?_) (fun c_1 => ?_)
  · replace q := if_t c_1 q
    cases q
    exact x_vret hx hb hr hlk M Ext.rf dX12_lay_200
  · replace q := if_f c_1 q
    refine lv_aload_n hx hb dX12_lay_76 rfl (lv_at hl 0 rfl) ?_
    replace q := nn_s q
    obtain ⟨a_2, e_a_2, q⟩ := q
    refine x_getR hx hb hown hX M e_a_2 okX12 ra0 (by decide) rfl kw_1059 dX12_lay_77 (fun ra_2 => ?_)
    refine lv_aload_n hx hb dX12_lay_80 rfl (lv_at hl 0 rfl) ?_
    refine x_getI hx hb hown hX M (k := 49) okX12 ra0 (by decide) rfl kw_1061 dX12_lay_81 ?_
    refine lv_iconst (v := 1) hx hb dX12_lay_84 (by decide) ?_
    refine lv_isub hx hb dX12_lay_85 ?_
    replace q := ck_s q
    obtain ⟨hin, q⟩ := q
    refine x_iald hx hb hX M ra_2 (inb_in hin) dX12_lay_86 ?_
    refine lv_aload_n hx hb dX12_lay_87 rfl (lv_at hl 0 rfl) ?_
    replace q := nn_s q
    obtain ⟨a_3, e_a_3, q⟩ := q
    refine x_getR hx hb hown hX M e_a_3 okX12 ra0 (by decide) rfl kw_1059 dX12_lay_88 (fun ra_3 => ?_)
    refine lv_aload_n hx hb dX12_lay_91 rfl (lv_at hl 0 rfl) ?_
    refine x_getI hx hb hown hX M (k := 49) okX12 ra0 (by decide) rfl kw_1061 dX12_lay_92 ?_
    refine lv_iconst (v := 2) hx hb dX12_lay_95 (by decide) ?_
    refine lv_isub hx hb dX12_lay_96 ?_
    replace q := ck_s q
    obtain ⟨hin, q⟩ := q
    refine x_iald hx hb hX M ra_3 (inb_in hin) dX12_lay_97 ?_
    refine lv_icmp_ne (tgt := 200) hx hb dX12_lay_98 (by decide) (fun c_4 => ?_) (fun c_4 => ?_)
    · replace q := if_f c_4 q
      cases q
      exact x_vret hx hb hr hlk M Ext.rf dX12_lay_200
    · replace q := if_t c_4 q
      refine lv_aload_n hx hb dX12_lay_101 rfl (lv_at hl 0 rfl) ?_
      replace q := nn_s q
      obtain ⟨a_5, e_a_5, q⟩ := q
      refine x_getR hx hb hown hX M e_a_5 okX12 ra0 (by decide) rfl kw_1058 dX12_lay_102 (fun ra_5 => ?_)
      refine lv_aload_n hx hb dX12_lay_105 rfl (lv_at hl 0 rfl) ?_
      refine x_getI hx hb hown hX M (k := 49) okX12 ra0 (by decide) rfl kw_1061 dX12_lay_106 ?_
      refine lv_iconst (v := 2) hx hb dX12_lay_109 (by decide) ?_
      refine lv_isub hx hb dX12_lay_110 ?_
      replace q := ck_s q
      obtain ⟨hin, q⟩ := q
      refine x_iald hx hb hX M ra_5 (inb_in hin) dX12_lay_111 ?_
      refine lv_iconst (v := 2) hx hb dX12_lay_112 (by decide) ?_
      refine lv_aload_n hx hb dX12_lay_113 rfl (lv_at hl 0 rfl) ?_
      replace q := nn_s q
      obtain ⟨a_6, e_a_6, q⟩ := q
      refine x_getR hx hb hown hX M e_a_6 okX12 ra0 (by decide) rfl kw_1059 dX12_lay_114 (fun ra_6 => ?_)
      refine lv_aload_n hx hb dX12_lay_117 rfl (lv_at hl 0 rfl) ?_
      refine x_getI hx hb hown hX M (k := 49) okX12 ra0 (by decide) rfl kw_1061 dX12_lay_118 ?_
      refine lv_iconst (v := 1) hx hb dX12_lay_121 (by decide) ?_
      refine lv_isub hx hb dX12_lay_122 ?_
      replace q := ck_s q
      obtain ⟨hin, q⟩ := q
      refine x_iald hx hb hX M ra_6 (inb_in hin) dX12_lay_123 ?_
      refine lv_imul hx hb dX12_lay_124 ?_
      replace q := ck_s q
      obtain ⟨hz, q⟩ := q
      refine lv_irem hx hb dX12_lay_125 (of_decide_eq_true hz) ?_
      refine lv_if_ne (tgt := 200) hx hb dX12_lay_126 (by decide) (fun c_7 => ?_) (fun c_7 => ?_)
      · replace q := if_f c_7 q
        cases q
        exact x_vret hx hb hr hlk M Ext.rf dX12_lay_200
      · replace q := if_t c_7 q
        refine lv_aload_n hx hb dX12_lay_129 rfl (lv_at hl 0 rfl) ?_
        refine lv_aload_n hx hb dX12_lay_130 rfl (lv_at hl 0 rfl) ?_
        replace q := nn_s q
        obtain ⟨a_8, e_a_8, q⟩ := q
        refine x_getR hx hb hown hX M e_a_8 okX12 ra0 (by decide) rfl kw_1060 dX12_lay_131 (fun ra_8 => ?_)
        refine lv_bipush (v := 8) hx hb dX12_lay_134 (by decide) ?_
        refine lv_aload_n hx hb dX12_lay_136 rfl (lv_at hl 0 rfl) ?_
        refine x_getI hx hb hown hX M (k := 49) okX12 ra0 (by decide) rfl kw_1061 dX12_lay_137 ?_
        refine lv_iconst (v := 2) hx hb dX12_lay_140 (by decide) ?_
        refine lv_isub hx hb dX12_lay_141 ?_
        refine lv_imul hx hb dX12_lay_142 ?_
        refine lv_aload_n hx hb dX12_lay_143 rfl (lv_at hl 0 rfl) ?_
        replace q := nn_s q
        obtain ⟨a_9, e_a_9, q⟩ := q
        refine x_getR hx hb hown hX M e_a_9 okX12 ra0 (by decide) rfl kw_1060 dX12_lay_144 (fun ra_9 => ?_)
        refine lv_bipush (v := 8) hx hb dX12_lay_147 (by decide) ?_
        refine lv_aload_n hx hb dX12_lay_149 rfl (lv_at hl 0 rfl) ?_
        refine x_getI hx hb hown hX M (k := 49) okX12 ra0 (by decide) rfl kw_1061 dX12_lay_150 ?_
        refine lv_iconst (v := 1) hx hb dX12_lay_153 (by decide) ?_
        refine lv_isub hx hb dX12_lay_154 ?_
        refine lv_imul hx hb dX12_lay_155 ?_
        refine lv_aload_n hx hb dX12_lay_156 rfl (lv_at hl 0 rfl) ?_
        replace q := nn_s q
        obtain ⟨a_10, e_a_10, q⟩ := q
        refine x_getR hx hb hown hX M e_a_10 okX12 ra0 (by decide) rfl kw_1060 dX12_lay_157 (fun ra_10 => ?_)
        refine lv_bipush (v := 8) hx hb dX12_lay_160 (by decide) ?_
        refine lv_aload_n hx hb dX12_lay_162 rfl (lv_at hl 0 rfl) ?_
        refine x_getI hx hb hown hX M (k := 49) okX12 ra0 (by decide) rfl kw_1061 dX12_lay_163 ?_
        refine lv_iconst (v := 2) hx hb dX12_lay_166 (by decide) ?_
        refine lv_isub hx hb dX12_lay_167 ?_
        refine lv_imul hx hb dX12_lay_168 ?_
        replace q := c2_s q
        obtain ⟨u_12, g_11, qc, q⟩ := q
        refine x_callV hx hb hml hl.1 hown hX M (S1 := S) (As := [.ref a_8, .int ((8 : Int32) * ((rdI g a0 49) - (2 : Int32))), .ref a_9, .int ((8 : Int32) * ((rdI g a0 49) - (1 : Int32))), .ref a_10, .int ((8 : Int32) * ((rdI g a0 49) - (2 : Int32)))]) (rest := []) okX12 ra0 rfl kw_1321 kw_30 mok_X12_join (c_X12_join ra0 ra_8 ra_9 ra_10 qc (Nat.le_refl 3)) kw_1319 rfl rfl dX12_lay_169 (Nat.le_of_ble_eq_true rfl) ⟨Nat.le_trans (by decide) hRf, Nat.le_trans (by decide) hRl⟩ (Nat.zero_le _) (Nat.zero_le _) (fun H locs M hEF => ?_)
        refine lv_aload_n hx hb dX12_lay_172 rfl (lv_at hl 0 rfl) ?_
        replace q := nn_s q
        obtain ⟨a_13, e_a_13, q⟩ := q
        refine x_getR hx hb hown hX M e_a_13 okX12 ra0 (by decide) rfl kw_1059 dX12_lay_173 (fun ra_13 => ?_)
        refine lv_aload_n hx hb dX12_lay_176 rfl (lv_at hl 0 rfl) ?_
        refine x_getI hx hb hown hX M (k := 49) okX12 ra0 (by decide) rfl kw_1061 dX12_lay_177 ?_
        refine lv_iconst (v := 2) hx hb dX12_lay_180 (by decide) ?_
        refine lv_isub hx hb dX12_lay_181 ?_
        refine lv_dup2_11 hx hb dX12_lay_182 rfl rfl ?_
        replace q := ck_s q
        obtain ⟨hin, q⟩ := q
        refine x_iald hx hb hX M ra_13 (inb_in hin) dX12_lay_183 ?_
        refine lv_iconst (v := 2) hx hb dX12_lay_184 (by decide) ?_
        refine lv_imul hx hb dX12_lay_185 ?_
        replace q := ck_s q
        obtain ⟨hin, q⟩ := q
        refine x_iast hx hb hX M ra_13 (inb_in hin) dX12_lay_186 (fun H locs M => ?_)
        replace q := gen_g M q
        obtain ⟨g_14, -, M, q⟩ := q
        refine lv_aload_n hx hb dX12_lay_187 rfl (lv_at hl 0 rfl) ?_
        refine lv_dup hx hb dX12_lay_188 rfl ?_
        refine x_getI hx hb hown hX M (k := 49) okX12 ra0 (by decide) rfl kw_1061 dX12_lay_189 ?_
        refine lv_iconst (v := 1) hx hb dX12_lay_192 (by decide) ?_
        refine lv_isub hx hb dX12_lay_193 ?_
        refine x_putI hx hb hown hX M (k := 49) okX12 ra0 (by decide) rfl (Or.inl rfl) rfl rfl kw_1061 dX12_lay_194 (fun H locs M => ?_)
        replace q := gen_g M q
        obtain ⟨g_15, -, M, q⟩ := q
        refine lv_goto (tgt := 68) hx hb dX12_lay_197 (by decide) ?_
        exact hk68 _ _ _ _ _ M ra0 (lv_sub hl [0] rfl) q
set_option maxRecDepth 100000 in
theorem l_X12_lay_68 (hx : p.tables.exec = Jvm.exec) (hb : c.code = cX12_lay) (hml : c.maxLocals = 6) (hr : meth.sig.returnType = none) (hlk : meth.locks = false) (hown : s.vm.findClass RX12 = some m.cls) (hX : Kx D cA lo tS s) (hRf : 4 ≤ R.frames) (hRl : 240 ≤ R.locals) {N : Nat} {rv : Unit} {g1 : Hg} {S : Hs} : ∀ (n : Nat), ∀ (H : Heap) (locs : List Loc) (ls : Array Slot) (g : Hg) (a0 : Nat), Mm D cA lo S g s H locs → Rf lo S a0 12 → lv_has ls 6 [(0, .ref a0)] → n_X12_lay_68 N S n g a0 = some (rv, g1) → W p l e R s m args below meth c H locs 0 0 (MQ below (Qcx D cA lo S none S g1 True) args s 0 0 (fun q : Nat => lo ≤ q)) (F0 m 68 ls []) := by
  intro n
  induction n with
  | zero =>
    intro H locs ls g a0 M ra0 hl q
    exact absurd q (by simp [n_X12_lay_68])
  | succ n ih => exact w_X12_lay_68 hx hb hml hr hlk hown hX hRf hRl (N := N)  ih
set_option maxHeartbeats 4000000 in
set_option maxRecDepth 100000 in
theorem w_X12_lay_23 (hx : p.tables.exec = Jvm.exec) (hb : c.code = cX12_lay) (hml : c.maxLocals = 6) (hr : meth.sig.returnType = none) (hlk : meth.locks = false) (hown : s.vm.findClass RX12 = some m.cls) (hX : Kx D cA lo tS s) (hRf : 4 ≤ R.frames) (hRl : 240 ≤ R.locals) {N : Nat} {rv : Unit} {g1 : Hg} {S : Hs} {k23 : Hg → Nat → Nat → Int32 → Int32 → Option (Unit × Hg)} (hk23 : ∀ (H : Heap) (locs : List Loc) (ls : Array Slot) (g : Hg) (a0 : Nat) (a3 : Nat) (x4 : Int32) (x5 : Int32), Mm D cA lo S g s H locs → Rf lo S a0 12 → Rf lo S a3 20 → lv_has ls 6 [(0, .ref a0), (3, .ref a3), (4, .int x4), (5, .int x5)] → k23 g a0 a3 x4 x5 = some (rv, g1) → W p l e R s m args below meth c H locs 0 0 (MQ below (Qcx D cA lo S none S g1 True) args s 0 0 (fun q : Nat => lo ≤ q)) (F0 m 23 ls [])) : ∀ (H : Heap) (locs : List Loc) (ls : Array Slot) (g : Hg) (a0 : Nat) (a3 : Nat) (x4 : Int32) (x5 : Int32), Mm D cA lo S g s H locs → Rf lo S a0 12 → Rf lo S a3 20 → lv_has ls 6 [(0, .ref a0), (3, .ref a3), (4, .int x4), (5, .int x5)] → b_X12_lay_23 N S k23 g a0 a3 x4 x5 = some (rv, g1) → W p l e R s m args below meth c H locs 0 0 (MQ below (Qcx D cA lo S none S g1 True) args s 0 0 (fun q : Nat => lo ≤ q)) (F0 m 23 ls []) := by
  intro H locs ls g a0 a3 x4 x5 M ra0 ra3 hl q
  unfold b_X12_lay_23 at q
  refine lv_iload hx hb dX12_lay_23 (lv_at hl 3 rfl) ?_
  refine lv_bipush (v := 8) hx hb dX12_lay_25 (by decide) ?_
  refine lv_icmp_ge (tgt := 58) hx hb dX12_lay_27 (by decide) (fun c_1 => ?_) (fun c_1 => ?_)
  · replace q := if_t c_1 q
    refine lv_aload_n hx hb dX12_lay_58 rfl (lv_at hl 0 rfl) ?_
    refine lv_dup hx hb dX12_lay_59 rfl ?_
    refine x_getI hx hb hown hX M (k := 49) okX12 ra0 (by decide) rfl kw_1061 dX12_lay_60 ?_
    refine lv_iconst (v := 1) hx hb dX12_lay_63 (by decide) ?_
    refine lv_iadd hx hb dX12_lay_64 ?_
    refine x_putI hx hb hown hX M (k := 49) okX12 ra0 (by decide) rfl (Or.inl rfl) rfl rfl kw_1061 dX12_lay_65 (fun H locs M => ?_)
    replace q := gen_g M q
    obtain ⟨g_2, -, M, q⟩ := q
    exact l_X12_lay_68 hx hb hml hr hlk hown hX hRf hRl (N := N)  N _ _ _ _ _ M ra0 (lv_sub hl [0] rfl) q
  · replace q := if_f c_1 q
    refine lv_aload_n hx hb dX12_lay_30 rfl (lv_at hl 0 rfl) ?_
    replace q := nn_s q
    obtain ⟨a_3, e_a_3, q⟩ := q
    refine x_getR hx hb hown hX M e_a_3 okX12 ra0 (by decide) rfl kw_1060 dX12_lay_31 (fun ra_3 => ?_)
    refine lv_bipush (v := 8) hx hb dX12_lay_34 (by decide) ?_
    refine lv_aload_n hx hb dX12_lay_36 rfl (lv_at hl 0 rfl) ?_
    refine x_getI hx hb hown hX M (k := 49) okX12 ra0 (by decide) rfl kw_1061 dX12_lay_37 ?_
    refine lv_imul hx hb dX12_lay_40 ?_
    refine lv_iload hx hb dX12_lay_41 (lv_at hl 3 rfl) ?_
    refine lv_iadd hx hb dX12_lay_43 ?_
    refine lv_aload_n hx hb dX12_lay_44 rfl (lv_at hl 1 rfl) ?_
    refine lv_iload hx hb dX12_lay_45 (lv_at hl 2 rfl) ?_
    refine lv_iload hx hb dX12_lay_47 (lv_at hl 3 rfl) ?_
    refine lv_iadd hx hb dX12_lay_49 ?_
    replace q := ck_s q
    obtain ⟨hin, q⟩ := q
    refine x_iald hx hb hX M ra3 (inb_in hin) dX12_lay_50 ?_
    replace q := ck_s q
    obtain ⟨hin, q⟩ := q
    refine x_iast hx hb hX M ra_3 (inb_in hin) dX12_lay_51 (fun H locs M => ?_)
    replace q := gen_g M q
    obtain ⟨g_4, -, M, q⟩ := q
    obtain ⟨x_5, e_x_5⟩ : ∃ y : Int32, y = x5 + 1 := ⟨_, rfl⟩
    replace q := nm_s q e_x_5
    refine lv_iinc (v := x_5) (lv' := [(5, .int x_5), (0, .ref a0), (3, .ref a3), (4, .int x4)]) hx hb dX12_lay_52 hl (k := 3) rfl (by rw [e_x_5]; rfl) (by decide) rfl (fun ls hl => ?_)
    refine lv_goto (tgt := 23) hx hb dX12_lay_55 (by decide) ?_
    exact hk23 _ _ _ _ _ _ _ _ M ra0 ra3 (lv_sub hl [1, 2, 3, 0] rfl) q
set_option maxRecDepth 100000 in
theorem l_X12_lay_23 (hx : p.tables.exec = Jvm.exec) (hb : c.code = cX12_lay) (hml : c.maxLocals = 6) (hr : meth.sig.returnType = none) (hlk : meth.locks = false) (hown : s.vm.findClass RX12 = some m.cls) (hX : Kx D cA lo tS s) (hRf : 4 ≤ R.frames) (hRl : 240 ≤ R.locals) {N : Nat} {rv : Unit} {g1 : Hg} {S : Hs} : ∀ (n : Nat), ∀ (H : Heap) (locs : List Loc) (ls : Array Slot) (g : Hg) (a0 : Nat) (a3 : Nat) (x4 : Int32) (x5 : Int32), Mm D cA lo S g s H locs → Rf lo S a0 12 → Rf lo S a3 20 → lv_has ls 6 [(0, .ref a0), (3, .ref a3), (4, .int x4), (5, .int x5)] → n_X12_lay_23 N S n g a0 a3 x4 x5 = some (rv, g1) → W p l e R s m args below meth c H locs 0 0 (MQ below (Qcx D cA lo S none S g1 True) args s 0 0 (fun q : Nat => lo ≤ q)) (F0 m 23 ls []) := by
  intro n
  induction n with
  | zero =>
    intro H locs ls g a0 a3 x4 x5 M ra0 ra3 hl q
    exact absurd q (by simp [n_X12_lay_23])
  | succ n ih => exact w_X12_lay_23 hx hb hml hr hlk hown hX hRf hRl (N := N)  ih
set_option maxHeartbeats 4000000 in
set_option maxRecDepth 100000 in
theorem w_X12_lay_0 (hx : p.tables.exec = Jvm.exec) (hb : c.code = cX12_lay) (hml : c.maxLocals = 6) (hr : meth.sig.returnType = none) (hlk : meth.locks = false) (hown : s.vm.findClass RX12 = some m.cls) (hX : Kx D cA lo tS s) (hRf : 4 ≤ R.frames) (hRl : 240 ≤ R.locals) {N : Nat} {rv : Unit} {g1 : Hg} {S : Hs} : ∀ (H : Heap) (locs : List Loc) (ls : Array Slot) (g : Hg) (a0 : Nat) (x1 : Int32) (x2 : Int32) (a3 : Nat) (x4 : Int32), Mm D cA lo S g s H locs → Rf lo S a0 12 → Rf lo S a3 20 → lv_has ls 6 [(0, .ref a0), (1, .int x1), (2, .int x2), (3, .ref a3), (4, .int x4)] → b_X12_lay_0 N S g a0 x1 x2 a3 x4 = some (rv, g1) → W p l e R s m args below meth c H locs 0 0 (MQ below (Qcx D cA lo S none S g1 True) args s 0 0 (fun q : Nat => lo ≤ q)) (F0 m 0 ls []) := by
  intro H locs ls g a0 x1 x2 a3 x4 M ra0 ra3 hl q
  unfold b_X12_lay_0 at q
  refine lv_aload_n hx hb dX12_lay_0 rfl (lv_at hl 0 rfl) ?_
  replace q := nn_s q
  obtain ⟨a_1, e_a_1, q⟩ := q
  refine x_getR hx hb hown hX M e_a_1 okX12 ra0 (by decide) rfl kw_1058 dX12_lay_1 (fun ra_1 => ?_)
  refine lv_aload_n hx hb dX12_lay_4 rfl (lv_at hl 0 rfl) ?_
  refine x_getI hx hb hown hX M (k := 49) okX12 ra0 (by decide) rfl kw_1061 dX12_lay_5 ?_
  refine lv_iload_n hx hb dX12_lay_8 rfl (lv_at hl 1 rfl) ?_
  replace q := ck_s q
  obtain ⟨hin, q⟩ := q
  refine x_iast hx hb hX M ra_1 (inb_in hin) dX12_lay_9 (fun H locs M => ?_)
  replace q := gen_g M q
  obtain ⟨g_2, -, M, q⟩ := q
  refine lv_aload_n hx hb dX12_lay_10 rfl (lv_at hl 0 rfl) ?_
  replace q := nn_s q
  obtain ⟨a_3, e_a_3, q⟩ := q
  refine x_getR hx hb hown hX M e_a_3 okX12 ra0 (by decide) rfl kw_1059 dX12_lay_11 (fun ra_3 => ?_)
  refine lv_aload_n hx hb dX12_lay_14 rfl (lv_at hl 0 rfl) ?_
  refine x_getI hx hb hown hX M (k := 49) okX12 ra0 (by decide) rfl kw_1061 dX12_lay_15 ?_
  refine lv_iload_n hx hb dX12_lay_18 rfl (lv_at hl 2 rfl) ?_
  replace q := ck_s q
  obtain ⟨hin, q⟩ := q
  refine x_iast hx hb hX M ra_3 (inb_in hin) dX12_lay_19 (fun H locs M => ?_)
  replace q := gen_g M q
  obtain ⟨g_4, -, M, q⟩ := q
  refine lv_iconst (v := 0) hx hb dX12_lay_20 (by decide) ?_
  refine lv_istore (lv' := [(5, .int (0 : Int32)), (0, .ref a0), (1, .int x1), (2, .int x2), (3, .ref a3), (4, .int x4)]) hx hb dX12_lay_21 hl (by decide) rfl (fun ls hl => ?_)
  exact l_X12_lay_23 hx hb hml hr hlk hown hX hRf hRl (N := N)  N _ _ _ _ _ _ _ _ M ra0 ra3 (lv_sub hl [1, 4, 5, 0] rfl) q
set_option maxRecDepth 100000 in
theorem c_X12_lay {l : Launch} {D : va_G} {cA : Nat → ClassId} {lo tS N : Nat} {S : Hs} {g g1 : Hg} {rv : Unit} {a0 : Nat} {x1 : Int32} {x2 : Int32} {a3 : Nat} {x4 : Int32} (ra0 : Rf lo S a0 12) (ra3 : Rf lo S a3 20) (q : f_X12_lay N S g a0 x1 x2 a3 x4 = some (rv, g1)) {d : Nat} (hd : 4 ≤ d) : Ctr l yX12_lay cX12_lay 6 none D cA lo tS [.ref a0, .int x1, .int x2, .ref a3, .int x4] S g d none S g1 True 0 0 := by
  refine x_met (by decide) (Nat.le_of_ble_eq_true rfl) ?_
  intro p e s m below meth c ls hx hb hml hr hlk hown hnm hX M hl
  exact w_X12_lay_0 hx hb hml hr hlk hown hX hd (Nat.mul_le_mul_left 60 hd) (N := N) _ _ _ _ _ _ _ _ _ M ra0 ra3 (lv_sub hl [0, 1, 2, 3, 4] rfl) q
def b_X12_laySteps_3 (N : Nat) (S : Hs) (k3 : Hg → Nat → Int32 → Int32 → Int32 → Option (Unit × Hg)) (g : Hg) (a0 : Nat) (x1 : Int32) (x3 : Int32) (x4 : Int32) : Option (Unit × Hg) :=
if x3 ≤ x4 then (
some ((), g)) else (
c2 (f_X12_blockAt N S g x4 x3) (fun x_3 g_2 =>
nn (rdR g_2 a0 12) (fun a_4 =>
c2 (f_X12_lay N S g_2 a0 x4 x_3 a_4 ((8 : Int32) * (((256 : Int32) * x1) + (rdI g_2 a0 63)))) (fun u_6 g_5 =>
nm (wrI g_5 a0 63 ((rdI g_5 a0 63) + (1 : Int32))) (fun g_7 =>
nm (x4 + x_3) (fun x_8 =>
k3 g_7 a0 x1 x3 x_8))))))
def n_X12_laySteps_3 (N : Nat) (S : Hs) : Nat → Hg → Nat → Int32 → Int32 → Int32 → Option (Unit × Hg)
  | 0 => fun _ _ _ _ _ => none
  | n + 1 => fun g a0 x1 x3 x4 => b_X12_laySteps_3 N S (n_X12_laySteps_3 N S n) g a0 x1 x3 x4
def b_X12_laySteps_0 (N : Nat) (S : Hs) (g : Hg) (a0 : Nat) (x1 : Int32) (x2 : Int32) (x3 : Int32) : Option (Unit × Hg) :=
n_X12_laySteps_3 N S N g a0 x1 x3 x2
def f_X12_laySteps (N : Nat) (S : Hs) (g : Hg) (a0 : Nat) (x1 : Int32) (x2 : Int32) (x3 : Int32) : Option (Unit × Hg) := b_X12_laySteps_0 N S g a0 x1 x2 x3
set_option maxHeartbeats 4000000 in
set_option maxRecDepth 100000 in
theorem w_X12_laySteps_3 (hx : p.tables.exec = Jvm.exec) (hb : c.code = cX12_laySteps) (hml : c.maxLocals = 6) (hr : meth.sig.returnType = none) (hlk : meth.locks = false) (hown : s.vm.findClass RX12 = some m.cls) (hX : Kx D cA lo tS s) (hRf : 5 ≤ R.frames) (hRl : 300 ≤ R.locals) {N : Nat} {rv : Unit} {g1 : Hg} {S : Hs} {k3 : Hg → Nat → Int32 → Int32 → Int32 → Option (Unit × Hg)} (hk3 : ∀ (H : Heap) (locs : List Loc) (ls : Array Slot) (g : Hg) (a0 : Nat) (x1 : Int32) (x3 : Int32) (x4 : Int32), Mm D cA lo S g s H locs → Rf lo S a0 12 → lv_has ls 6 [(0, .ref a0), (1, .int x1), (3, .int x3), (4, .int x4)] → k3 g a0 x1 x3 x4 = some (rv, g1) → W p l e R s m args below meth c H locs 0 0 (MQ below (Qcx D cA lo S none S g1 True) args s 0 0 (fun q : Nat => lo ≤ q)) (F0 m 3 ls [])) : ∀ (H : Heap) (locs : List Loc) (ls : Array Slot) (g : Hg) (a0 : Nat) (x1 : Int32) (x3 : Int32) (x4 : Int32), Mm D cA lo S g s H locs → Rf lo S a0 12 → lv_has ls 6 [(0, .ref a0), (1, .int x1), (3, .int x3), (4, .int x4)] → b_X12_laySteps_3 N S k3 g a0 x1 x3 x4 = some (rv, g1) → W p l e R s m args below meth c H locs 0 0 (MQ below (Qcx D cA lo S none S g1 True) args s 0 0 (fun q : Nat => lo ≤ q)) (F0 m 3 ls []) := by
  intro H locs ls g a0 x1 x3 x4 M ra0 hl q
  unfold b_X12_laySteps_3 at q
  refine lv_iload hx hb dX12_laySteps_3 (lv_at hl 3 rfl) ?_
  refine lv_iload_n hx hb dX12_laySteps_5 rfl (lv_at hl 2 rfl) ?_
  refine lv_icmp_ge (tgt := 62) hx hb dX12_laySteps_6 (by decide) (fun c_1 => ?_) (fun c_1 => ?_)
  · replace q := if_t c_1 q
    cases q
    exact x_vret hx hb hr hlk M Ext.rf dX12_laySteps_62
  · replace q := if_f c_1 q
    refine lv_iload hx hb dX12_laySteps_9 (lv_at hl 3 rfl) ?_
    refine lv_iload_n hx hb dX12_laySteps_11 rfl (lv_at hl 2 rfl) ?_
    replace q := c2_s q
    obtain ⟨x_3, g_2, qc, q⟩ := q
    refine x_callS hx hb hml hl.1 hown hX M (S1 := S) (As := [.int x4, .int x3]) (rest := []) kw_1309 mok_X12_blockAt (c_X12_blockAt  qc (Nat.le_refl 1)) kw_1308 rfl rfl dX12_laySteps_12 (Nat.le_of_ble_eq_true rfl) ⟨Nat.le_trans (by decide) hRf, Nat.le_trans (by decide) hRl⟩ (Nat.zero_le _) (Nat.zero_le _) (fun H locs M hEF => ?_)
    refine lv_istore (lv' := [(5, .int x_3), (0, .ref a0), (1, .int x1), (3, .int x3), (4, .int x4)]) hx hb dX12_laySteps_15 hl (by decide) rfl (fun ls hl => ?_)
    refine lv_aload_n hx hb dX12_laySteps_17 rfl (lv_at hl 1 rfl) ?_
    refine lv_iload hx hb dX12_laySteps_18 (lv_at hl 4 rfl) ?_
    refine lv_iload hx hb dX12_laySteps_20 (lv_at hl 0 rfl) ?_
    refine lv_aload_n hx hb dX12_laySteps_22 rfl (lv_at hl 1 rfl) ?_
    replace q := nn_s q
    obtain ⟨a_4, e_a_4, q⟩ := q
    refine x_getR hx hb hown hX M e_a_4 okX12 ra0 (by decide) rfl kw_1024 dX12_laySteps_23 (fun ra_4 => ?_)
    refine lv_bipush (v := 8) hx hb dX12_laySteps_26 (by decide) ?_
    refine lv_sipush (v := 256) hx hb dX12_laySteps_28 (by decide) ?_
    refine lv_iload_n hx hb dX12_laySteps_31 rfl (lv_at hl 2 rfl) ?_
    refine lv_imul hx hb dX12_laySteps_32 ?_
    refine lv_aload_n hx hb dX12_laySteps_33 rfl (lv_at hl 1 rfl) ?_
    refine x_getI hx hb hown hX M (k := 63) okX12 ra0 (by decide) rfl kw_1075 dX12_laySteps_34 ?_
    refine lv_iadd hx hb dX12_laySteps_37 ?_
    refine lv_imul hx hb dX12_laySteps_38 ?_
    replace q := c2_s q
    obtain ⟨u_6, g_5, qc, q⟩ := q
    refine x_callV hx hb hml hl.1 hown hX M (S1 := S) (As := [.int x4, .int x_3, .ref a_4, .int ((8 : Int32) * (((256 : Int32) * x1) + (rdI g_2 a0 63)))]) (rest := []) okX12 ra0 rfl kw_1325 kw_31 mok_X12_lay (c_X12_lay ra0 ra_4 qc (Nat.le_refl 4)) kw_1323 rfl rfl dX12_laySteps_39 (Nat.le_of_ble_eq_true rfl) ⟨Nat.le_trans (by decide) hRf, Nat.le_trans (by decide) hRl⟩ (Nat.zero_le _) (Nat.zero_le _) (fun H locs M hEF => ?_)
    refine lv_aload_n hx hb dX12_laySteps_42 rfl (lv_at hl 1 rfl) ?_
    refine lv_dup hx hb dX12_laySteps_43 rfl ?_
    refine x_getI hx hb hown hX M (k := 63) okX12 ra0 (by decide) rfl kw_1075 dX12_laySteps_44 ?_
    refine lv_iconst (v := 1) hx hb dX12_laySteps_47 (by decide) ?_
    refine lv_iadd hx hb dX12_laySteps_48 ?_
    refine x_putI hx hb hown hX M (k := 63) okX12 ra0 (by decide) rfl (Or.inl rfl) rfl rfl kw_1075 dX12_laySteps_49 (fun H locs M => ?_)
    replace q := gen_g M q
    obtain ⟨g_7, -, M, q⟩ := q
    refine lv_iload hx hb dX12_laySteps_52 (lv_at hl 4 rfl) ?_
    refine lv_iload hx hb dX12_laySteps_54 (lv_at hl 0 rfl) ?_
    refine lv_iadd hx hb dX12_laySteps_56 ?_
    refine lv_topi (fun x_8 e_x_8 => ?_)
    replace q := nm_s q e_x_8
    refine lv_istore (lv' := [(4, .int x_8), (5, .int x_3), (0, .ref a0), (1, .int x1), (3, .int x3)]) hx hb dX12_laySteps_57 hl (by decide) rfl (fun ls hl => ?_)
    refine lv_goto (tgt := 3) hx hb dX12_laySteps_59 (by decide) ?_
    exact hk3 _ _ _ _ _ _ _ _ M ra0 (lv_sub hl [2, 3, 4, 0] rfl) q
set_option maxRecDepth 100000 in
theorem l_X12_laySteps_3 (hx : p.tables.exec = Jvm.exec) (hb : c.code = cX12_laySteps) (hml : c.maxLocals = 6) (hr : meth.sig.returnType = none) (hlk : meth.locks = false) (hown : s.vm.findClass RX12 = some m.cls) (hX : Kx D cA lo tS s) (hRf : 5 ≤ R.frames) (hRl : 300 ≤ R.locals) {N : Nat} {rv : Unit} {g1 : Hg} {S : Hs} : ∀ (n : Nat), ∀ (H : Heap) (locs : List Loc) (ls : Array Slot) (g : Hg) (a0 : Nat) (x1 : Int32) (x3 : Int32) (x4 : Int32), Mm D cA lo S g s H locs → Rf lo S a0 12 → lv_has ls 6 [(0, .ref a0), (1, .int x1), (3, .int x3), (4, .int x4)] → n_X12_laySteps_3 N S n g a0 x1 x3 x4 = some (rv, g1) → W p l e R s m args below meth c H locs 0 0 (MQ below (Qcx D cA lo S none S g1 True) args s 0 0 (fun q : Nat => lo ≤ q)) (F0 m 3 ls []) := by
  intro n
  induction n with
  | zero =>
    intro H locs ls g a0 x1 x3 x4 M ra0 hl q
    exact absurd q (by simp [n_X12_laySteps_3])
  | succ n ih => exact w_X12_laySteps_3 hx hb hml hr hlk hown hX hRf hRl (N := N)  ih
set_option maxHeartbeats 4000000 in
set_option maxRecDepth 100000 in
theorem w_X12_laySteps_0 (hx : p.tables.exec = Jvm.exec) (hb : c.code = cX12_laySteps) (hml : c.maxLocals = 6) (hr : meth.sig.returnType = none) (hlk : meth.locks = false) (hown : s.vm.findClass RX12 = some m.cls) (hX : Kx D cA lo tS s) (hRf : 5 ≤ R.frames) (hRl : 300 ≤ R.locals) {N : Nat} {rv : Unit} {g1 : Hg} {S : Hs} : ∀ (H : Heap) (locs : List Loc) (ls : Array Slot) (g : Hg) (a0 : Nat) (x1 : Int32) (x2 : Int32) (x3 : Int32), Mm D cA lo S g s H locs → Rf lo S a0 12 → lv_has ls 6 [(0, .ref a0), (1, .int x1), (2, .int x2), (3, .int x3)] → b_X12_laySteps_0 N S g a0 x1 x2 x3 = some (rv, g1) → W p l e R s m args below meth c H locs 0 0 (MQ below (Qcx D cA lo S none S g1 True) args s 0 0 (fun q : Nat => lo ≤ q)) (F0 m 0 ls []) := by
  intro H locs ls g a0 x1 x2 x3 M ra0 hl q
  unfold b_X12_laySteps_0 at q
  refine lv_iload_n hx hb dX12_laySteps_0 rfl (lv_at hl 2 rfl) ?_
  refine lv_istore (lv' := [(4, .int x2), (0, .ref a0), (1, .int x1), (2, .int x2), (3, .int x3)]) hx hb dX12_laySteps_1 hl (by decide) rfl (fun ls hl => ?_)
  exact l_X12_laySteps_3 hx hb hml hr hlk hown hX hRf hRl (N := N)  N _ _ _ _ _ _ _ _ M ra0 (lv_sub hl [1, 2, 4, 0] rfl) q
set_option maxRecDepth 100000 in
theorem c_X12_laySteps {l : Launch} {D : va_G} {cA : Nat → ClassId} {lo tS N : Nat} {S : Hs} {g g1 : Hg} {rv : Unit} {a0 : Nat} {x1 : Int32} {x2 : Int32} {x3 : Int32} (ra0 : Rf lo S a0 12) (q : f_X12_laySteps N S g a0 x1 x2 x3 = some (rv, g1)) {d : Nat} (hd : 5 ≤ d) : Ctr l yX12_laySteps cX12_laySteps 6 none D cA lo tS [.ref a0, .int x1, .int x2, .int x3] S g d none S g1 True 0 0 := by
  refine x_met (by decide) (Nat.le_of_ble_eq_true rfl) ?_
  intro p e s m below meth c ls hx hb hml hr hlk hown hnm hX M hl
  exact w_X12_laySteps_0 hx hb hml hr hlk hown hX hd (Nat.mul_le_mul_left 60 hd) (N := N) _ _ _ _ _ _ _ _ M ra0 (lv_sub hl [0, 1, 2, 3] rfl) q
def b_X12_top_105 (N : Nat) (S : Hs) (k105 : Hg → Nat → Nat → Int32 → Int32 → Option (Unit × Hg)) (g : Hg) (a0 : Nat) (a1 : Nat) (x2 : Int32) (x3 : Int32) : Option (Unit × Hg) :=
if (8 : Int32) ≤ x3 then (
some ((), g)) else (
nn (rdR g a0 50) (fun a_2 =>
ck (inb x3 (hpL S a_2)) (
ck (inb (x2 + x3) (hpL S a1)) (
nm (wrI g a1 (x2 + x3).toNatClampNeg (rdI g a_2 x3.toNatClampNeg)) (fun g_3 =>
nm (x3 + 1) (fun x_4 =>
k105 g_3 a0 a1 x2 x_4))))))
def n_X12_top_105 (N : Nat) (S : Hs) : Nat → Hg → Nat → Nat → Int32 → Int32 → Option (Unit × Hg)
  | 0 => fun _ _ _ _ _ => none
  | n + 1 => fun g a0 a1 x2 x3 => b_X12_top_105 N S (n_X12_top_105 N S n) g a0 a1 x2 x3
def b_X12_top_71 (N : Nat) (S : Hs) (k71 : Hg → Nat → Nat → Int32 → Int32 → Option (Unit × Hg)) (g : Hg) (a0 : Nat) (a1 : Nat) (x2 : Int32) (x3 : Int32) : Option (Unit × Hg) :=
if x3 < 0 then (
n_X12_top_105 N S N g a0 a1 x2 (0 : Int32)) else (
nn (rdR g a0 48) (fun a_2 =>
nn (rdR g a0 50) (fun a_3 =>
nn (rdR g a0 50) (fun a_4 =>
c2 (f_X12_join N S g a0 a_2 ((8 : Int32) * x3) a_3 (0 : Int32) a_4 (0 : Int32)) (fun u_6 g_5 =>
nm (x3 + (-1)) (fun x_7 =>
k71 g_5 a0 a1 x2 x_7))))))
def n_X12_top_71 (N : Nat) (S : Hs) : Nat → Hg → Nat → Nat → Int32 → Int32 → Option (Unit × Hg)
  | 0 => fun _ _ _ _ _ => none
  | n + 1 => fun g a0 a1 x2 x3 => b_X12_top_71 N S (n_X12_top_71 N S n) g a0 a1 x2 x3
def b_X12_top_30 (N : Nat) (S : Hs) (k30 : Hg → Nat → Nat → Int32 → Int32 → Option (Unit × Hg)) (g : Hg) (a0 : Nat) (a1 : Nat) (x2 : Int32) (x3 : Int32) : Option (Unit × Hg) :=
if (8 : Int32) ≤ x3 then (
nm ((rdI g a0 49) - (2 : Int32)) (fun x_2 =>
n_X12_top_71 N S N g a0 a1 x2 x_2)) else (
nn (rdR g a0 50) (fun a_3 =>
nn (rdR g a0 48) (fun a_4 =>
ck (inb (((8 : Int32) * ((rdI g a0 49) - (1 : Int32))) + x3) (hpL S a_4)) (
ck (inb x3 (hpL S a_3)) (
nm (wrI g a_3 x3.toNatClampNeg (rdI g a_4 (((8 : Int32) * ((rdI g a0 49) - (1 : Int32))) + x3).toNatClampNeg)) (fun g_5 =>
nm (x3 + 1) (fun x_6 =>
k30 g_5 a0 a1 x2 x_6)))))))
def n_X12_top_30 (N : Nat) (S : Hs) : Nat → Hg → Nat → Nat → Int32 → Int32 → Option (Unit × Hg)
  | 0 => fun _ _ _ _ _ => none
  | n + 1 => fun g a0 a1 x2 x3 => b_X12_top_30 N S (n_X12_top_30 N S n) g a0 a1 x2 x3
def b_X12_top_2 (N : Nat) (S : Hs) (k2 : Hg → Nat → Nat → Int32 → Int32 → Option (Unit × Hg)) (g : Hg) (a0 : Nat) (a1 : Nat) (x2 : Int32) (x3 : Int32) : Option (Unit × Hg) :=
if (8 : Int32) ≤ x3 then (
if (rdI g a0 49) = 0 then (
some ((), g)) else (
n_X12_top_30 N S N g a0 a1 x2 (0 : Int32))) else (
ck (inb (x2 + x3) (hpL S a1)) (
nm (wrI g a1 (x2 + x3).toNatClampNeg (0 : Int32)) (fun g_3 =>
nm (x3 + 1) (fun x_4 =>
k2 g_3 a0 a1 x2 x_4))))
def n_X12_top_2 (N : Nat) (S : Hs) : Nat → Hg → Nat → Nat → Int32 → Int32 → Option (Unit × Hg)
  | 0 => fun _ _ _ _ _ => none
  | n + 1 => fun g a0 a1 x2 x3 => b_X12_top_2 N S (n_X12_top_2 N S n) g a0 a1 x2 x3
def b_X12_top_0 (N : Nat) (S : Hs) (g : Hg) (a0 : Nat) (a1 : Nat) (x2 : Int32) : Option (Unit × Hg) :=
n_X12_top_2 N S N g a0 a1 x2 (0 : Int32)
def f_X12_top (N : Nat) (S : Hs) (g : Hg) (a0 : Nat) (a1 : Nat) (x2 : Int32) : Option (Unit × Hg) := b_X12_top_0 N S g a0 a1 x2
set_option maxHeartbeats 4000000 in
set_option maxRecDepth 100000 in
theorem w_X12_top_105 (hx : p.tables.exec = Jvm.exec) (hb : c.code = cX12_top) (hml : c.maxLocals = 4) (hr : meth.sig.returnType = none) (hlk : meth.locks = false) (hown : s.vm.findClass RX12 = some m.cls) (hX : Kx D cA lo tS s) (hRf : 4 ≤ R.frames) (hRl : 240 ≤ R.locals) {N : Nat} {rv : Unit} {g1 : Hg} {S : Hs} {k105 : Hg → Nat → Nat → Int32 → Int32 → Option (Unit × Hg)} (hk105 : ∀ (H : Heap) (locs : List Loc) (ls : Array Slot) (g : Hg) (a0 : Nat) (a1 : Nat) (x2 : Int32) (x3 : Int32), Mm D cA lo S g s H locs → Rf lo S a0 12 → Rf lo S a1 20 → lv_has ls 4 [(0, .ref a0), (1, .ref a1), (2, .int x2), (3, .int x3)] → k105 g a0 a1 x2 x3 = some (rv, g1) → W p l e R s m args below meth c H locs 0 0 (MQ below (Qcx D cA lo S none S g1 True) args s 0 0 (fun q : Nat => lo ≤ q)) (F0 m 105 ls [])) : ∀ (H : Heap) (locs : List Loc) (ls : Array Slot) (g : Hg) (a0 : Nat) (a1 : Nat) (x2 : Int32) (x3 : Int32), Mm D cA lo S g s H locs → Rf lo S a0 12 → Rf lo S a1 20 → lv_has ls 4 [(0, .ref a0), (1, .ref a1), (2, .int x2), (3, .int x3)] → b_X12_top_105 N S k105 g a0 a1 x2 x3 = some (rv, g1) → W p l e R s m args below meth c H locs 0 0 (MQ below (Qcx D cA lo S none S g1 True) args s 0 0 (fun q : Nat => lo ≤ q)) (F0 m 105 ls []) := by
  intro H locs ls g a0 a1 x2 x3 M ra0 ra1 hl q
  unfold b_X12_top_105 at q
  refine lv_iload_n hx hb dX12_top_105 rfl (lv_at hl 3 rfl) ?_
  refine lv_bipush (v := 8) hx hb dX12_top_106 (by decide) ?_
  refine lv_icmp_ge (tgt := 128) hx hb dX12_top_108 (by decide) (fun c_1 => ?_) (fun c_1 => ?_)
  · replace q := if_t c_1 q
    cases q
    exact x_vret hx hb hr hlk M Ext.rf dX12_top_128
  · replace q := if_f c_1 q
    refine lv_aload_n hx hb dX12_top_111 rfl (lv_at hl 1 rfl) ?_
    refine lv_iload_n hx hb dX12_top_112 rfl (lv_at hl 2 rfl) ?_
    refine lv_iload_n hx hb dX12_top_113 rfl (lv_at hl 3 rfl) ?_
    refine lv_iadd hx hb dX12_top_114 ?_
    refine lv_aload_n hx hb dX12_top_115 rfl (lv_at hl 0 rfl) ?_
    replace q := nn_s q
    obtain ⟨a_2, e_a_2, q⟩ := q
    refine x_getR hx hb hown hX M e_a_2 okX12 ra0 (by decide) rfl kw_1062 dX12_top_116 (fun ra_2 => ?_)
    refine lv_iload_n hx hb dX12_top_119 rfl (lv_at hl 3 rfl) ?_
    replace q := ck_s q
    obtain ⟨hin, q⟩ := q
    refine x_iald hx hb hX M ra_2 (inb_in hin) dX12_top_120 ?_
    replace q := ck_s q
    obtain ⟨hin, q⟩ := q
    refine x_iast hx hb hX M ra1 (inb_in hin) dX12_top_121 (fun H locs M => ?_)
    replace q := gen_g M q
    obtain ⟨g_3, -, M, q⟩ := q
    obtain ⟨x_4, e_x_4⟩ : ∃ y : Int32, y = x3 + 1 := ⟨_, rfl⟩
    replace q := nm_s q e_x_4
    refine lv_iinc (v := x_4) (lv' := [(3, .int x_4), (0, .ref a0), (1, .ref a1), (2, .int x2)]) hx hb dX12_top_122 hl (k := 3) rfl (by rw [e_x_4]; rfl) (by decide) rfl (fun ls hl => ?_)
    refine lv_goto (tgt := 105) hx hb dX12_top_125 (by decide) ?_
    exact hk105 _ _ _ _ _ _ _ _ M ra0 ra1 (lv_sub hl [1, 2, 3, 0] rfl) q
set_option maxRecDepth 100000 in
theorem l_X12_top_105 (hx : p.tables.exec = Jvm.exec) (hb : c.code = cX12_top) (hml : c.maxLocals = 4) (hr : meth.sig.returnType = none) (hlk : meth.locks = false) (hown : s.vm.findClass RX12 = some m.cls) (hX : Kx D cA lo tS s) (hRf : 4 ≤ R.frames) (hRl : 240 ≤ R.locals) {N : Nat} {rv : Unit} {g1 : Hg} {S : Hs} : ∀ (n : Nat), ∀ (H : Heap) (locs : List Loc) (ls : Array Slot) (g : Hg) (a0 : Nat) (a1 : Nat) (x2 : Int32) (x3 : Int32), Mm D cA lo S g s H locs → Rf lo S a0 12 → Rf lo S a1 20 → lv_has ls 4 [(0, .ref a0), (1, .ref a1), (2, .int x2), (3, .int x3)] → n_X12_top_105 N S n g a0 a1 x2 x3 = some (rv, g1) → W p l e R s m args below meth c H locs 0 0 (MQ below (Qcx D cA lo S none S g1 True) args s 0 0 (fun q : Nat => lo ≤ q)) (F0 m 105 ls []) := by
  intro n
  induction n with
  | zero =>
    intro H locs ls g a0 a1 x2 x3 M ra0 ra1 hl q
    exact absurd q (by simp [n_X12_top_105])
  | succ n ih => exact w_X12_top_105 hx hb hml hr hlk hown hX hRf hRl (N := N)  ih
set_option maxHeartbeats 4000000 in
set_option maxRecDepth 100000 in
theorem w_X12_top_71 (hx : p.tables.exec = Jvm.exec) (hb : c.code = cX12_top) (hml : c.maxLocals = 4) (hr : meth.sig.returnType = none) (hlk : meth.locks = false) (hown : s.vm.findClass RX12 = some m.cls) (hX : Kx D cA lo tS s) (hRf : 4 ≤ R.frames) (hRl : 240 ≤ R.locals) {N : Nat} {rv : Unit} {g1 : Hg} {S : Hs} {k71 : Hg → Nat → Nat → Int32 → Int32 → Option (Unit × Hg)} (hk71 : ∀ (H : Heap) (locs : List Loc) (ls : Array Slot) (g : Hg) (a0 : Nat) (a1 : Nat) (x2 : Int32) (x3 : Int32), Mm D cA lo S g s H locs → Rf lo S a0 12 → Rf lo S a1 20 → lv_has ls 4 [(0, .ref a0), (1, .ref a1), (2, .int x2), (3, .int x3)] → k71 g a0 a1 x2 x3 = some (rv, g1) → W p l e R s m args below meth c H locs 0 0 (MQ below (Qcx D cA lo S none S g1 True) args s 0 0 (fun q : Nat => lo ≤ q)) (F0 m 71 ls [])) : ∀ (H : Heap) (locs : List Loc) (ls : Array Slot) (g : Hg) (a0 : Nat) (a1 : Nat) (x2 : Int32) (x3 : Int32), Mm D cA lo S g s H locs → Rf lo S a0 12 → Rf lo S a1 20 → lv_has ls 4 [(0, .ref a0), (1, .ref a1), (2, .int x2), (3, .int x3)] → b_X12_top_71 N S k71 g a0 a1 x2 x3 = some (rv, g1) → W p l e R s m args below meth c H locs 0 0 (MQ below (Qcx D cA lo S none S g1 True) args s 0 0 (fun q : Nat => lo ≤ q)) (F0 m 71 ls []) := by
  intro H locs ls g a0 a1 x2 x3 M ra0 ra1 hl q
  unfold b_X12_top_71 at q
  refine lv_iload_n hx hb dX12_top_71 rfl (lv_at hl 3 rfl) ?_
  refine lv_if_lt (tgt := 103) hx hb dX12_top_72 (by decide) (fun c_1 => ?_) (fun c_1 => ?_)
  · replace q := if_t c_1 q
    refine lv_iconst (v := 0) hx hb dX12_top_103 (by decide) ?_
    refine lv_istore_n (lv' := [(3, .int (0 : Int32)), (0, .ref a0), (1, .ref a1), (2, .int x2)]) hx hb dX12_top_104 rfl hl (by decide) rfl (fun ls hl => ?_)
    exact l_X12_top_105 hx hb hml hr hlk hown hX hRf hRl (N := N)  N _ _ _ _ _ _ _ _ M ra0 ra1 (lv_sub hl [1, 2, 3, 0] rfl) q
  · replace q := if_f c_1 q
    refine lv_aload_n hx hb dX12_top_75 rfl (lv_at hl 0 rfl) ?_
    refine lv_aload_n hx hb dX12_top_76 rfl (lv_at hl 0 rfl) ?_
    replace q := nn_s q
    obtain ⟨a_2, e_a_2, q⟩ := q
    refine x_getR hx hb hown hX M e_a_2 okX12 ra0 (by decide) rfl kw_1060 dX12_top_77 (fun ra_2 => ?_)
    refine lv_bipush (v := 8) hx hb dX12_top_80 (by decide) ?_
    refine lv_iload_n hx hb dX12_top_82 rfl (lv_at hl 3 rfl) ?_
    refine lv_imul hx hb dX12_top_83 ?_
    refine lv_aload_n hx hb dX12_top_84 rfl (lv_at hl 0 rfl) ?_
    replace q := nn_s q
    obtain ⟨a_3, e_a_3, q⟩ := q
    refine x_getR hx hb hown hX M e_a_3 okX12 ra0 (by decide) rfl kw_1062 dX12_top_85 (fun ra_3 => ?_)
    refine lv_iconst (v := 0) hx hb dX12_top_88 (by decide) ?_
    refine lv_aload_n hx hb dX12_top_89 rfl (lv_at hl 0 rfl) ?_
    replace q := nn_s q
    obtain ⟨a_4, e_a_4, q⟩ := q
    refine x_getR hx hb hown hX M e_a_4 okX12 ra0 (by decide) rfl kw_1062 dX12_top_90 (fun ra_4 => ?_)
    refine lv_iconst (v := 0) hx hb dX12_top_93 (by decide) ?_
    replace q := c2_s q
    obtain ⟨u_6, g_5, qc, q⟩ := q
    refine x_callV hx hb hml hl.1 hown hX M (S1 := S) (As := [.ref a_2, .int ((8 : Int32) * x3), .ref a_3, .int (0 : Int32), .ref a_4, .int (0 : Int32)]) (rest := []) okX12 ra0 rfl kw_1321 kw_30 mok_X12_join (c_X12_join ra0 ra_2 ra_3 ra_4 qc (Nat.le_refl 3)) kw_1319 rfl rfl dX12_top_94 (Nat.le_of_ble_eq_true rfl) ⟨Nat.le_trans (by decide) hRf, Nat.le_trans (by decide) hRl⟩ (Nat.zero_le _) (Nat.zero_le _) (fun H locs M hEF => ?_)
    obtain ⟨x_7, e_x_7⟩ : ∃ y : Int32, y = x3 + (-1) := ⟨_, rfl⟩
    replace q := nm_s q e_x_7
    refine lv_iinc (v := x_7) (lv' := [(3, .int x_7), (0, .ref a0), (1, .ref a1), (2, .int x2)]) hx hb dX12_top_97 hl (k := 3) rfl (by rw [e_x_7]; rfl) (by decide) rfl (fun ls hl => ?_)
    refine lv_goto (tgt := 71) hx hb dX12_top_100 (by decide) ?_
    exact hk71 _ _ _ _ _ _ _ _ M ra0 ra1 (lv_sub hl [1, 2, 3, 0] rfl) q
set_option maxRecDepth 100000 in
theorem l_X12_top_71 (hx : p.tables.exec = Jvm.exec) (hb : c.code = cX12_top) (hml : c.maxLocals = 4) (hr : meth.sig.returnType = none) (hlk : meth.locks = false) (hown : s.vm.findClass RX12 = some m.cls) (hX : Kx D cA lo tS s) (hRf : 4 ≤ R.frames) (hRl : 240 ≤ R.locals) {N : Nat} {rv : Unit} {g1 : Hg} {S : Hs} : ∀ (n : Nat), ∀ (H : Heap) (locs : List Loc) (ls : Array Slot) (g : Hg) (a0 : Nat) (a1 : Nat) (x2 : Int32) (x3 : Int32), Mm D cA lo S g s H locs → Rf lo S a0 12 → Rf lo S a1 20 → lv_has ls 4 [(0, .ref a0), (1, .ref a1), (2, .int x2), (3, .int x3)] → n_X12_top_71 N S n g a0 a1 x2 x3 = some (rv, g1) → W p l e R s m args below meth c H locs 0 0 (MQ below (Qcx D cA lo S none S g1 True) args s 0 0 (fun q : Nat => lo ≤ q)) (F0 m 71 ls []) := by
  intro n
  induction n with
  | zero =>
    intro H locs ls g a0 a1 x2 x3 M ra0 ra1 hl q
    exact absurd q (by simp [n_X12_top_71])
  | succ n ih => exact w_X12_top_71 hx hb hml hr hlk hown hX hRf hRl (N := N)  ih
set_option maxHeartbeats 4000000 in
set_option maxRecDepth 100000 in
theorem w_X12_top_30 (hx : p.tables.exec = Jvm.exec) (hb : c.code = cX12_top) (hml : c.maxLocals = 4) (hr : meth.sig.returnType = none) (hlk : meth.locks = false) (hown : s.vm.findClass RX12 = some m.cls) (hX : Kx D cA lo tS s) (hRf : 4 ≤ R.frames) (hRl : 240 ≤ R.locals) {N : Nat} {rv : Unit} {g1 : Hg} {S : Hs} {k30 : Hg → Nat → Nat → Int32 → Int32 → Option (Unit × Hg)} (hk30 : ∀ (H : Heap) (locs : List Loc) (ls : Array Slot) (g : Hg) (a0 : Nat) (a1 : Nat) (x2 : Int32) (x3 : Int32), Mm D cA lo S g s H locs → Rf lo S a0 12 → Rf lo S a1 20 → lv_has ls 4 [(0, .ref a0), (1, .ref a1), (2, .int x2), (3, .int x3)] → k30 g a0 a1 x2 x3 = some (rv, g1) → W p l e R s m args below meth c H locs 0 0 (MQ below (Qcx D cA lo S none S g1 True) args s 0 0 (fun q : Nat => lo ≤ q)) (F0 m 30 ls [])) : ∀ (H : Heap) (locs : List Loc) (ls : Array Slot) (g : Hg) (a0 : Nat) (a1 : Nat) (x2 : Int32) (x3 : Int32), Mm D cA lo S g s H locs → Rf lo S a0 12 → Rf lo S a1 20 → lv_has ls 4 [(0, .ref a0), (1, .ref a1), (2, .int x2), (3, .int x3)] → b_X12_top_30 N S k30 g a0 a1 x2 x3 = some (rv, g1) → W p l e R s m args below meth c H locs 0 0 (MQ below (Qcx D cA lo S none S g1 True) args s 0 0 (fun q : Nat => lo ≤ q)) (F0 m 30 ls []) := by
  intro H locs ls g a0 a1 x2 x3 M ra0 ra1 hl q
  unfold b_X12_top_30 at q
  refine lv_iload_n hx hb dX12_top_30 rfl (lv_at hl 3 rfl) ?_
  refine lv_bipush (v := 8) hx hb dX12_top_31 (by decide) ?_
  refine lv_icmp_ge (tgt := 64) hx hb dX12_top_33 (by decide) (fun c_1 => ?_) (fun c_1 => ?_)
  · replace q := if_t c_1 q
    refine lv_aload_n hx hb dX12_top_64 rfl (lv_at hl 0 rfl) ?_
    refine x_getI hx hb hown hX M (k := 49) okX12 ra0 (by decide) rfl kw_1061 dX12_top_65 ?_
    refine lv_iconst (v := 2) hx hb dX12_top_68 (by decide) ?_
    refine lv_isub hx hb dX12_top_69 ?_
    refine lv_topi (fun x_2 e_x_2 => ?_)
    replace q := nm_s q e_x_2
    refine lv_istore_n (lv' := [(3, .int x_2), (0, .ref a0), (1, .ref a1), (2, .int x2)]) hx hb dX12_top_70 rfl hl (by decide) rfl (fun ls hl => ?_)
    exact l_X12_top_71 hx hb hml hr hlk hown hX hRf hRl (N := N)  N _ _ _ _ _ _ _ _ M ra0 ra1 (lv_sub hl [1, 2, 3, 0] rfl) q
  · replace q := if_f c_1 q
    refine lv_aload_n hx hb dX12_top_36 rfl (lv_at hl 0 rfl) ?_
    replace q := nn_s q
    obtain ⟨a_3, e_a_3, q⟩ := q
    refine x_getR hx hb hown hX M e_a_3 okX12 ra0 (by decide) rfl kw_1062 dX12_top_37 (fun ra_3 => ?_)
    refine lv_iload_n hx hb dX12_top_40 rfl (lv_at hl 3 rfl) ?_
    refine lv_aload_n hx hb dX12_top_41 rfl (lv_at hl 0 rfl) ?_
    replace q := nn_s q
    obtain ⟨a_4, e_a_4, q⟩ := q
    refine x_getR hx hb hown hX M e_a_4 okX12 ra0 (by decide) rfl kw_1060 dX12_top_42 (fun ra_4 => ?_)
    refine lv_bipush (v := 8) hx hb dX12_top_45 (by decide) ?_
    refine lv_aload_n hx hb dX12_top_47 rfl (lv_at hl 0 rfl) ?_
    refine x_getI hx hb hown hX M (k := 49) okX12 ra0 (by decide) rfl kw_1061 dX12_top_48 ?_
    refine lv_iconst (v := 1) hx hb dX12_top_51 (by decide) ?_
    refine lv_isub hx hb dX12_top_52 ?_
    refine lv_imul hx hb dX12_top_53 ?_
    refine lv_iload_n hx hb dX12_top_54 rfl (lv_at hl 3 rfl) ?_
    refine lv_iadd hx hb dX12_top_55 ?_
    replace q := ck_s q
    obtain ⟨hin, q⟩ := q
    refine x_iald hx hb hX M ra_4 (inb_in hin) dX12_top_56 ?_
    replace q := ck_s q
    obtain ⟨hin, q⟩ := q
    refine x_iast hx hb hX M ra_3 (inb_in hin) dX12_top_57 (fun H locs M => ?_)
    replace q := gen_g M q
    obtain ⟨g_5, -, M, q⟩ := q
    obtain ⟨x_6, e_x_6⟩ : ∃ y : Int32, y = x3 + 1 := ⟨_, rfl⟩
    replace q := nm_s q e_x_6
    refine lv_iinc (v := x_6) (lv' := [(3, .int x_6), (0, .ref a0), (1, .ref a1), (2, .int x2)]) hx hb dX12_top_58 hl (k := 3) rfl (by rw [e_x_6]; rfl) (by decide) rfl (fun ls hl => ?_)
    refine lv_goto (tgt := 30) hx hb dX12_top_61 (by decide) ?_
    exact hk30 _ _ _ _ _ _ _ _ M ra0 ra1 (lv_sub hl [1, 2, 3, 0] rfl) q
set_option maxRecDepth 100000 in
theorem l_X12_top_30 (hx : p.tables.exec = Jvm.exec) (hb : c.code = cX12_top) (hml : c.maxLocals = 4) (hr : meth.sig.returnType = none) (hlk : meth.locks = false) (hown : s.vm.findClass RX12 = some m.cls) (hX : Kx D cA lo tS s) (hRf : 4 ≤ R.frames) (hRl : 240 ≤ R.locals) {N : Nat} {rv : Unit} {g1 : Hg} {S : Hs} : ∀ (n : Nat), ∀ (H : Heap) (locs : List Loc) (ls : Array Slot) (g : Hg) (a0 : Nat) (a1 : Nat) (x2 : Int32) (x3 : Int32), Mm D cA lo S g s H locs → Rf lo S a0 12 → Rf lo S a1 20 → lv_has ls 4 [(0, .ref a0), (1, .ref a1), (2, .int x2), (3, .int x3)] → n_X12_top_30 N S n g a0 a1 x2 x3 = some (rv, g1) → W p l e R s m args below meth c H locs 0 0 (MQ below (Qcx D cA lo S none S g1 True) args s 0 0 (fun q : Nat => lo ≤ q)) (F0 m 30 ls []) := by
  intro n
  induction n with
  | zero =>
    intro H locs ls g a0 a1 x2 x3 M ra0 ra1 hl q
    exact absurd q (by simp [n_X12_top_30])
  | succ n ih => exact w_X12_top_30 hx hb hml hr hlk hown hX hRf hRl (N := N)  ih
set_option maxHeartbeats 4000000 in
set_option maxRecDepth 100000 in
theorem w_X12_top_2 (hx : p.tables.exec = Jvm.exec) (hb : c.code = cX12_top) (hml : c.maxLocals = 4) (hr : meth.sig.returnType = none) (hlk : meth.locks = false) (hown : s.vm.findClass RX12 = some m.cls) (hX : Kx D cA lo tS s) (hRf : 4 ≤ R.frames) (hRl : 240 ≤ R.locals) {N : Nat} {rv : Unit} {g1 : Hg} {S : Hs} {k2 : Hg → Nat → Nat → Int32 → Int32 → Option (Unit × Hg)} (hk2 : ∀ (H : Heap) (locs : List Loc) (ls : Array Slot) (g : Hg) (a0 : Nat) (a1 : Nat) (x2 : Int32) (x3 : Int32), Mm D cA lo S g s H locs → Rf lo S a0 12 → Rf lo S a1 20 → lv_has ls 4 [(0, .ref a0), (1, .ref a1), (2, .int x2), (3, .int x3)] → k2 g a0 a1 x2 x3 = some (rv, g1) → W p l e R s m args below meth c H locs 0 0 (MQ below (Qcx D cA lo S none S g1 True) args s 0 0 (fun q : Nat => lo ≤ q)) (F0 m 2 ls [])) : ∀ (H : Heap) (locs : List Loc) (ls : Array Slot) (g : Hg) (a0 : Nat) (a1 : Nat) (x2 : Int32) (x3 : Int32), Mm D cA lo S g s H locs → Rf lo S a0 12 → Rf lo S a1 20 → lv_has ls 4 [(0, .ref a0), (1, .ref a1), (2, .int x2), (3, .int x3)] → b_X12_top_2 N S k2 g a0 a1 x2 x3 = some (rv, g1) → W p l e R s m args below meth c H locs 0 0 (MQ below (Qcx D cA lo S none S g1 True) args s 0 0 (fun q : Nat => lo ≤ q)) (F0 m 2 ls []) := by
  intro H locs ls g a0 a1 x2 x3 M ra0 ra1 hl q
  unfold b_X12_top_2 at q
  refine lv_iload_n hx hb dX12_top_2 rfl (lv_at hl 3 rfl) ?_
  refine lv_bipush (v := 8) hx hb dX12_top_3 (by decide) ?_
  refine lv_icmp_ge (tgt := 20) hx hb dX12_top_5 (by decide) (fun c_1 => ?_) (fun c_1 => ?_)
  · replace q := if_t c_1 q
    refine lv_aload_n hx hb dX12_top_20 rfl (lv_at hl 0 rfl) ?_
    refine x_getI hx hb hown hX M (k := 49) okX12 ra0 (by decide) rfl kw_1061 dX12_top_21 ?_
    refine lv_if_ne (tgt := 28) hx hb dX12_top_24 (by decide) (fun c_2 => ?_) (fun c_2 => ?_)
    · replace q := if_f c_2 q
      refine lv_iconst (v := 0) hx hb dX12_top_28 (by decide) ?_
      refine lv_istore_n (lv' := [(3, .int (0 : Int32)), (0, .ref a0), (1, .ref a1), (2, .int x2)]) hx hb dX12_top_29 rfl hl (by decide) rfl (fun ls hl => ?_)
      exact l_X12_top_30 hx hb hml hr hlk hown hX hRf hRl (N := N)  N _ _ _ _ _ _ _ _ M ra0 ra1 (lv_sub hl [1, 2, 3, 0] rfl) q
    · replace q := if_t c_2 q
      cases q
      exact x_vret hx hb hr hlk M Ext.rf dX12_top_27
  · replace q := if_f c_1 q
    refine lv_aload_n hx hb dX12_top_8 rfl (lv_at hl 1 rfl) ?_
    refine lv_iload_n hx hb dX12_top_9 rfl (lv_at hl 2 rfl) ?_
    refine lv_iload_n hx hb dX12_top_10 rfl (lv_at hl 3 rfl) ?_
    refine lv_iadd hx hb dX12_top_11 ?_
    refine lv_iconst (v := 0) hx hb dX12_top_12 (by decide) ?_
    replace q := ck_s q
    obtain ⟨hin, q⟩ := q
    refine x_iast hx hb hX M ra1 (inb_in hin) dX12_top_13 (fun H locs M => ?_)
    replace q := gen_g M q
    obtain ⟨g_3, -, M, q⟩ := q
    obtain ⟨x_4, e_x_4⟩ : ∃ y : Int32, y = x3 + 1 := ⟨_, rfl⟩
    replace q := nm_s q e_x_4
    refine lv_iinc (v := x_4) (lv' := [(3, .int x_4), (0, .ref a0), (1, .ref a1), (2, .int x2)]) hx hb dX12_top_14 hl (k := 3) rfl (by rw [e_x_4]; rfl) (by decide) rfl (fun ls hl => ?_)
    refine lv_goto (tgt := 2) hx hb dX12_top_17 (by decide) ?_
    exact hk2 _ _ _ _ _ _ _ _ M ra0 ra1 (lv_sub hl [1, 2, 3, 0] rfl) q
set_option maxRecDepth 100000 in
theorem l_X12_top_2 (hx : p.tables.exec = Jvm.exec) (hb : c.code = cX12_top) (hml : c.maxLocals = 4) (hr : meth.sig.returnType = none) (hlk : meth.locks = false) (hown : s.vm.findClass RX12 = some m.cls) (hX : Kx D cA lo tS s) (hRf : 4 ≤ R.frames) (hRl : 240 ≤ R.locals) {N : Nat} {rv : Unit} {g1 : Hg} {S : Hs} : ∀ (n : Nat), ∀ (H : Heap) (locs : List Loc) (ls : Array Slot) (g : Hg) (a0 : Nat) (a1 : Nat) (x2 : Int32) (x3 : Int32), Mm D cA lo S g s H locs → Rf lo S a0 12 → Rf lo S a1 20 → lv_has ls 4 [(0, .ref a0), (1, .ref a1), (2, .int x2), (3, .int x3)] → n_X12_top_2 N S n g a0 a1 x2 x3 = some (rv, g1) → W p l e R s m args below meth c H locs 0 0 (MQ below (Qcx D cA lo S none S g1 True) args s 0 0 (fun q : Nat => lo ≤ q)) (F0 m 2 ls []) := by
  intro n
  induction n with
  | zero =>
    intro H locs ls g a0 a1 x2 x3 M ra0 ra1 hl q
    exact absurd q (by simp [n_X12_top_2])
  | succ n ih => exact w_X12_top_2 hx hb hml hr hlk hown hX hRf hRl (N := N)  ih
set_option maxHeartbeats 4000000 in
set_option maxRecDepth 100000 in
theorem w_X12_top_0 (hx : p.tables.exec = Jvm.exec) (hb : c.code = cX12_top) (hml : c.maxLocals = 4) (hr : meth.sig.returnType = none) (hlk : meth.locks = false) (hown : s.vm.findClass RX12 = some m.cls) (hX : Kx D cA lo tS s) (hRf : 4 ≤ R.frames) (hRl : 240 ≤ R.locals) {N : Nat} {rv : Unit} {g1 : Hg} {S : Hs} : ∀ (H : Heap) (locs : List Loc) (ls : Array Slot) (g : Hg) (a0 : Nat) (a1 : Nat) (x2 : Int32), Mm D cA lo S g s H locs → Rf lo S a0 12 → Rf lo S a1 20 → lv_has ls 4 [(0, .ref a0), (1, .ref a1), (2, .int x2)] → b_X12_top_0 N S g a0 a1 x2 = some (rv, g1) → W p l e R s m args below meth c H locs 0 0 (MQ below (Qcx D cA lo S none S g1 True) args s 0 0 (fun q : Nat => lo ≤ q)) (F0 m 0 ls []) := by
  intro H locs ls g a0 a1 x2 M ra0 ra1 hl q
  unfold b_X12_top_0 at q
  refine lv_iconst (v := 0) hx hb dX12_top_0 (by decide) ?_
  refine lv_istore_n (lv' := [(3, .int (0 : Int32)), (0, .ref a0), (1, .ref a1), (2, .int x2)]) hx hb dX12_top_1 rfl hl (by decide) rfl (fun ls hl => ?_)
  exact l_X12_top_2 hx hb hml hr hlk hown hX hRf hRl (N := N)  N _ _ _ _ _ _ _ _ M ra0 ra1 (lv_sub hl [1, 2, 3, 0] rfl) q
set_option maxRecDepth 100000 in
theorem c_X12_top {l : Launch} {D : va_G} {cA : Nat → ClassId} {lo tS N : Nat} {S : Hs} {g g1 : Hg} {rv : Unit} {a0 : Nat} {a1 : Nat} {x2 : Int32} (ra0 : Rf lo S a0 12) (ra1 : Rf lo S a1 20) (q : f_X12_top N S g a0 a1 x2 = some (rv, g1)) {d : Nat} (hd : 4 ≤ d) : Ctr l yX12_top cX12_top 4 none D cA lo tS [.ref a0, .ref a1, .int x2] S g d none S g1 True 0 0 := by
  refine x_met (by decide) (Nat.le_of_ble_eq_true rfl) ?_
  intro p e s m below meth c ls hx hb hml hr hlk hown hnm hX M hl
  exact w_X12_top_0 hx hb hml hr hlk hown hX hd (Nat.mul_le_mul_left 60 hd) (N := N) _ _ _ _ _ _ _ M ra0 ra1 (lv_sub hl [0, 1, 2] rfl) q
def b_X12_isGrownRight_0 (N : Nat) (S : Hs) (g : Hg) (a0 : Nat) (x1 : Int32) (a2 : Nat) (x3 : Int32) (a4 : Nat) (x5 : Int32) : Option (Int32 × Hg) :=
nn (rdR g a0 9) (fun a_1 =>
ck (inb (((8 : Int32) * x1) + (3 : Int32)) (hpL S a_1)) (
nm (rdI g a_1 (((8 : Int32) * x1) + (3 : Int32)).toNatClampNeg) (fun x_2 =>
nm (wrI g a0 49 (0 : Int32)) (fun g_3 =>
nm (wrI g_3 a0 63 (0 : Int32)) (fun g_4 =>
c2 (f_X12_laySteps N S g_4 a0 x1 (0 : Int32) x_2) (fun u_6 g_5 =>
nn (rdR g_5 a0 64) (fun a_7 =>
c2 (f_X12_top N S g_5 a0 a_7 (0 : Int32)) (fun u_9 g_8 =>
nn (rdR g_8 a0 64) (fun a_10 =>
c2 (f_X12_areLike N S g_8 a_10 (0 : Int32) a2 (x3 + (4 : Int32))) (fun x_12 g_11 =>
if x_12 = 0 then (
some ((0 : Int32), g_11)) else (
nn (rdR g_11 a0 9) (fun a_14 =>
ck (inb (((8 : Int32) * x1) + (2 : Int32)) (hpL S a_14)) (
c2 (f_X12_laySteps N S g_11 a0 x1 x_2 (rdI g_11 a_14 (((8 : Int32) * x1) + (2 : Int32)).toNatClampNeg)) (fun u_16 g_15 =>
nn (rdR g_15 a0 64) (fun a_17 =>
c2 (f_X12_top N S g_15 a0 a_17 (0 : Int32)) (fun u_19 g_18 =>
nn (rdR g_18 a0 64) (fun a_20 =>
c2 (f_X12_areLike N S g_18 a_20 (0 : Int32) a4 (x5 + (4 : Int32))) (fun x_22 g_21 =>
ck (zb x_22) (
some (x_22, g_21))))))))))))))))))))
def f_X12_isGrownRight (N : Nat) (S : Hs) (g : Hg) (a0 : Nat) (x1 : Int32) (a2 : Nat) (x3 : Int32) (a4 : Nat) (x5 : Int32) : Option (Int32 × Hg) := b_X12_isGrownRight_0 N S g a0 x1 a2 x3 a4 x5
set_option maxHeartbeats 4000000 in
set_option maxRecDepth 100000 in
theorem w_X12_isGrownRight_0 (hx : p.tables.exec = Jvm.exec) (hb : c.code = cX12_isGrownRight) (hml : c.maxLocals = 7) (hr : meth.sig.returnType = (some .boolean)) (hlk : meth.locks = false) (hown : s.vm.findClass RX12 = some m.cls) (hX : Kx D cA lo tS s) (hRf : 6 ≤ R.frames) (hRl : 360 ≤ R.locals) {N : Nat} {rv : Int32} {g1 : Hg} {S : Hs} : ∀ (H : Heap) (locs : List Loc) (ls : Array Slot) (g : Hg) (a0 : Nat) (x1 : Int32) (a2 : Nat) (x3 : Int32) (a4 : Nat) (x5 : Int32), Mm D cA lo S g s H locs → Rf lo S a0 12 → Rf lo S a2 20 → Rf lo S a4 20 → lv_has ls 7 [(0, .ref a0), (1, .int x1), (2, .ref a2), (3, .int x3), (4, .ref a4), (5, .int x5)] → b_X12_isGrownRight_0 N S g a0 x1 a2 x3 a4 x5 = some (rv, g1) → W p l e R s m args below meth c H locs 0 0 (MQ below (Qcx D cA lo S (some (.int rv)) S g1 True) args s 0 0 (fun q : Nat => lo ≤ q)) (F0 m 0 ls []) := by
  intro H locs ls g a0 x1 a2 x3 a4 x5 M ra0 ra2 ra4 hl q
  unfold b_X12_isGrownRight_0 at q
  refine lv_aload_n hx hb dX12_isGrownRight_0 rfl (lv_at hl 0 rfl) ?_
  replace q := nn_s q
  obtain ⟨a_1, e_a_1, q⟩ := q
  refine x_getR hx hb hown hX M e_a_1 okX12 ra0 (by decide) rfl kw_1021 dX12_isGrownRight_1 (fun ra_1 => ?_)
  refine lv_bipush (v := 8) hx hb dX12_isGrownRight_4 (by decide) ?_
  refine lv_iload_n hx hb dX12_isGrownRight_6 rfl (lv_at hl 1 rfl) ?_
  refine lv_imul hx hb dX12_isGrownRight_7 ?_
  refine lv_iconst (v := 3) hx hb dX12_isGrownRight_8 (by decide) ?_
  refine lv_iadd hx hb dX12_isGrownRight_9 ?_
  replace q := ck_s q
  obtain ⟨hin, q⟩ := q
  refine x_iald hx hb hX M ra_1 (inb_in hin) dX12_isGrownRight_10 ?_
  refine lv_topi (fun x_2 e_x_2 => ?_)
  replace q := nm_s q e_x_2
  refine lv_istore (lv' := [(6, .int x_2), (0, .ref a0), (1, .int x1), (2, .ref a2), (3, .int x3), (4, .ref a4), (5, .int x5)]) hx hb dX12_isGrownRight_11 hl (by decide) rfl (fun ls hl => ?_)
  refine lv_aload_n hx hb dX12_isGrownRight_13 rfl (lv_at hl 1 rfl) ?_
  refine lv_iconst (v := 0) hx hb dX12_isGrownRight_14 (by decide) ?_
  refine x_putI hx hb hown hX M (k := 49) okX12 ra0 (by decide) rfl (Or.inl rfl) rfl rfl kw_1061 dX12_isGrownRight_15 (fun H locs M => ?_)
  replace q := gen_g M q
  obtain ⟨g_3, -, M, q⟩ := q
  refine lv_aload_n hx hb dX12_isGrownRight_18 rfl (lv_at hl 1 rfl) ?_
  refine lv_iconst (v := 0) hx hb dX12_isGrownRight_19 (by decide) ?_
  refine x_putI hx hb hown hX M (k := 63) okX12 ra0 (by decide) rfl (Or.inl rfl) rfl rfl kw_1075 dX12_isGrownRight_20 (fun H locs M => ?_)
  replace q := gen_g M q
  obtain ⟨g_4, -, M, q⟩ := q
  refine lv_aload_n hx hb dX12_isGrownRight_23 rfl (lv_at hl 1 rfl) ?_
  refine lv_iload_n hx hb dX12_isGrownRight_24 rfl (lv_at hl 2 rfl) ?_
  refine lv_iconst (v := 0) hx hb dX12_isGrownRight_25 (by decide) ?_
  refine lv_iload hx hb dX12_isGrownRight_26 (lv_at hl 0 rfl) ?_
  replace q := c2_s q
  obtain ⟨u_6, g_5, qc, q⟩ := q
  refine x_callV hx hb hml hl.1 hown hX M (S1 := S) (As := [.int x1, .int (0 : Int32), .int x_2]) (rest := []) okX12 ra0 rfl kw_1429 kw_45 mok_X12_laySteps (c_X12_laySteps ra0 qc (Nat.le_refl 5)) kw_1427 rfl rfl dX12_isGrownRight_28 (Nat.le_of_ble_eq_true rfl) ⟨Nat.le_trans (by decide) hRf, Nat.le_trans (by decide) hRl⟩ (Nat.zero_le _) (Nat.zero_le _) (fun H locs M hEF => ?_)
  refine lv_aload_n hx hb dX12_isGrownRight_31 rfl (lv_at hl 1 rfl) ?_
  refine lv_aload_n hx hb dX12_isGrownRight_32 rfl (lv_at hl 1 rfl) ?_
  replace q := nn_s q
  obtain ⟨a_7, e_a_7, q⟩ := q
  refine x_getR hx hb hown hX M e_a_7 okX12 ra0 (by decide) rfl kw_1076 dX12_isGrownRight_33 (fun ra_7 => ?_)
  refine lv_iconst (v := 0) hx hb dX12_isGrownRight_36 (by decide) ?_
  replace q := c2_s q
  obtain ⟨u_9, g_8, qc, q⟩ := q
  refine x_callV hx hb hml hl.1 hown hX M (S1 := S) (As := [.ref a_7, .int (0 : Int32)]) (rest := []) okX12 ra0 rfl kw_1329 kw_32 mok_X12_top (c_X12_top ra0 ra_7 qc (Nat.le_refl 4)) kw_1327 rfl rfl dX12_isGrownRight_37 (Nat.le_of_ble_eq_true rfl) ⟨Nat.le_trans (by decide) hRf, Nat.le_trans (by decide) hRl⟩ (Nat.zero_le _) (Nat.zero_le _) (fun H locs M hEF => ?_)
  refine lv_aload_n hx hb dX12_isGrownRight_40 rfl (lv_at hl 1 rfl) ?_
  replace q := nn_s q
  obtain ⟨a_10, e_a_10, q⟩ := q
  refine x_getR hx hb hown hX M e_a_10 okX12 ra0 (by decide) rfl kw_1076 dX12_isGrownRight_41 (fun ra_10 => ?_)
  refine lv_iconst (v := 0) hx hb dX12_isGrownRight_44 (by decide) ?_
  refine lv_aload_n hx hb dX12_isGrownRight_45 rfl (lv_at hl 3 rfl) ?_
  refine lv_iload_n hx hb dX12_isGrownRight_46 rfl (lv_at hl 4 rfl) ?_
  refine lv_iconst (v := 4) hx hb dX12_isGrownRight_47 (by decide) ?_
  refine lv_iadd hx hb dX12_isGrownRight_48 ?_
  replace q := c2_s q
  obtain ⟨x_12, g_11, qc, q⟩ := q
  refine x_callS hx hb hml hl.1 hown hX M (S1 := S) (As := [.ref a_10, .int (0 : Int32), .ref a2, .int (x3 + (4 : Int32))]) (rest := []) kw_1432 mok_X12_areLike (c_X12_areLike ra_10 ra2 qc (Nat.le_refl 1)) kw_1431 rfl rfl dX12_isGrownRight_49 (Nat.le_of_ble_eq_true rfl) ⟨Nat.le_trans (by decide) hRf, Nat.le_trans (by decide) hRl⟩ (Nat.zero_le _) (Nat.zero_le _) (fun H locs M hEF => ?_)
  refine lv_if_ne (tgt := 57) hx hb dX12_isGrownRight_52 (by decide) (fun c_13 => ?_) (fun c_13 => ?_)
  · replace q := if_f c_13 q
    refine lv_aload_n hx hb dX12_isGrownRight_57 rfl (lv_at hl 1 rfl) ?_
    refine lv_iload_n hx hb dX12_isGrownRight_58 rfl (lv_at hl 2 rfl) ?_
    refine lv_iload hx hb dX12_isGrownRight_59 (lv_at hl 0 rfl) ?_
    refine lv_aload_n hx hb dX12_isGrownRight_61 rfl (lv_at hl 1 rfl) ?_
    replace q := nn_s q
    obtain ⟨a_14, e_a_14, q⟩ := q
    refine x_getR hx hb hown hX M e_a_14 okX12 ra0 (by decide) rfl kw_1021 dX12_isGrownRight_62 (fun ra_14 => ?_)
    refine lv_bipush (v := 8) hx hb dX12_isGrownRight_65 (by decide) ?_
    refine lv_iload_n hx hb dX12_isGrownRight_67 rfl (lv_at hl 2 rfl) ?_
    refine lv_imul hx hb dX12_isGrownRight_68 ?_
    refine lv_iconst (v := 2) hx hb dX12_isGrownRight_69 (by decide) ?_
    refine lv_iadd hx hb dX12_isGrownRight_70 ?_
    replace q := ck_s q
    obtain ⟨hin, q⟩ := q
    refine x_iald hx hb hX M ra_14 (inb_in hin) dX12_isGrownRight_71 ?_
    replace q := c2_s q
    obtain ⟨u_16, g_15, qc, q⟩ := q
    refine x_callV hx hb hml hl.1 hown hX M (S1 := S) (As := [.int x1, .int x_2, .int (rdI g_11 a_14 (((8 : Int32) * x1) + (2 : Int32)).toNatClampNeg)]) (rest := []) okX12 ra0 rfl kw_1429 kw_45 mok_X12_laySteps (c_X12_laySteps ra0 qc (Nat.le_refl 5)) kw_1427 rfl rfl dX12_isGrownRight_72 (Nat.le_of_ble_eq_true rfl) ⟨Nat.le_trans (by decide) hRf, Nat.le_trans (by decide) hRl⟩ (Nat.zero_le _) (Nat.zero_le _) (fun H locs M hEF => ?_)
    refine lv_aload_n hx hb dX12_isGrownRight_75 rfl (lv_at hl 1 rfl) ?_
    refine lv_aload_n hx hb dX12_isGrownRight_76 rfl (lv_at hl 1 rfl) ?_
    replace q := nn_s q
    obtain ⟨a_17, e_a_17, q⟩ := q
    refine x_getR hx hb hown hX M e_a_17 okX12 ra0 (by decide) rfl kw_1076 dX12_isGrownRight_77 (fun ra_17 => ?_)
    refine lv_iconst (v := 0) hx hb dX12_isGrownRight_80 (by decide) ?_
    replace q := c2_s q
    obtain ⟨u_19, g_18, qc, q⟩ := q
    refine x_callV hx hb hml hl.1 hown hX M (S1 := S) (As := [.ref a_17, .int (0 : Int32)]) (rest := []) okX12 ra0 rfl kw_1329 kw_32 mok_X12_top (c_X12_top ra0 ra_17 qc (Nat.le_refl 4)) kw_1327 rfl rfl dX12_isGrownRight_81 (Nat.le_of_ble_eq_true rfl) ⟨Nat.le_trans (by decide) hRf, Nat.le_trans (by decide) hRl⟩ (Nat.zero_le _) (Nat.zero_le _) (fun H locs M hEF => ?_)
    refine lv_aload_n hx hb dX12_isGrownRight_84 rfl (lv_at hl 1 rfl) ?_
    replace q := nn_s q
    obtain ⟨a_20, e_a_20, q⟩ := q
    refine x_getR hx hb hown hX M e_a_20 okX12 ra0 (by decide) rfl kw_1076 dX12_isGrownRight_85 (fun ra_20 => ?_)
    refine lv_iconst (v := 0) hx hb dX12_isGrownRight_88 (by decide) ?_
    refine lv_aload hx hb dX12_isGrownRight_89 (lv_at hl 5 rfl) ?_
    refine lv_iload hx hb dX12_isGrownRight_91 (lv_at hl 6 rfl) ?_
    refine lv_iconst (v := 4) hx hb dX12_isGrownRight_93 (by decide) ?_
    refine lv_iadd hx hb dX12_isGrownRight_94 ?_
    replace q := c2_s q
    obtain ⟨x_22, g_21, qc, q⟩ := q
    refine x_callS hx hb hml hl.1 hown hX M (S1 := S) (As := [.ref a_20, .int (0 : Int32), .ref a4, .int (x5 + (4 : Int32))]) (rest := []) kw_1432 mok_X12_areLike (c_X12_areLike ra_20 ra4 qc (Nat.le_refl 1)) kw_1431 rfl rfl dX12_isGrownRight_95 (Nat.le_of_ble_eq_true rfl) ⟨Nat.le_trans (by decide) hRf, Nat.le_trans (by decide) hRl⟩ (Nat.zero_le _) (Nat.zero_le _) (fun H locs M hEF => ?_)
    replace q := ck_s q
    obtain ⟨hz, q⟩ := q
    cases q
    exact x_zret hx hb hr hlk (zb_nar hz) M Ext.rf dX12_isGrownRight_98
  · replace q := if_t c_13 q
    refine lv_iconst (v := 0) hx hb dX12_isGrownRight_55 (by decide) ?_
    cases q
    exact x_zret hx hb hr hlk rfl M Ext.rf dX12_isGrownRight_56
set_option maxRecDepth 100000 in
theorem c_X12_isGrownRight {l : Launch} {D : va_G} {cA : Nat → ClassId} {lo tS N : Nat} {S : Hs} {g g1 : Hg} {rv : Int32} {a0 : Nat} {x1 : Int32} {a2 : Nat} {x3 : Int32} {a4 : Nat} {x5 : Int32} (ra0 : Rf lo S a0 12) (ra2 : Rf lo S a2 20) (ra4 : Rf lo S a4 20) (q : f_X12_isGrownRight N S g a0 x1 a2 x3 a4 x5 = some (rv, g1)) {d : Nat} (hd : 6 ≤ d) : Ctr l yX12_isGrownRight cX12_isGrownRight 7 (some .boolean) D cA lo tS [.ref a0, .int x1, .ref a2, .int x3, .ref a4, .int x5] S g d (some (.int rv)) S g1 True 0 0 := by
  refine x_met (by decide) (Nat.le_of_ble_eq_true rfl) ?_
  intro p e s m below meth c ls hx hb hml hr hlk hown hnm hX M hl
  exact w_X12_isGrownRight_0 hx hb hml hr hlk hown hX hd (Nat.mul_le_mul_left 60 hd) (N := N) _ _ _ _ _ _ _ _ _ _ M ra0 ra2 ra4 (lv_sub hl [0, 1, 2, 3, 4, 5] rfl) q
def b_X12_isReader_0 (N : Nat) (S : Hs) (g : Hg) (x1 : Int32) : Option (Int32 × Hg) :=
if x1 < 0 then (
some ((0 : Int32), g)) else (
if (12 : Int32) ≤ x1 then (
some ((0 : Int32), g)) else (
some ((1 : Int32), g)))
def f_X12_isReader (N : Nat) (S : Hs) (g : Hg) (a0 : Nat) (x1 : Int32) : Option (Int32 × Hg) := b_X12_isReader_0 N S g x1
set_option maxHeartbeats 4000000 in
set_option maxRecDepth 100000 in
theorem w_X12_isReader_0 (hx : p.tables.exec = Jvm.exec) (hb : c.code = cX12_isReader) (hml : c.maxLocals = 2) (hr : meth.sig.returnType = (some .boolean)) (hlk : meth.locks = false) (hown : s.vm.findClass RX12 = some m.cls) (hX : Kx D cA lo tS s) (hRf : 1 ≤ R.frames) (hRl : 60 ≤ R.locals) {N : Nat} {rv : Int32} {g1 : Hg} {S : Hs} : ∀ (H : Heap) (locs : List Loc) (ls : Array Slot) (g : Hg) (x1 : Int32), Mm D cA lo S g s H locs → lv_has ls 2 [(1, .int x1)] → b_X12_isReader_0 N S g x1 = some (rv, g1) → W p l e R s m args below meth c H locs 0 0 (MQ below (Qcx D cA lo S (some (.int rv)) S g1 True) args s 0 0 (fun q : Nat => lo ≤ q)) (F0 m 0 ls []) := by
  intro H locs ls g x1 M hl q
  unfold b_X12_isReader_0 at q
  refine lv_iload_n hx hb dX12_isReader_0 rfl (lv_at hl 0 rfl) ?_
  refine lv_if_lt (tgt := 14) hx hb dX12_isReader_1 (by decide) (fun c_1 => ?_) (fun c_1 => ?_)
  · replace q := if_t c_1 q
    refine lv_iconst (v := 0) hx hb dX12_isReader_14 (by decide) ?_
    cases q
    exact x_zret hx hb hr hlk rfl M Ext.rf dX12_isReader_15
  · replace q := if_f c_1 q
    refine lv_iload_n hx hb dX12_isReader_4 rfl (lv_at hl 0 rfl) ?_
    refine lv_bipush (v := 12) hx hb dX12_isReader_5 (by decide) ?_
    refine lv_icmp_ge (tgt := 14) hx hb dX12_isReader_7 (by decide) (fun c_2 => ?_) (fun c_2 => ?_)
    · replace q := if_t c_2 q
      refine lv_iconst (v := 0) hx hb dX12_isReader_14 (by decide) ?_
      cases q
      exact x_zret hx hb hr hlk rfl M Ext.rf dX12_isReader_15
    · replace q := if_f c_2 q
      refine lv_iconst (v := 1) hx hb dX12_isReader_10 (by decide) ?_
      refine lv_goto (tgt := 15) hx hb dX12_isReader_11 (by decide) ?_
      cases q
      exact x_zret hx hb hr hlk rfl M Ext.rf dX12_isReader_15
set_option maxRecDepth 100000 in
theorem c_X12_isReader {l : Launch} {D : va_G} {cA : Nat → ClassId} {lo tS N : Nat} {S : Hs} {g g1 : Hg} {rv : Int32} {a0 : Nat} {x1 : Int32} (ra0 : Rf lo S a0 12) (q : f_X12_isReader N S g a0 x1 = some (rv, g1)) {d : Nat} (hd : 1 ≤ d) : Ctr l yX12_isReader cX12_isReader 2 (some .boolean) D cA lo tS [.ref a0, .int x1] S g d (some (.int rv)) S g1 True 0 0 := by
  refine x_met (by decide) (Nat.le_of_ble_eq_true rfl) ?_
  intro p e s m below meth c ls hx hb hml hr hlk hown hnm hX M hl
  exact w_X12_isReader_0 hx hb hml hr hlk hown hX hd (Nat.mul_le_mul_left 60 hd) (N := N) _ _ _ _ _ M  (lv_sub hl [1] rfl) q
def b_X12_entrySum_0 (N : Nat) (S : Hs) (g : Hg) (a0 : Nat) (x1 : Int32) (y2 : Int64) (a4 : Nat) (x5 : Int32) : Option (Unit × Hg) :=
nn (rdR g a0 43) (fun a_1 =>
ck (inb (0 : Int32) (hpL S a_1)) (
nm (wrI g a_1 (0 : Int32).toNatClampNeg (1 : Int32)) (fun g_2 =>
nn (rdR g_2 a0 43) (fun a_3 =>
ck (inb (1 : Int32) (hpL S a_3)) (
nm (wrI g_2 a_3 (1 : Int32).toNatClampNeg x1) (fun g_4 =>
nn (rdR g_4 a0 43) (fun a_5 =>
ck (inb (2 : Int32) (hpL S a_5)) (
nm (wrI g_4 a_5 (2 : Int32).toNatClampNeg ((y2 >>> ((32 : Int32).toInt64 &&& 63))).toInt32) (fun g_6 =>
nn (rdR g_6 a0 43) (fun a_7 =>
ck (inb (3 : Int32) (hpL S a_7)) (
nm (wrI g_6 a_7 (3 : Int32).toNatClampNeg (y2).toInt32) (fun g_8 =>
c2 (f_X12_mix N S g_8 a0 (4 : Int32)) (fun u_10 g_9 =>
c2 (f_X12_toRow N S g_9 a0 a4 x5) (fun u_12 g_11 =>
some ((), g_11)))))))))))))))
def f_X12_entrySum (N : Nat) (S : Hs) (g : Hg) (a0 : Nat) (x1 : Int32) (y2 : Int64) (a4 : Nat) (x5 : Int32) : Option (Unit × Hg) := b_X12_entrySum_0 N S g a0 x1 y2 a4 x5
set_option maxHeartbeats 4000000 in
set_option maxRecDepth 100000 in
theorem w_X12_entrySum_0 (hx : p.tables.exec = Jvm.exec) (hb : c.code = cX12_entrySum) (hml : c.maxLocals = 6) (hr : meth.sig.returnType = none) (hlk : meth.locks = false) (hown : s.vm.findClass RX12 = some m.cls) (hX : Kx D cA lo tS s) (hRf : 3 ≤ R.frames) (hRl : 180 ≤ R.locals) {N : Nat} {rv : Unit} {g1 : Hg} {S : Hs} : ∀ (H : Heap) (locs : List Loc) (ls : Array Slot) (g : Hg) (a0 : Nat) (x1 : Int32) (y2 : Int64) (a4 : Nat) (x5 : Int32), Mm D cA lo S g s H locs → Rf lo S a0 12 → Rf lo S a4 20 → lv_has ls 6 [(0, .ref a0), (1, .int x1), (2, .long y2), (4, .ref a4), (5, .int x5)] → b_X12_entrySum_0 N S g a0 x1 y2 a4 x5 = some (rv, g1) → W p l e R s m args below meth c H locs 0 0 (MQ below (Qcx D cA lo S none S g1 True) args s 0 0 (fun q : Nat => lo ≤ q)) (F0 m 0 ls []) := by
  intro H locs ls g a0 x1 y2 a4 x5 M ra0 ra4 hl q
  unfold b_X12_entrySum_0 at q
  refine lv_aload_n hx hb dX12_entrySum_0 rfl (lv_at hl 0 rfl) ?_
  replace q := nn_s q
  obtain ⟨a_1, e_a_1, q⟩ := q
  refine x_getR hx hb hown hX M e_a_1 okX12 ra0 (by decide) rfl kw_1055 dX12_entrySum_1 (fun ra_1 => ?_)
  refine lv_iconst (v := 0) hx hb dX12_entrySum_4 (by decide) ?_
  refine lv_iconst (v := 1) hx hb dX12_entrySum_5 (by decide) ?_
  replace q := ck_s q
  obtain ⟨hin, q⟩ := q
  refine x_iast hx hb hX M ra_1 (inb_in hin) dX12_entrySum_6 (fun H locs M => ?_)
  replace q := gen_g M q
  obtain ⟨g_2, -, M, q⟩ := q
  refine lv_aload_n hx hb dX12_entrySum_7 rfl (lv_at hl 0 rfl) ?_
  replace q := nn_s q
  obtain ⟨a_3, e_a_3, q⟩ := q
  refine x_getR hx hb hown hX M e_a_3 okX12 ra0 (by decide) rfl kw_1055 dX12_entrySum_8 (fun ra_3 => ?_)
  refine lv_iconst (v := 1) hx hb dX12_entrySum_11 (by decide) ?_
  refine lv_iload_n hx hb dX12_entrySum_12 rfl (lv_at hl 1 rfl) ?_
  replace q := ck_s q
  obtain ⟨hin, q⟩ := q
  refine x_iast hx hb hX M ra_3 (inb_in hin) dX12_entrySum_13 (fun H locs M => ?_)
  replace q := gen_g M q
  obtain ⟨g_4, -, M, q⟩ := q
  refine lv_aload_n hx hb dX12_entrySum_14 rfl (lv_at hl 0 rfl) ?_
  replace q := nn_s q
  obtain ⟨a_5, e_a_5, q⟩ := q
  refine x_getR hx hb hown hX M e_a_5 okX12 ra0 (by decide) rfl kw_1055 dX12_entrySum_15 (fun ra_5 => ?_)
  refine lv_iconst (v := 2) hx hb dX12_entrySum_18 (by decide) ?_
  refine lv_lload_n hx hb dX12_entrySum_19 rfl (lv_at hl 2 rfl) ?_
  refine lv_bipush (v := 32) hx hb dX12_entrySum_20 (by decide) ?_
  refine lv_lshr hx hb dX12_entrySum_22 rfl ?_
  refine lv_l2i hx hb dX12_entrySum_23 rfl ?_
  replace q := ck_s q
  obtain ⟨hin, q⟩ := q
  refine x_iast hx hb hX M ra_5 (inb_in hin) dX12_entrySum_24 (fun H locs M => ?_)
  replace q := gen_g M q
  obtain ⟨g_6, -, M, q⟩ := q
  refine lv_aload_n hx hb dX12_entrySum_25 rfl (lv_at hl 0 rfl) ?_
  replace q := nn_s q
  obtain ⟨a_7, e_a_7, q⟩ := q
  refine x_getR hx hb hown hX M e_a_7 okX12 ra0 (by decide) rfl kw_1055 dX12_entrySum_26 (fun ra_7 => ?_)
  refine lv_iconst (v := 3) hx hb dX12_entrySum_29 (by decide) ?_
  refine lv_lload_n hx hb dX12_entrySum_30 rfl (lv_at hl 2 rfl) ?_
  refine lv_l2i hx hb dX12_entrySum_31 rfl ?_
  replace q := ck_s q
  obtain ⟨hin, q⟩ := q
  refine x_iast hx hb hX M ra_7 (inb_in hin) dX12_entrySum_32 (fun H locs M => ?_)
  replace q := gen_g M q
  obtain ⟨g_8, -, M, q⟩ := q
  refine lv_aload_n hx hb dX12_entrySum_33 rfl (lv_at hl 0 rfl) ?_
  refine lv_iconst (v := 4) hx hb dX12_entrySum_34 (by decide) ?_
  replace q := c2_s q
  obtain ⟨u_10, g_9, qc, q⟩ := q
  refine x_callV hx hb hml hl.1 hown hX M (S1 := S) (As := [.int (4 : Int32)]) (rest := []) okX12 ra0 rfl kw_1281 kw_23 mok_X12_mix (c_X12_mix ra0 qc (Nat.le_refl 2)) kw_1279 rfl rfl dX12_entrySum_35 (Nat.le_of_ble_eq_true rfl) ⟨Nat.le_trans (by decide) hRf, Nat.le_trans (by decide) hRl⟩ (Nat.zero_le _) (Nat.zero_le _) (fun H locs M hEF => ?_)
  refine lv_aload_n hx hb dX12_entrySum_38 rfl (lv_at hl 0 rfl) ?_
  refine lv_aload hx hb dX12_entrySum_39 (lv_at hl 3 rfl) ?_
  refine lv_iload hx hb dX12_entrySum_41 (lv_at hl 4 rfl) ?_
  replace q := c2_s q
  obtain ⟨u_12, g_11, qc, q⟩ := q
  refine x_callV hx hb hml hl.1 hown hX M (S1 := S) (As := [.ref a4, .int x5]) (rest := []) okX12 ra0 rfl kw_1290 kw_25 mok_X12_toRow (c_X12_toRow ra0 ra4 qc (Nat.le_refl 1)) kw_1288 rfl rfl dX12_entrySum_43 (Nat.le_of_ble_eq_true rfl) ⟨Nat.le_trans (by decide) hRf, Nat.le_trans (by decide) hRl⟩ (Nat.zero_le _) (Nat.zero_le _) (fun H locs M hEF => ?_)
  cases q
  exact x_vret hx hb hr hlk M Ext.rf dX12_entrySum_46
set_option maxRecDepth 100000 in
theorem c_X12_entrySum {l : Launch} {D : va_G} {cA : Nat → ClassId} {lo tS N : Nat} {S : Hs} {g g1 : Hg} {rv : Unit} {a0 : Nat} {x1 : Int32} {y2 : Int64} {a4 : Nat} {x5 : Int32} (ra0 : Rf lo S a0 12) (ra4 : Rf lo S a4 20) (q : f_X12_entrySum N S g a0 x1 y2 a4 x5 = some (rv, g1)) {d : Nat} (hd : 3 ≤ d) : Ctr l yX12_entrySum cX12_entrySum 6 none D cA lo tS [.ref a0, .int x1, .long y2, .ref a4, .int x5] S g d none S g1 True 0 0 := by
  refine x_met (by decide) (Nat.le_of_ble_eq_true rfl) ?_
  intro p e s m below meth c ls hx hb hml hr hlk hown hnm hX M hl
  exact w_X12_entrySum_0 hx hb hml hr hlk hown hX hd (Nat.mul_le_mul_left 60 hd) (N := N) _ _ _ _ _ _ _ _ _ M ra0 ra4 (lv_sub hl [0, 1, 2, 3, 4] rfl) q
end W14
