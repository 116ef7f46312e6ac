/-! reader, blame, smear, all -/
theorem t_reader {B N : Nat} (hN : 40000 ≤ N) {S : Hs} {g : Hg} {ad : Nat → Nat} {m : Nat × Nat} {h : AHo} {kc : AKp} (hJ : Jn B S g ad m h kc) (x1 : Int32) (x2 : Int32) : StN B S g ad m kc (fun g => f_X11_reader N S g (ad 0) x1 x2) (fun g => f_X12_reader N S g (ad 20000) x1 x2) := by
  obtain ⟨hC, hR, hW, hK⟩ := id hJ
  have h6 := hW.1
  have hI := hC.inj
  have nl := hR.nl
  have bad : x1 < 0 ∨ nI 12 ≤ x1 → StN B S g ad m kc (fun g => f_X11_reader N S g (ad 0) x1 x2) (fun g => f_X12_reader N S g (ad 20000) x1 x2) := fun hx => by
    refine StN.same hJ (r := NEG) ?_ ?_
    · show b_X11_reader_0 N S g _ _ _ = _
      unfold b_X11_reader_0
      by_cases c : x1 < 0
      · rw [if_pos c]; rfl
      · rw [if_neg c, if_neg (show ¬ x1 < (12 : Int32) from i_nlt (by decide) (hx.resolve_left c))]; rfl
    · show b_X12_reader_0 N S g _ _ _ = _
      unfold b_X12_reader_0
      rw [m_isReaderF hx, c2_S, if_pos z00]
      rfl
  rcases pk_ix x1 (show 12 < 2 ^ 31 by decide) with c | c | ⟨r, hr, rfl⟩
  · exact bad (Or.inl c)
  · exact bad (Or.inr c)
  have cx : ¬ nI r < (0 : Int32) := nI_pos (by omega)
  have cx12 : nI r < (12 : Int32) := nI_lt (b := 12) hr (by decide)
  have ir := m_isReaderT (N := N) (S := S) (g := g) (a := ad 20000) hr
  have p13 : rdR _ (ad 20000) 13 = some (ad 20014) := hR.1.p 13 (by decide)
  have l13 : hpL _ (ad 20014) = 336 := hR.1.l 13 (by decide) rfl
  have p14 : rdR _ (ad 20000) 14 = some (ad 20015) := hR.1.p 14 (by decide)
  have l14 : hpL _ (ad 20015) = 12 := hR.1.l 14 (by decide) rfl
  have vh := hR.has hr
  by_cases c3 : x2 = 3
  · subst c3
    have q4 : rdR g (ad 100) 4 = some (ad 104) := hC.2.2.1.1.1.2.2.2.1
    have ql : hpL S (ad 104) = 12 := hC.2.2.1.1.2.2.2.2.1
    have vt : g.1 (ad 104) r = h.2.2.1.2 r := (hC.2.2.1.2.2.2.2.1 r hr).2.2
    have wt := hR.tm hr
    refine StN.same hJ (r := h.2.2.1.2 r) ?_ ?_
    · show b_X11_reader_0 N S g _ _ _ = _
      unfold b_X11_reader_0
      rw [if_neg cx, if_pos cx12, if_pos rfl, hC.p3, nn_S, q4, nn_S]
      simp (disch := (first | assumption | omega | (apply Inj.ne <;> first | assumption | omega) | fail)) only [nn_S, nm_D, ck_T, c2_S, on_N, on_S, lit, mNEG, nI_add, pk_mul, inb_nI, nI_clamp, wrI_row, wrL_row, rdR_rowI, rdR_rowL, rdI_def, rdL_def, rowI_same, rowI_ne, rowI_rowI, rowL_same, rowL_ne, rowL_1, rowI_21, upd_same, upd_ne, nI_le_T, nI_le_F, nI_lt_T, nI_lt_F, nI_eq_F, nI_NEG, NEG_lt0, nI_p, eq_self, if_true, if_false, ql, vt]
    · show b_X12_reader_0 N S g _ _ _ = _
      unfold b_X12_reader_0
      simp (disch := (first | assumption | omega | (apply Inj.ne <;> first | assumption | omega) | fail)) only [nn_S, nm_D, ck_T, c2_S, on_N, on_S, lit, mNEG, nI_add, pk_mul, inb_nI, nI_clamp, wrI_row, wrL_row, rdR_rowI, rdR_rowL, rdI_def, rdL_def, rowI_same, rowI_ne, rowI_rowI, rowL_same, rowL_ne, rowL_1, rowI_21, upd_same, upd_ne, nI_le_T, nI_le_F, nI_lt_T, nI_lt_F, nI_eq_F, nI_NEG, NEG_lt0, nI_p, eq_self, if_true, if_false, ir, p13, l13, wt]
  have href : ∀ v, (x2 < 0 ∨ nI 3 ≤ x2) → v = NEG → f_X12_reader N S g (ad 20000) (nI r) x2 = some (v, g) := fun v hx hv => by
    subst hv
    show b_X12_reader_0 N S g _ _ _ = _
    unfold b_X12_reader_0
    rw [ir, c2_S, if_neg z10, if_neg c3]
    by_cases c : x2 < 0
    · rw [if_pos c]; rfl
    · rw [if_neg c, if_pos (show (3 : Int32) ≤ x2 from hx.resolve_left c)]; rfl
  have pre : ∀ k, c2 (f_X1_headOf N S g (ad 100) (nI r)) (fun o_6 g_5 => on o_6 (some ((-1 : Int32), g_5)) (fun a_7 => nm x2 (fun x_8 => if x_8 = 0 then some ((rdI g_5 a_7 4), g_5) else (if x_8 = 1 then some ((rdI g_5 a_7 5), g_5) else (if x_8 = 2 then some ((rdI g_5 a_7 6), g_5) else some ((-1 : Int32), g_5)))))) = k → f_X11_reader N S g (ad 0) (nI r) x2 = k := fun k hk => by
    show b_X11_reader_0 N S g _ _ _ = _
    unfold b_X11_reader_0
    rw [if_neg cx, if_pos cx12, if_neg c3, hC.p3, nn_S]
    exact hk
  cases ht : (h.2.2.1.1 r).1 with
  | false =>
    rw [ht] at vh
    refine StN.same hJ (r := NEG) (pre _ ?_) ?_
    · rw [hC.headN hr ht, c2_S, on_N]; rfl
    · rcases pk_ix x2 (show 3 < 2 ^ 31 by decide) with c | c | ⟨j, hj, rfl⟩
      · exact href _ (Or.inl c) rfl
      · exact href _ (Or.inr c) rfl
      · show b_X12_reader_0 N S g _ _ _ = _
        unfold b_X12_reader_0
        simp (disch := (first | assumption | omega | (apply Inj.ne <;> first | assumption | omega) | fail)) only [nn_S, nm_D, ck_T, c2_S, on_N, on_S, lit, mNEG, nI_add, pk_mul, inb_nI, nI_clamp, wrI_row, wrL_row, rdR_rowI, rdR_rowL, rdI_def, rdL_def, rowI_same, rowI_ne, rowI_rowI, rowL_same, rowL_ne, rowL_1, rowI_21, upd_same, upd_ne, nI_le_T, nI_le_F, nI_lt_T, nI_lt_F, nI_eq_F, nI_NEG, NEG_lt0, nI_p, eq_self, if_true, if_false, ir, p14, l14, vh, bI_f]
  | true =>
    rw [ht] at vh
    have hH := hC.hdo hr
    have hHr := hR.rd hr
    have u4 : g.1 (ad (500 + 4 * r)) 4 = (h.2.2.1.1 r).2.1.1 := hH.2.1.2.1
    have u5 : g.1 (ad (500 + 4 * r)) 5 = (h.2.2.1.1 r).2.1.2.1 := hH.2.1.2.2.1
    have u6 : g.1 (ad (500 + 4 * r)) 6 = (h.2.2.1.1 r).2.1.2.2 := hH.2.1.2.2.2
    have w0 : g.1 (ad 20014) (28 * r) = (h.2.2.1.1 r).2.1.1 := hHr.1.1
    have w1 : g.1 (ad 20014) (28 * r + 1) = (h.2.2.1.1 r).2.1.2.1 := hHr.1.2.1
    have w2 : g.1 (ad 20014) (28 * r + 2) = (h.2.2.1.1 r).2.1.2.2 := hHr.1.2.2
    by_cases d0 : x2 = 0
    · subst d0
      refine StN.same hJ (r := (h.2.2.1.1 r).2.1.1) (pre _ ?_) ?_
      · rw [hC.headT hr ht, c2_S, on_S, nm_D, if_pos rfl, rdI_def, u4]
      · show b_X12_reader_0 N S g _ _ _ = _
        unfold b_X12_reader_0
        simp (disch := (first | assumption | omega | (apply Inj.ne <;> first | assumption | omega) | fail)) only [nn_S, nm_D, ck_T, c2_S, on_N, on_S, lit, mNEG, nI_add, pk_mul, inb_nI, nI_clamp, wrI_row, wrL_row, rdR_rowI, rdR_rowL, rdI_def, rdL_def, rowI_same, rowI_ne, rowI_rowI, rowL_same, rowL_ne, rowL_1, rowI_21, upd_same, upd_ne, nI_le_T, nI_le_F, nI_lt_T, nI_lt_F, nI_eq_F, nI_NEG, NEG_lt0, nI_p, eq_self, if_true, if_false, ir, p13, l13, p14, l14, vh, bI_t, w0, Nat.add_zero]
    by_cases d1 : x2 = 1
    · subst d1
      refine StN.same hJ (r := (h.2.2.1.1 r).2.1.2.1) (pre _ ?_) ?_
      · rw [hC.headT hr ht, c2_S, on_S, nm_D, if_neg d0, if_pos rfl, rdI_def, u5]
      · show b_X12_reader_0 N S g _ _ _ = _
        unfold b_X12_reader_0
        simp (disch := (first | assumption | omega | (apply Inj.ne <;> first | assumption | omega) | fail)) only [nn_S, nm_D, ck_T, c2_S, on_N, on_S, lit, mNEG, nI_add, pk_mul, inb_nI, nI_clamp, wrI_row, wrL_row, rdR_rowI, rdR_rowL, rdI_def, rdL_def, rowI_same, rowI_ne, rowI_rowI, rowL_same, rowL_ne, rowL_1, rowI_21, upd_same, upd_ne, nI_le_T, nI_le_F, nI_lt_T, nI_lt_F, nI_eq_F, nI_NEG, NEG_lt0, nI_p, eq_self, if_true, if_false, ir, p13, l13, p14, l14, vh, bI_t, w1]
    by_cases d2 : x2 = 2
    · subst d2
      refine StN.same hJ (r := (h.2.2.1.1 r).2.1.2.2) (pre _ ?_) ?_
      · rw [hC.headT hr ht, c2_S, on_S, nm_D, if_neg d0, if_neg d1, if_pos rfl, rdI_def, u6]
      · show b_X12_reader_0 N S g _ _ _ = _
        unfold b_X12_reader_0
        simp (disch := (first | assumption | omega | (apply Inj.ne <;> first | assumption | omega) | fail)) only [nn_S, nm_D, ck_T, c2_S, on_N, on_S, lit, mNEG, nI_add, pk_mul, inb_nI, nI_clamp, wrI_row, wrL_row, rdR_rowI, rdR_rowL, rdI_def, rdL_def, rowI_same, rowI_ne, rowI_rowI, rowL_same, rowL_ne, rowL_1, rowI_21, upd_same, upd_ne, nI_le_T, nI_le_F, nI_lt_T, nI_lt_F, nI_eq_F, nI_NEG, NEG_lt0, nI_p, eq_self, if_true, if_false, ir, p13, l13, p14, l14, vh, bI_t, w2]
    refine StN.same hJ (r := NEG) (pre _ ?_) (href _ ?_ rfl)
    · rw [hC.headT hr ht, c2_S, on_S, nm_D, if_neg d0, if_neg d1, if_neg d2]; rfl
    · rcases pk_ix x2 (show 3 < 2 ^ 31 by decide) with c | c | ⟨j, hj, rfl⟩
      · exact Or.inl c
      · exact Or.inr c
      · exfalso
        have : j = 0 ∨ j = 1 ∨ j = 2 := by omega
        rcases this with rfl | rfl | rfl
        · exact d0 rfl
        · exact d1 rfl
        · exact d2 rfl
theorem CJ.nb60 {B : Nat} {S : Hs} {g : Hg} {ad : Nat → Nat} {m : Nat × Nat} {h : AHo} {kc : AKp} (hJ : CJ B S g ad m h kc) : h.2.2.2.1.1 ≤ 60 := Nat.le_trans hJ.2.2.1.2.2.2.2.2.1.1 hJ.2.2.1.2.2.2.2.2.1.2.1
theorem CJ.b1 {B N : Nat} {S : Hs} {g : Hg} {ad : Nat → Nat} {m : Nat × Nat} {h : AHo} {kc : AKp} {k : Nat} (hJ : CJ B S g ad m h kc) (hk : k < h.2.2.2.1.1) : f_X1_firstBlamed N S g (ad 100) (nI k) = some (some (ad (700 + 4 * k)), g) := c_firstBlamed hJ.2.2.1.1 hJ.2.2.1.2.1 hJ.2.2.1.2.2.2.2.2.1 hk
theorem CJ.b2 {B N : Nat} {S : Hs} {g : Hg} {ad : Nat → Nat} {m : Nat × Nat} {h : AHo} {kc : AKp} {k : Nat} (hJ : CJ B S g ad m h kc) (hk : k < h.2.2.2.1.1) : f_X1_secondBlamed N S g (ad 100) (nI k) = some (some (ad (1000 + 4 * k)), g) := c_secondBlamed hJ.2.2.1.1 hJ.2.2.1.2.1 hJ.2.2.1.2.2.2.2.2.1 hk
theorem CJ.bo {B : Nat} {S : Hs} {g : Hg} {ad : Nat → Nat} {m : Nat × Nat} {h : AHo} {kc : AKp} {k : Nat} (hJ : CJ B S g ad m h kc) (hk : k < h.2.2.2.1.1) : HdO S g ad (700 + 4 * k) (h.2.2.2.1.2.1 k) ∧ HdO S g ad (1000 + 4 * k) (h.2.2.2.1.2.2 k) := hJ.2.2.1.2.2.2.2.2.1.2.2.2.2 k hk
theorem RJ.nb {S : Hs} {g : Hg} {ad : Nat → Nat} {h : AHo} {kc : AKp} (hR : RJ S g ad h kc) : g.1 (ad 20000) 16 = nI h.2.2.2.1.1 := hR.2.1.2.2.2.1.1
theorem RJ.bo {S : Hs} {g : Hg} {ad : Nat → Nat} {h : AHo} {kc : AKp} {k : Nat} (hR : RJ S g ad h kc) (hk : k < h.2.2.2.1.1) : RHd g ad 20016 (56 * k) (h.2.2.2.1.2.1 k) ∧ RHd g ad 20016 (56 * k + 28) (h.2.2.2.1.2.2 k) := hR.2.1.2.2.2.1.2 k hk
theorem m_isMarked {N : Nat} (hN : 40000 ≤ N) {S : Hs} {g : Hg} {ad : Nat → Nat} (hI : Inj ad) {p : Nat} {H : AHd} (hp : p + 28 ≤ 3360) (hR : RfP S g ad) (hH : RHd g ad 20016 p H) : ∃ g1, f_X12_isMarked N S g (ad 20000) (nI p) = some (bI (MARKB H), g1) ∧ Fr ad (fun r => r = 20044 ∨ r = 20045) g g1 := by
  have p15 : rdR _ (ad 20000) 15 = some (ad 20016) := hR.p 15 (by decide)
  have l15 : hpL _ (ad 20016) = 3360 := hR.l 15 (by decide) rfl
  have l44 : hpL _ (ad 20045) = 8 := hR.l 44 (by decide) rfl
  obtain ⟨g1, a1, a2, a3⟩ := m_mark (N := N) hN hI (rr := 20016) (tp := p + 4) (tr := p + 12) H.2.1.2.2 H.2.1.1 (by omega) (by omega) (by omega) (by omega) hR hH.2.1 hH.2.2.1
  have hR1 := hR.fr a2.1
  have p15' : rdR _ (ad 20000) 15 = some (ad 20016) := hR1.p 15 (by decide)
  have p44' : rdR _ (ad 20000) 44 = some (ad 20045) := hR1.p 44 (by decide)
  have v0 : g.1 (ad 20016) p = H.2.1.1 := hH.1.1
  have v2 : g.1 (ad 20016) (p + 2) = H.2.1.2.2 := hH.1.2.2
  have hk1 : eq8 (seg (g1.1 (ad 20016)) (p + 20)) H.2.2.2.2 := by rw [a2.I (by omega)]; exact hH.2.2.2
  have ha := m_areLike (N := N) hN (S := S) (g := g1) (a := ad 20045) (p := 0) (b := ad 20016) (q := p + 20) (u := MARK H.2.1.2.2 H.2.1.1 H.2.2.1 H.2.2.2.1) (v := H.2.2.2.2) (by omega) (by omega) (by omega) (by omega) (fun j hj => by show g1.1 (ad 20045) (0 + j) = _; rw [Nat.zero_add]; exact a3 j hj) hk1
  refine ⟨g1, ?_, a2⟩
  show b_X12_isMarked_0 N S g _ _ = _
  unfold b_X12_isMarked_0
  simp (disch := (first | assumption | omega | (apply Inj.ne <;> first | assumption | omega) | fail)) only [nn_S, nm_D, ck_T, c2_S, on_N, on_S, lit, mNEG, nI_add, pk_mul, inb_nI, nI_clamp, wrI_row, wrL_row, rdR_rowI, rdR_rowL, rdI_def, rdL_def, rowI_same, rowI_ne, rowI_rowI, rowL_same, rowL_ne, rowL_1, rowI_21, upd_same, upd_ne, nI_le_T, nI_le_F, nI_lt_T, nI_lt_F, nI_eq_F, nI_NEG, NEG_lt0, nI_p, eq_self, if_true, if_false, p15, l15, v0, v2, a1, p15', p44', ha, zb_bI]
  rfl
theorem t_blame {B N : Nat} (hN : 40000 ≤ N) {S : Hs} {g : Hg} {ad : Nat → Nat} {m : Nat × Nat} {h : AHo} {kc : AKp} (hJ : Jn B S g ad m h kc) (x1 : Int32) (x2 : Int32) : StN B S g ad m kc (fun g => f_X11_blame N S g (ad 0) x1 x2) (fun g => f_X12_blame_ N S g (ad 20000) x1 x2) := by
  obtain ⟨hC, hR, hW, hK⟩ := id hJ
  have h6 := hW.1
  have hI := hC.inj
  have nl := hR.nl
  have n60 := hC.nb60
  have nbr := hR.nb
  have bad : x1 < 0 ∨ nI h.2.2.2.1.1 ≤ x1 → StN B S g ad m kc (fun g => f_X11_blame N S g (ad 0) x1 x2) (fun g => f_X12_blame_ N S g (ad 20000) x1 x2) := fun hx => by
    refine StN.same hJ (r := NEG) ?_ ?_
    · show b_X11_blame_0 N S g _ _ _ = _
      unfold b_X11_blame_0
      rw [hC.p3, nn_S, c_firstBlamedF hC.2.2.1.2.1 hx, c2_S, hC.p3, nn_S, c_secondBlamedF hC.2.2.1.2.1 hx, c2_S, on_N]
      rfl
    · show b_X12_blame__0 N S g _ _ _ = _
      unfold b_X12_blame__0
      rw [rdI_def, nbr]
      by_cases c : x1 < 0
      · rw [if_pos c]; rfl
      · rw [if_neg c, if_neg (i_nlt (by omega) (hx.resolve_left c))]; rfl
  rcases pk_ix x1 (show h.2.2.2.1.1 < 2 ^ 31 by omega) with c | c | ⟨k, hk, rfl⟩
  · exact bad (Or.inl c)
  · exact bad (Or.inr c)
  obtain ⟨hH1, hH2⟩ := hC.bo hk
  obtain ⟨hB1, hB2⟩ := hR.bo hk
  have p15 : rdR _ (ad 20000) 15 = some (ad 20016) := hR.1.p 15 (by decide)
  have l15 : hpL _ (ad 20016) = 3360 := hR.1.l 15 (by decide) rfl
  have pre : ∀ v, (nm x2 (fun x_9 => if x_9 = 0 then some ((rdI g (ad (700 + 4 * k)) 4), g) else (if x_9 = 1 then some ((rdI g (ad (1000 + 4 * k)) 4), g) else (if x_9 = 2 then some ((rdI g (ad (700 + 4 * k)) 6), g) else (if x_9 = 3 then nn (rdR g (ad 0) 2) (fun a_10 => c2 (f_X8_isMarked N S g a_10 (ad (700 + 4 * k))) (fun x_12 g_11 => if x_12 = 0 then some ((0 : Int32), g_11) else nn (rdR g_11 (ad 0) 2) (fun a_14 => c2 (f_X8_isMarked N S g_11 a_14 (ad (1000 + 4 * k))) (fun x_16 g_15 => if x_16 = 0 then some ((0 : Int32), g_15) else some ((1 : Int32), g_15))))) else (if x_9 = 4 then nn (rdR g (ad (700 + 4 * k)) 0) (fun a_18 => ck (inb (0 : Int32) (hpL S a_18)) (some ((rdI g a_18 (0 : Int32).toNatClampNeg), g))) else (if x_9 = 5 then nn (rdR g (ad (1000 + 4 * k)) 0) (fun a_19 => ck (inb (0 : Int32) (hpL S a_19)) (some ((rdI g a_19 (0 : Int32).toNatClampNeg), g))) else (if x_9 = 6 then nn (rdR g (ad (700 + 4 * k)) 1) (fun a_20 => ck (inb (0 : Int32) (hpL S a_20)) (some ((rdI g a_20 (0 : Int32).toNatClampNeg), g))) else (if x_9 = 7 then nn (rdR g (ad (1000 + 4 * k)) 1) (fun a_21 => ck (inb (0 : Int32) (hpL S a_21)) (some ((rdI g a_21 (0 : Int32).toNatClampNeg), g))) else some ((-1 : Int32), g))))))))) = v) → f_X11_blame N S g (ad 0) (nI k) x2 = v := fun v hv => by
    show b_X11_blame_0 N S g _ _ _ = _
    unfold b_X11_blame_0
    rw [hC.p3, nn_S, hC.b1 hk, c2_S, hC.p3, nn_S, hC.b2 hk, c2_S, on_S, on_S]
    exact hv
  by_cases c0 : x2 = 0
  · subst c0
    have vc : g.1 (ad (700 + 4 * k)) 4 = (h.2.2.2.1.2.1 k).2.1.1 := hH1.2.1.2.1
    have vr : g.1 (ad 20016) (56 * k) = (h.2.2.2.1.2.1 k).2.1.1 := hB1.1.1
    refine StN.same hJ (r := (h.2.2.2.1.2.1 k).2.1.1) (pre _ ?_) ?_
    · rw [nm_D, if_pos rfl, rdI_def, vc]
    · show b_X12_blame__0 N S g _ _ _ = _
      unfold b_X12_blame__0
      simp (disch := (first | assumption | omega | (apply Inj.ne <;> first | assumption | omega) | fail)) only [nn_S, nm_D, ck_T, c2_S, on_N, on_S, lit, mNEG, nI_add, pk_mul, inb_nI, nI_clamp, wrI_row, wrL_row, rdR_rowI, rdR_rowL, rdI_def, rdL_def, rowI_same, rowI_ne, rowI_rowI, rowL_same, rowL_ne, rowL_1, rowI_21, upd_same, upd_ne, nI_le_T, nI_le_F, nI_lt_T, nI_lt_F, nI_eq_F, nI_NEG, NEG_lt0, nI_p, eq_self, if_true, if_false, nbr, p15, l15, vr]
  by_cases c1 : x2 = 1
  · subst c1
    have vc : g.1 (ad (1000 + 4 * k)) 4 = (h.2.2.2.1.2.2 k).2.1.1 := hH2.2.1.2.1
    have vr : g.1 (ad 20016) (56 * k + 28) = (h.2.2.2.1.2.2 k).2.1.1 := hB2.1.1
    refine StN.same hJ (r := (h.2.2.2.1.2.2 k).2.1.1) (pre _ ?_) ?_
    · rw [nm_D, if_neg c0, if_pos rfl, rdI_def, vc]
    · show b_X12_blame__0 N S g _ _ _ = _
      unfold b_X12_blame__0
      simp (disch := (first | assumption | omega | (apply Inj.ne <;> first | assumption | omega) | fail)) only [nn_S, nm_D, ck_T, c2_S, on_N, on_S, lit, mNEG, nI_add, pk_mul, inb_nI, nI_clamp, wrI_row, wrL_row, rdR_rowI, rdR_rowL, rdI_def, rdL_def, rowI_same, rowI_ne, rowI_rowI, rowL_same, rowL_ne, rowL_1, rowI_21, upd_same, upd_ne, nI_le_T, nI_le_F, nI_lt_T, nI_lt_F, nI_eq_F, nI_NEG, NEG_lt0, nI_p, eq_self, if_true, if_false, nbr, p15, l15, vr]
  by_cases c2 : x2 = 2
  · subst c2
    have vc : g.1 (ad (700 + 4 * k)) 6 = (h.2.2.2.1.2.1 k).2.1.2.2 := hH1.2.1.2.2.2
    have vr : g.1 (ad 20016) (56 * k + 2) = (h.2.2.2.1.2.1 k).2.1.2.2 := hB1.1.2.2
    refine StN.same hJ (r := (h.2.2.2.1.2.1 k).2.1.2.2) (pre _ ?_) ?_
    · rw [nm_D, if_neg c0, if_neg c1, if_pos rfl, rdI_def, vc]
    · show b_X12_blame__0 N S g _ _ _ = _
      unfold b_X12_blame__0
      simp (disch := (first | assumption | omega | (apply Inj.ne <;> first | assumption | omega) | fail)) only [nn_S, nm_D, ck_T, c2_S, on_N, on_S, lit, mNEG, nI_add, pk_mul, inb_nI, nI_clamp, wrI_row, wrL_row, rdR_rowI, rdR_rowL, rdI_def, rdL_def, rowI_same, rowI_ne, rowI_rowI, rowL_same, rowL_ne, rowL_1, rowI_21, upd_same, upd_ne, nI_le_T, nI_le_F, nI_lt_T, nI_lt_F, nI_eq_F, nI_NEG, NEG_lt0, nI_p, eq_self, if_true, if_false, nbr, p15, l15, vr]
  by_cases c3 : x2 = 3
  · subst c3
    have p2 : rdR g (ad 0) 2 = some (ad 9) := hC.sc.2.2.2.2.2.2.1
    obtain ⟨g1, a1, a2⟩ := c_isMarked (N := N) hN hI (h := 700 + 4 * k) (by omega) hC.sc hH1
    have hcl := pre _ rfl
    rw [nm_D, if_neg c0, if_neg c1, if_neg c2, if_pos rfl, p2, nn_S, a1, c2_S] at hcl
    cases hm1 : MARKB (h.2.2.2.1.2.1 k) with
    | false =>
      rw [hm1] at hcl a1
      have hR1 := hR.fr a2 (fun r hr => by omega)
      obtain ⟨g2, b1, b2⟩ := m_isMarked (N := N) hN hI (p := 56 * k) (by omega) hR1.1 (hR1.bo hk).1
      rw [hm1] at b1
      rw [if_pos (show bI false = (0 : Int32) from rfl)] at hcl
      refine StN.scr hJ hcl a2 (fun q hq => by omega) ?_ (FM.fr b2 (by omega)) (fun q hq => by omega)
      have nbr1 := hR1.nb
      show b_X12_blame__0 N S g1 _ _ _ = _
      unfold b_X12_blame__0
      simp (disch := (first | assumption | omega | (apply Inj.ne <;> first | assumption | omega) | fail)) only [nn_S, nm_D, ck_T, c2_S, on_N, on_S, lit, mNEG, nI_add, pk_mul, inb_nI, nI_clamp, wrI_row, wrL_row, rdR_rowI, rdR_rowL, rdI_def, rdL_def, rowI_same, rowI_ne, rowI_rowI, rowL_same, rowL_ne, rowL_1, rowI_21, upd_same, upd_ne, nI_le_T, nI_le_F, nI_lt_T, nI_lt_F, nI_eq_F, nI_NEG, NEG_lt0, nI_p, eq_self, if_true, if_false, nbr1, b1, bI_f]
    | true =>
      rw [hm1] at hcl a1
      obtain ⟨g2, b1, b2⟩ := c_isMarked (N := N) hN hI (h := 1000 + 4 * k) (by omega) (hC.sc.fr a2.1) (hH2.fr a2 (fun r r1 r2 => by omega))
      have p2' : rdR g1 (ad 0) 2 = some (ad 9) := by rw [a2.P]; exact p2
      rw [if_neg (show ¬ bI true = (0 : Int32) from z10), p2', nn_S, b1, c2_S, c_if] at hcl
      have f2 := a2.tr b2
      have hR1 := hR.fr f2 (fun r hr => by omega)
      obtain ⟨g3, d1, d2⟩ := m_isMarked (N := N) hN hI (p := 56 * k) (by omega) hR1.1 (hR1.bo hk).1
      have hR2 := hR1.fm (FM.fr d2 (by omega)) (fun r hr => by omega)
      obtain ⟨g4, e1, e2⟩ := m_isMarked (N := N) hN hI (p := 56 * k + 28) (by omega) hR2.1 (hR2.bo hk).2
      rw [hm1] at d1
      refine StN.scr hJ hcl f2 (fun q hq => by omega) ?_ (FM.fr (d2.tr e2) (by omega)) (fun q hq => by omega)
      have nbr1 := hR1.nb
      show b_X12_blame__0 N S g2 _ _ _ = _
      unfold b_X12_blame__0
      simp (disch := (first | assumption | omega | (apply Inj.ne <;> first | assumption | omega) | fail)) only [nn_S, nm_D, ck_T, c2_S, on_N, on_S, lit, mNEG, nI_add, pk_mul, inb_nI, nI_clamp, wrI_row, wrL_row, rdR_rowI, rdR_rowL, rdI_def, rdL_def, rowI_same, rowI_ne, rowI_rowI, rowL_same, rowL_ne, rowL_1, rowI_21, upd_same, upd_ne, nI_le_T, nI_le_F, nI_lt_T, nI_lt_F, nI_eq_F, nI_NEG, NEG_lt0, nI_p, eq_self, if_true, if_false, nbr1, d1, bI_t, e1]
      exact c_if _ _
  by_cases c4 : x2 = 4
  · subst c4
    have vc : g.1 (ad (700 + 4 * k + 1)) 0 = (h.2.2.2.1.2.1 k).2.2.1 0 := hH1.2.2.1 0 (by decide)
    have vr : g.1 (ad 20016) (56 * k + 4) = (h.2.2.2.1.2.1 k).2.2.1 0 := hB1.2.1 0 (by decide)
    have vl : hpL S (ad (700 + 4 * k + 1)) = 8 := hH1.1.2.2.2.1
    refine StN.same hJ (r := (h.2.2.2.1.2.1 k).2.2.1 0) (pre _ ?_) ?_
    · rw [nm_D, if_neg c0, if_neg c1, if_neg c2, if_neg c3, if_pos rfl, hH1.1.1, nn_S]
      simp (disch := (first | assumption | omega | (apply Inj.ne <;> first | assumption | omega) | fail)) only [nn_S, nm_D, ck_T, c2_S, on_N, on_S, lit, mNEG, nI_add, pk_mul, inb_nI, nI_clamp, wrI_row, wrL_row, rdR_rowI, rdR_rowL, rdI_def, rdL_def, rowI_same, rowI_ne, rowI_rowI, rowL_same, rowL_ne, rowL_1, rowI_21, upd_same, upd_ne, nI_le_T, nI_le_F, nI_lt_T, nI_lt_F, nI_eq_F, nI_NEG, NEG_lt0, nI_p, eq_self, if_true, if_false, vl, vc]
    · show b_X12_blame__0 N S g _ _ _ = _
      unfold b_X12_blame__0
      simp (disch := (first | assumption | omega | (apply Inj.ne <;> first | assumption | omega) | fail)) only [nn_S, nm_D, ck_T, c2_S, on_N, on_S, lit, mNEG, nI_add, pk_mul, inb_nI, nI_clamp, wrI_row, wrL_row, rdR_rowI, rdR_rowL, rdI_def, rdL_def, rowI_same, rowI_ne, rowI_rowI, rowL_same, rowL_ne, rowL_1, rowI_21, upd_same, upd_ne, nI_le_T, nI_le_F, nI_lt_T, nI_lt_F, nI_eq_F, nI_NEG, NEG_lt0, nI_p, eq_self, if_true, if_false, nbr, p15, l15, vr]
  by_cases c5 : x2 = 5
  · subst c5
    have vc : g.1 (ad (1000 + 4 * k + 1)) 0 = (h.2.2.2.1.2.2 k).2.2.1 0 := hH2.2.2.1 0 (by decide)
    have vr : g.1 (ad 20016) (56 * k + 28 + 4) = (h.2.2.2.1.2.2 k).2.2.1 0 := hB2.2.1 0 (by decide)
    have vl : hpL S (ad (1000 + 4 * k + 1)) = 8 := hH2.1.2.2.2.1
    refine StN.same hJ (r := (h.2.2.2.1.2.2 k).2.2.1 0) (pre _ ?_) ?_
    · rw [nm_D, if_neg c0, if_neg c1, if_neg c2, if_neg c3, if_neg c4, if_pos rfl, hH2.1.1, nn_S]
      simp (disch := (first | assumption | omega | (apply Inj.ne <;> first | assumption | omega) | fail)) only [nn_S, nm_D, ck_T, c2_S, on_N, on_S, lit, mNEG, nI_add, pk_mul, inb_nI, nI_clamp, wrI_row, wrL_row, rdR_rowI, rdR_rowL, rdI_def, rdL_def, rowI_same, rowI_ne, rowI_rowI, rowL_same, rowL_ne, rowL_1, rowI_21, upd_same, upd_ne, nI_le_T, nI_le_F, nI_lt_T, nI_lt_F, nI_eq_F, nI_NEG, NEG_lt0, nI_p, eq_self, if_true, if_false, vl, vc]
    · show b_X12_blame__0 N S g _ _ _ = _
      unfold b_X12_blame__0
      simp (disch := (first | assumption | omega | (apply Inj.ne <;> first | assumption | omega) | fail)) only [nn_S, nm_D, ck_T, c2_S, on_N, on_S, lit, mNEG, nI_add, pk_mul, inb_nI, nI_clamp, wrI_row, wrL_row, rdR_rowI, rdR_rowL, rdI_def, rdL_def, rowI_same, rowI_ne, rowI_rowI, rowL_same, rowL_ne, rowL_1, rowI_21, upd_same, upd_ne, nI_le_T, nI_le_F, nI_lt_T, nI_lt_F, nI_eq_F, nI_NEG, NEG_lt0, nI_p, eq_self, if_true, if_false, nbr, p15, l15, vr]
  by_cases c6 : x2 = 6
  · subst c6
    have vc : g.1 (ad (700 + 4 * k + 2)) 0 = (h.2.2.2.1.2.1 k).2.2.2.1 0 := hH1.2.2.2.1 0 (by decide)
    have vr : g.1 (ad 20016) (56 * k + 12) = (h.2.2.2.1.2.1 k).2.2.2.1 0 := hB1.2.2.1 0 (by decide)
    have vl : hpL S (ad (700 + 4 * k + 2)) = 8 := hH1.1.2.2.2.2.1
    refine StN.same hJ (r := (h.2.2.2.1.2.1 k).2.2.2.1 0) (pre _ ?_) ?_
    · rw [nm_D, if_neg c0, if_neg c1, if_neg c2, if_neg c3, if_neg c4, if_neg c5, if_pos rfl, hH1.1.2.1, nn_S]
      simp (disch := (first | assumption | omega | (apply Inj.ne <;> first | assumption | omega) | fail)) only [nn_S, nm_D, ck_T, c2_S, on_N, on_S, lit, mNEG, nI_add, pk_mul, inb_nI, nI_clamp, wrI_row, wrL_row, rdR_rowI, rdR_rowL, rdI_def, rdL_def, rowI_same, rowI_ne, rowI_rowI, rowL_same, rowL_ne, rowL_1, rowI_21, upd_same, upd_ne, nI_le_T, nI_le_F, nI_lt_T, nI_lt_F, nI_eq_F, nI_NEG, NEG_lt0, nI_p, eq_self, if_true, if_false, vl, vc]
    · show b_X12_blame__0 N S g _ _ _ = _
      unfold b_X12_blame__0
      simp (disch := (first | assumption | omega | (apply Inj.ne <;> first | assumption | omega) | fail)) only [nn_S, nm_D, ck_T, c2_S, on_N, on_S, lit, mNEG, nI_add, pk_mul, inb_nI, nI_clamp, wrI_row, wrL_row, rdR_rowI, rdR_rowL, rdI_def, rdL_def, rowI_same, rowI_ne, rowI_rowI, rowL_same, rowL_ne, rowL_1, rowI_21, upd_same, upd_ne, nI_le_T, nI_le_F, nI_lt_T, nI_lt_F, nI_eq_F, nI_NEG, NEG_lt0, nI_p, eq_self, if_true, if_false, nbr, p15, l15, vr]
  by_cases c7 : x2 = 7
  · subst c7
    have vc : g.1 (ad (1000 + 4 * k + 2)) 0 = (h.2.2.2.1.2.2 k).2.2.2.1 0 := hH2.2.2.2.1 0 (by decide)
    have vr : g.1 (ad 20016) (56 * k + 28 + 12) = (h.2.2.2.1.2.2 k).2.2.2.1 0 := hB2.2.2.1 0 (by decide)
    have vl : hpL S (ad (1000 + 4 * k + 2)) = 8 := hH2.1.2.2.2.2.1
    refine StN.same hJ (r := (h.2.2.2.1.2.2 k).2.2.2.1 0) (pre _ ?_) ?_
    · rw [nm_D, if_neg c0, if_neg c1, if_neg c2, if_neg c3, if_neg c4, if_neg c5, if_neg c6, if_pos rfl, hH2.1.2.1, nn_S]
      simp (disch := (first | assumption | omega | (apply Inj.ne <;> first | assumption | omega) | fail)) only [nn_S, nm_D, ck_T, c2_S, on_N, on_S, lit, mNEG, nI_add, pk_mul, inb_nI, nI_clamp, wrI_row, wrL_row, rdR_rowI, rdR_rowL, rdI_def, rdL_def, rowI_same, rowI_ne, rowI_rowI, rowL_same, rowL_ne, rowL_1, rowI_21, upd_same, upd_ne, nI_le_T, nI_le_F, nI_lt_T, nI_lt_F, nI_eq_F, nI_NEG, NEG_lt0, nI_p, eq_self, if_true, if_false, vl, vc]
    · show b_X12_blame__0 N S g _ _ _ = _
      unfold b_X12_blame__0
      simp (disch := (first | assumption | omega | (apply Inj.ne <;> first | assumption | omega) | fail)) only [nn_S, nm_D, ck_T, c2_S, on_N, on_S, lit, mNEG, nI_add, pk_mul, inb_nI, nI_clamp, wrI_row, wrL_row, rdR_rowI, rdR_rowL, rdI_def, rdL_def, rowI_same, rowI_ne, rowI_rowI, rowL_same, rowL_ne, rowL_1, rowI_21, upd_same, upd_ne, nI_le_T, nI_le_F, nI_lt_T, nI_lt_F, nI_eq_F, nI_NEG, NEG_lt0, nI_p, eq_self, if_true, if_false, nbr, p15, l15, vr]
  refine StN.same hJ (r := NEG) (pre _ ?_) ?_
  · rw [nm_D, if_neg c0, if_neg c1, if_neg c2, if_neg c3, if_neg c4, if_neg c5, if_neg c6, if_neg c7]; rfl
  · show b_X12_blame__0 N S g _ _ _ = _
    unfold b_X12_blame__0
    rw [if_neg (nI_pos (by omega)), rdI_def, nbr, if_pos (nI_lt hk (by omega)), nm_D, nm_D, nm_D, if_neg c0, if_neg c1, if_neg c2, if_neg c3, if_neg c4, if_neg c5, if_neg c6, if_neg c7]; rfl
