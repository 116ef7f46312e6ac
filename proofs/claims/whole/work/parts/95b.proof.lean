/-! proof, forge -/
theorem SlWf.e0 {X : ASl} (hw : SlWf X) (hk : X.1.1 = nI 3 ∨ X.1.1 = nI 4) : X.2.1.1 = 0 := by
  rcases hw.2.2 with q | q | q | q | q | q
  · exact q.2.1
  · rw [q.1] at hk; exact absurd hk (by decide)
  · exact q.2.1
  · exact q.2.1
  · exact q.2
  · rw [q.1] at hk; exact absurd hk (by decide)
theorem e8 (s : Nat) : (8 : Int32) * nI s = nI (8 * s) := pk_mul 8 s
theorem proof5 {N : Nat} {S : Hs} {g : Hg} {ad : Nat → Nat} {s : Nat} {X : ASl} (hs : s < 16) (hw : SlWf X) (hO : PfO S g ad (400 + 4 * s) X) (hR : RfP S g ad) (hX : RSl g ad 0 s X) : ∃ v, f_X7_toldKey N S g (ad (400 + 4 * s)) = some (v, g) ∧ f_X12_proof N S g (ad 20000) (nI s) 5 = some (v, g) := by
  have p9 : rdR _ (ad 20000) 9 = some (ad 20010) := hR.p 9 (by decide)
  have l9 : hpL _ (ad 20010) = 128 := hR.l 9 (by decide) rfl
  have p10 : rdR _ (ad 20000) 10 = some (ad 20011) := hR.p 10 (by decide)
  have l10 : hpL _ (ad 20011) = 640 := hR.l 10 (by decide) rfl
  have v0 : g.1 (ad 20010) (8 * s) = X.1.1 := hX.2.1.1
  have v3 : g.1 (ad 20010) (8 * s + 3) = X.1.2.2.1 := hX.2.1.2.2.1
  have v4 : g.1 (ad 20010) (8 * s + 4) = X.1.2.2.2.1 := hX.2.1.2.2.2.1
  have w1 := hw.1
  have r127 : ∀ v, g.1 (ad 20011) (40 * s) = v → b_X12_proof_127 N S g (ad 20000) (nI s) = some (v, g) := fun v hv => by
    unfold b_X12_proof_127
    simp (disch := (first | assumption | omega | (apply Inj.ne <;> first | assumption | omega) | fail)) only [nn_S, nm_D, ck_T, c2_S, on_N, on_S, lit, mNEG, nI_add, pk_mul, inb_nI, nI_clamp, wrI_row, wrL_row, rdR_rowI, rdR_rowL, rdI_def, rdL_def, rowI_same, rowI_ne, rowI_rowI, rowL_same, rowL_ne, rowL_1, rowI_21, upd_same, upd_ne, nI_le_T, nI_le_F, nI_lt_T, nI_lt_F, nI_eq_F, nI_NEG, NEG_lt0, nI_p, eq_self, if_true, if_false, p10, l10, hv]
  have k0 : 0 < X.2.1.1 → g.1 (ad 20011) (40 * s) = X.2.1.2.1 0 := fun h => (hX.2.2.1 0 h).1
  rcases hw.2.2 with ⟨q1, q2, q3⟩ | ⟨q1, q2, q3⟩ | ⟨q1, q2, q3, q4⟩ | ⟨q1, q2, q3⟩ | ⟨q1, q2⟩ | ⟨q1, q2, a, n, q3, q4, q5, q6, q7, q8⟩
  · refine ⟨0, by rw [c_toldKey0 hO q2, q3], ?_⟩
    show b_X12_proof_0 N S g _ _ _ = _
    unfold b_X12_proof_0
    rw [m_isSlotT hs, c2_S, if_neg z10, p9, nn_S, e8, l9, inb_nI (show 8 * s < 128 by omega) (by decide), ck_T, rdI_def, nI_clamp (show 8 * s < 2 ^ 31 by omega), nm_D, nm_D, v0, if_neg (show ¬ (5 : Int32) = 0 by decide), if_neg (show ¬ (5 : Int32) = 1 by decide), if_neg (show ¬ (5 : Int32) = 2 by decide), if_neg (show ¬ (5 : Int32) = 3 by decide), if_neg (show ¬ (5 : Int32) = 4 by decide), if_pos rfl]
    simp (disch := (first | assumption | omega | (apply Inj.ne <;> first | assumption | omega) | fail)) only [nn_S, nm_D, ck_T, c2_S, on_N, on_S, lit, mNEG, nI_add, pk_mul, inb_nI, nI_clamp, wrI_row, wrL_row, rdR_rowI, rdR_rowL, rdI_def, rdL_def, rowI_same, rowI_ne, rowI_rowI, rowL_same, rowL_ne, rowL_1, rowI_21, upd_same, upd_ne, nI_le_T, nI_le_F, nI_lt_T, nI_lt_F, nI_eq_F, nI_NEG, NEG_lt0, nI_p, eq_self, if_true, if_false, p9, l9, q1]
  · refine ⟨X.2.1.2.1 0, c_toldKeyS hO (by omega) (by omega), ?_⟩
    show b_X12_proof_0 N S g _ _ _ = _
    unfold b_X12_proof_0
    rw [m_isSlotT hs, c2_S, if_neg z10, p9, nn_S, e8, l9, inb_nI (show 8 * s < 128 by omega) (by decide), ck_T, rdI_def, nI_clamp (show 8 * s < 2 ^ 31 by omega), nm_D, nm_D, v0, if_neg (show ¬ (5 : Int32) = 0 by decide), if_neg (show ¬ (5 : Int32) = 1 by decide), if_neg (show ¬ (5 : Int32) = 2 by decide), if_neg (show ¬ (5 : Int32) = 3 by decide), if_neg (show ¬ (5 : Int32) = 4 by decide), if_pos rfl]
    simp (disch := (first | assumption | omega | (apply Inj.ne <;> first | assumption | omega) | fail)) only [nn_S, nm_D, ck_T, c2_S, on_N, on_S, lit, mNEG, nI_add, pk_mul, inb_nI, nI_clamp, wrI_row, wrL_row, rdR_rowI, rdR_rowL, rdI_def, rdL_def, rowI_same, rowI_ne, rowI_rowI, rowL_same, rowL_ne, rowL_1, rowI_21, upd_same, upd_ne, nI_le_T, nI_le_F, nI_lt_T, nI_lt_F, nI_eq_F, nI_NEG, NEG_lt0, nI_p, eq_self, if_true, if_false, p9, l9, q1]
    exact r127 _ (k0 (by omega))
  · refine ⟨0, by rw [c_toldKey0 hO q2, q3], ?_⟩
    show b_X12_proof_0 N S g _ _ _ = _
    unfold b_X12_proof_0
    rw [m_isSlotT hs, c2_S, if_neg z10, p9, nn_S, e8, l9, inb_nI (show 8 * s < 128 by omega) (by decide), ck_T, rdI_def, nI_clamp (show 8 * s < 2 ^ 31 by omega), nm_D, nm_D, v0, if_neg (show ¬ (5 : Int32) = 0 by decide), if_neg (show ¬ (5 : Int32) = 1 by decide), if_neg (show ¬ (5 : Int32) = 2 by decide), if_neg (show ¬ (5 : Int32) = 3 by decide), if_neg (show ¬ (5 : Int32) = 4 by decide), if_pos rfl]
    simp (disch := (first | assumption | omega | (apply Inj.ne <;> first | assumption | omega) | fail)) only [nn_S, nm_D, ck_T, c2_S, on_N, on_S, lit, mNEG, nI_add, pk_mul, inb_nI, nI_clamp, wrI_row, wrL_row, rdR_rowI, rdR_rowL, rdI_def, rdL_def, rowI_same, rowI_ne, rowI_rowI, rowL_same, rowL_ne, rowL_1, rowI_21, upd_same, upd_ne, nI_le_T, nI_le_F, nI_lt_T, nI_lt_F, nI_eq_F, nI_NEG, NEG_lt0, nI_p, eq_self, if_true, if_false, p9, l9, q1]
  · refine ⟨X.1.2.2.2.2.1, c_toldKey0 hO q2, ?_⟩
    show b_X12_proof_0 N S g _ _ _ = _
    unfold b_X12_proof_0
    rw [m_isSlotT hs, c2_S, if_neg z10, p9, nn_S, e8, l9, inb_nI (show 8 * s < 128 by omega) (by decide), ck_T, rdI_def, nI_clamp (show 8 * s < 2 ^ 31 by omega), nm_D, nm_D, v0, if_neg (show ¬ (5 : Int32) = 0 by decide), if_neg (show ¬ (5 : Int32) = 1 by decide), if_neg (show ¬ (5 : Int32) = 2 by decide), if_neg (show ¬ (5 : Int32) = 3 by decide), if_neg (show ¬ (5 : Int32) = 4 by decide), if_pos rfl]
    simp (disch := (first | assumption | omega | (apply Inj.ne <;> first | assumption | omega) | fail)) only [nn_S, nm_D, ck_T, c2_S, on_N, on_S, lit, mNEG, nI_add, pk_mul, inb_nI, nI_clamp, wrI_row, wrL_row, rdR_rowI, rdR_rowL, rdI_def, rdL_def, rowI_same, rowI_ne, rowI_rowI, rowL_same, rowL_ne, rowL_1, rowI_21, upd_same, upd_ne, nI_le_T, nI_le_F, nI_lt_T, nI_lt_F, nI_eq_F, nI_NEG, NEG_lt0, nI_p, eq_self, if_true, if_false, p9, l9, q1]
    exact r127 _ (hX.2.2.2 (Or.inl q1))
  · refine ⟨X.1.2.2.2.2.1, c_toldKey0 hO q2, ?_⟩
    show b_X12_proof_0 N S g _ _ _ = _
    unfold b_X12_proof_0
    rw [m_isSlotT hs, c2_S, if_neg z10, p9, nn_S, e8, l9, inb_nI (show 8 * s < 128 by omega) (by decide), ck_T, rdI_def, nI_clamp (show 8 * s < 2 ^ 31 by omega), nm_D, nm_D, v0, if_neg (show ¬ (5 : Int32) = 0 by decide), if_neg (show ¬ (5 : Int32) = 1 by decide), if_neg (show ¬ (5 : Int32) = 2 by decide), if_neg (show ¬ (5 : Int32) = 3 by decide), if_neg (show ¬ (5 : Int32) = 4 by decide), if_pos rfl]
    simp (disch := (first | assumption | omega | (apply Inj.ne <;> first | assumption | omega) | fail)) only [nn_S, nm_D, ck_T, c2_S, on_N, on_S, lit, mNEG, nI_add, pk_mul, inb_nI, nI_clamp, wrI_row, wrL_row, rdR_rowI, rdR_rowL, rdI_def, rdL_def, rowI_same, rowI_ne, rowI_rowI, rowL_same, rowL_ne, rowL_1, rowI_21, upd_same, upd_ne, nI_le_T, nI_le_F, nI_lt_T, nI_lt_F, nI_eq_F, nI_NEG, NEG_lt0, nI_p, eq_self, if_true, if_false, p9, l9, q1]
    exact r127 _ (hX.2.2.2 (Or.inr q1))
  · by_cases c : X.2.1.1 = 0
    · refine ⟨0, by rw [c_toldKey0 hO c, q2], ?_⟩
      show b_X12_proof_0 N S g _ _ _ = _
      unfold b_X12_proof_0
      rw [m_isSlotT hs, c2_S, if_neg z10, p9, nn_S, e8, l9, inb_nI (show 8 * s < 128 by omega) (by decide), ck_T, rdI_def, nI_clamp (show 8 * s < 2 ^ 31 by omega), nm_D, nm_D, v0, if_neg (show ¬ (5 : Int32) = 0 by decide), if_neg (show ¬ (5 : Int32) = 1 by decide), if_neg (show ¬ (5 : Int32) = 2 by decide), if_neg (show ¬ (5 : Int32) = 3 by decide), if_neg (show ¬ (5 : Int32) = 4 by decide), if_pos rfl]
      rw [c] at q7
      simp (disch := (first | assumption | omega | (apply Inj.ne <;> first | assumption | omega) | fail)) only [nn_S, nm_D, ck_T, c2_S, on_N, on_S, lit, mNEG, nI_add, pk_mul, inb_nI, nI_clamp, wrI_row, wrL_row, rdR_rowI, rdR_rowL, rdI_def, rdL_def, rowI_same, rowI_ne, rowI_rowI, rowL_same, rowL_ne, rowL_1, rowI_21, upd_same, upd_ne, nI_le_T, nI_le_F, nI_lt_T, nI_lt_F, nI_eq_F, nI_NEG, NEG_lt0, nI_p, eq_self, if_true, if_false, p9, l9, q1, v3, v4, q6, q7]
    · refine ⟨X.2.1.2.1 0, c_toldKeyS hO (by omega) (by omega), ?_⟩
      show b_X12_proof_0 N S g _ _ _ = _
      unfold b_X12_proof_0
      rw [m_isSlotT hs, c2_S, if_neg z10, p9, nn_S, e8, l9, inb_nI (show 8 * s < 128 by omega) (by decide), ck_T, rdI_def, nI_clamp (show 8 * s < 2 ^ 31 by omega), nm_D, nm_D, v0, if_neg (show ¬ (5 : Int32) = 0 by decide), if_neg (show ¬ (5 : Int32) = 1 by decide), if_neg (show ¬ (5 : Int32) = 2 by decide), if_neg (show ¬ (5 : Int32) = 3 by decide), if_neg (show ¬ (5 : Int32) = 4 by decide), if_pos rfl]
      simp (disch := (first | assumption | omega | (apply Inj.ne <;> first | assumption | omega) | fail)) only [nn_S, nm_D, ck_T, c2_S, on_N, on_S, lit, mNEG, nI_add, pk_mul, inb_nI, nI_clamp, wrI_row, wrL_row, rdR_rowI, rdR_rowL, rdI_def, rdL_def, rowI_same, rowI_ne, rowI_rowI, rowL_same, rowL_ne, rowL_1, rowI_21, upd_same, upd_ne, nI_le_T, nI_le_F, nI_lt_T, nI_lt_F, nI_eq_F, nI_NEG, NEG_lt0, nI_p, eq_self, if_true, if_false, p9, l9, q1, v3, v4, q6, q7]
      exact r127 _ (k0 (by omega))
theorem t_proof {B N : Nat} (hN : 40000 ≤ N) {S : Hs} {g : Hg} {ad : Nat → Nat} {m : Nat × Nat} {h : AHo} {kc : AKp} (hJ : Jn B S g ad m h kc) (x1 : Int32) (x2 : Int32) : StN B S g ad m kc (fun g => f_X11_proof N S g (ad 0) x1 x2) (fun g => f_X12_proof N S g (ad 20000) x1 x2) := by
  obtain ⟨hC, hR, hW, hK⟩ := id hJ
  have h6 := hW.1
  have hI := hC.inj
  have nl := hR.nl
  have bad : x1 < 0 ∨ nI 16 ≤ x1 → StN B S g ad m kc (fun g => f_X11_proof N S g (ad 0) x1 x2) (fun g => f_X12_proof N S g (ad 20000) x1 x2) := fun hx => by
    refine StN.same hJ (r := NEG) ?_ ?_
    · show b_X11_proof_0 N S g _ _ _ = _
      unfold b_X11_proof_0
      rw [hC.p3, nn_S, c_slotAtF hx, c2_S, on_N]
      rfl
    · show b_X12_proof_0 N S g _ _ _ = _
      unfold b_X12_proof_0
      rw [m_isSlotF hx, c2_S, if_pos z00]
      rfl
  rcases pk_ix x1 (show 16 < 2 ^ 31 by decide) with c | c | ⟨s, hs, rfl⟩
  · exact bad (Or.inl c)
  · exact bad (Or.inr c)
  · have hO := hC.pfo hs
    have hX := hR.sl hs
    have hw := hW.2.1 s hs
    generalize h.2.1 s = X at *
    have p9 : rdR _ (ad 20000) 9 = some (ad 20010) := hR.1.p 9 (by decide)
    have l9 : hpL _ (ad 20010) = 128 := hR.1.l 9 (by decide) rfl
    have v0 : g.1 (ad 20010) (8 * s) = X.1.1 := hX.2.1.1
    by_cases c0 : x2 = 0
    · subst c0
      have vc : g.1 (ad (400 + 4 * s)) 5 = X.1.1 := hO.2.1.1.2.2.1
      have vr : g.1 (ad 20010) (8 * s) = X.1.1 := v0
      refine StN.same hJ (r := X.1.1) ?_ ?_
      · show b_X11_proof_0 N S g _ _ _ = _
        unfold b_X11_proof_0
        rw [hC.p3, nn_S, hC.slotAt hs, c2_S, on_S, nm_D]
        rw [if_pos rfl, rdI_def, vc]
      · show b_X12_proof_0 N S g _ _ _ = _
        unfold b_X12_proof_0
        rw [m_isSlotT hs, c2_S, if_neg z10, p9, nn_S, e8, l9, inb_nI (show 8 * s < 128 by omega) (by decide), ck_T, rdI_def, nI_clamp (show 8 * s < 2 ^ 31 by omega), nm_D, nm_D, v0]
        rw [if_pos rfl]
        
    by_cases c1 : x2 = 1
    · subst c1
      have vc : g.1 (ad (400 + 4 * s)) 4 = nI X.2.2.1 := hO.2.1.1.2.1
      have vr : g.1 (ad 20010) (8 * s + 1) = nI X.2.2.1 := hX.1.1
      refine StN.same hJ (r := nI X.2.2.1) ?_ ?_
      · show b_X11_proof_0 N S g _ _ _ = _
        unfold b_X11_proof_0
        rw [hC.p3, nn_S, hC.slotAt hs, c2_S, on_S, nm_D]
        rw [if_neg c0, if_pos rfl, rdI_def, vc]
      · show b_X12_proof_0 N S g _ _ _ = _
        unfold b_X12_proof_0
        rw [m_isSlotT hs, c2_S, if_neg z10, p9, nn_S, e8, l9, inb_nI (show 8 * s < 128 by omega) (by decide), ck_T, rdI_def, nI_clamp (show 8 * s < 2 ^ 31 by omega), nm_D, nm_D, v0]
        rw [if_neg c0, if_pos rfl]
        simp (disch := (first | assumption | omega | (apply Inj.ne <;> first | assumption | omega) | fail)) only [nn_S, nm_D, ck_T, c2_S, on_N, on_S, lit, mNEG, nI_add, pk_mul, inb_nI, nI_clamp, wrI_row, wrL_row, rdR_rowI, rdR_rowL, rdI_def, rdL_def, rowI_same, rowI_ne, rowI_rowI, rowL_same, rowL_ne, rowL_1, rowI_21, upd_same, upd_ne, nI_le_T, nI_le_F, nI_lt_T, nI_lt_F, nI_eq_F, nI_NEG, NEG_lt0, nI_p, eq_self, if_true, if_false, p9, l9, vr]
    by_cases c2 : x2 = 2
    · subst c2
      have vc : g.1 (ad (400 + 4 * s)) 6 = X.1.2.1 := hO.2.1.1.2.2.2.1
      have vr : g.1 (ad 20010) (8 * s + 2) = X.1.2.1 := hX.2.1.2.1
      refine StN.same hJ (r := X.1.2.1) ?_ ?_
      · show b_X11_proof_0 N S g _ _ _ = _
        unfold b_X11_proof_0
        rw [hC.p3, nn_S, hC.slotAt hs, c2_S, on_S, nm_D]
        rw [if_neg c0, if_neg c1, if_pos rfl, rdI_def, vc]
      · show b_X12_proof_0 N S g _ _ _ = _
        unfold b_X12_proof_0
        rw [m_isSlotT hs, c2_S, if_neg z10, p9, nn_S, e8, l9, inb_nI (show 8 * s < 128 by omega) (by decide), ck_T, rdI_def, nI_clamp (show 8 * s < 2 ^ 31 by omega), nm_D, nm_D, v0]
        rw [if_neg c0, if_neg c1, if_pos rfl]
        simp (disch := (first | assumption | omega | (apply Inj.ne <;> first | assumption | omega) | fail)) only [nn_S, nm_D, ck_T, c2_S, on_N, on_S, lit, mNEG, nI_add, pk_mul, inb_nI, nI_clamp, wrI_row, wrL_row, rdR_rowI, rdR_rowL, rdI_def, rdL_def, rowI_same, rowI_ne, rowI_rowI, rowL_same, rowL_ne, rowL_1, rowI_21, upd_same, upd_ne, nI_le_T, nI_le_F, nI_lt_T, nI_lt_F, nI_eq_F, nI_NEG, NEG_lt0, nI_p, eq_self, if_true, if_false, p9, l9, vr]
    by_cases c3 : x2 = 3
    · subst c3
      have vc : g.1 (ad (400 + 4 * s)) 7 = X.1.2.2.1 := hO.2.1.1.2.2.2.2.1
      have vr : g.1 (ad 20010) (8 * s + 3) = X.1.2.2.1 := hX.2.1.2.2.1
      refine StN.same hJ (r := X.1.2.2.1) ?_ ?_
      · show b_X11_proof_0 N S g _ _ _ = _
        unfold b_X11_proof_0
        rw [hC.p3, nn_S, hC.slotAt hs, c2_S, on_S, nm_D]
        rw [if_neg c0, if_neg c1, if_neg c2, if_pos rfl, rdI_def, vc]
      · show b_X12_proof_0 N S g _ _ _ = _
        unfold b_X12_proof_0
        rw [m_isSlotT hs, c2_S, if_neg z10, p9, nn_S, e8, l9, inb_nI (show 8 * s < 128 by omega) (by decide), ck_T, rdI_def, nI_clamp (show 8 * s < 2 ^ 31 by omega), nm_D, nm_D, v0]
        rw [if_neg c0, if_neg c1, if_neg c2, if_pos rfl]
        simp (disch := (first | assumption | omega | (apply Inj.ne <;> first | assumption | omega) | fail)) only [nn_S, nm_D, ck_T, c2_S, on_N, on_S, lit, mNEG, nI_add, pk_mul, inb_nI, nI_clamp, wrI_row, wrL_row, rdR_rowI, rdR_rowL, rdI_def, rdL_def, rowI_same, rowI_ne, rowI_rowI, rowL_same, rowL_ne, rowL_1, rowI_21, upd_same, upd_ne, nI_le_T, nI_le_F, nI_lt_T, nI_lt_F, nI_eq_F, nI_NEG, NEG_lt0, nI_p, eq_self, if_true, if_false, p9, l9, vr]
    by_cases c4 : x2 = 4
    · subst c4
      have vc : g.1 (ad (400 + 4 * s)) 8 = X.1.2.2.2.1 := hO.2.1.1.2.2.2.2.2.1
      have vr : g.1 (ad 20010) (8 * s + 4) = X.1.2.2.2.1 := hX.2.1.2.2.2.1
      refine StN.same hJ (r := X.1.2.2.2.1) ?_ ?_
      · show b_X11_proof_0 N S g _ _ _ = _
        unfold b_X11_proof_0
        rw [hC.p3, nn_S, hC.slotAt hs, c2_S, on_S, nm_D]
        rw [if_neg c0, if_neg c1, if_neg c2, if_neg c3, if_pos rfl, rdI_def, vc]
      · show b_X12_proof_0 N S g _ _ _ = _
        unfold b_X12_proof_0
        rw [m_isSlotT hs, c2_S, if_neg z10, p9, nn_S, e8, l9, inb_nI (show 8 * s < 128 by omega) (by decide), ck_T, rdI_def, nI_clamp (show 8 * s < 2 ^ 31 by omega), nm_D, nm_D, v0]
        rw [if_neg c0, if_neg c1, if_neg c2, if_neg c3, if_pos rfl]
        simp (disch := (first | assumption | omega | (apply Inj.ne <;> first | assumption | omega) | fail)) only [nn_S, nm_D, ck_T, c2_S, on_N, on_S, lit, mNEG, nI_add, pk_mul, inb_nI, nI_clamp, wrI_row, wrL_row, rdR_rowI, rdR_rowL, rdI_def, rdL_def, rowI_same, rowI_ne, rowI_rowI, rowL_same, rowL_ne, rowL_1, rowI_21, upd_same, upd_ne, nI_le_T, nI_le_F, nI_lt_T, nI_lt_F, nI_eq_F, nI_NEG, NEG_lt0, nI_p, eq_self, if_true, if_false, p9, l9, vr]
    by_cases c5 : x2 = 5
    · subst c5
      obtain ⟨v, u1, u2⟩ := proof5 (N := N) hs hw hO hR.1 hX
      refine StN.same hJ (r := v) ?_ u2
      show b_X11_proof_0 N S g _ _ _ = _
      unfold b_X11_proof_0
      rw [hC.p3, nn_S, hC.slotAt hs, c2_S, on_S, nm_D]
      rw [if_neg c0, if_neg c1, if_neg c2, if_neg c3, if_neg c4, if_pos rfl, u1, c2_S]
    by_cases c6 : x2 = 6
    · subst c6
      have vc : g.1 (ad (400 + 4 * s)) 10 = X.1.2.2.2.2.2.1 := hO.2.1.1.2.2.2.2.2.2.2.1
      have vr : g.1 (ad 20010) (8 * s + 5) = X.1.2.2.2.2.2.1 := hX.2.1.2.2.2.2.1
      refine StN.same hJ (r := X.1.2.2.2.2.2.1) ?_ ?_
      · show b_X11_proof_0 N S g _ _ _ = _
        unfold b_X11_proof_0
        rw [hC.p3, nn_S, hC.slotAt hs, c2_S, on_S, nm_D]
        rw [if_neg c0, if_neg c1, if_neg c2, if_neg c3, if_neg c4, if_neg c5, if_pos rfl, rdI_def, vc]
      · show b_X12_proof_0 N S g _ _ _ = _
        unfold b_X12_proof_0
        rw [m_isSlotT hs, c2_S, if_neg z10, p9, nn_S, e8, l9, inb_nI (show 8 * s < 128 by omega) (by decide), ck_T, rdI_def, nI_clamp (show 8 * s < 2 ^ 31 by omega), nm_D, nm_D, v0]
        rw [if_neg c0, if_neg c1, if_neg c2, if_neg c3, if_neg c4, if_neg c5, if_pos rfl]
        simp (disch := (first | assumption | omega | (apply Inj.ne <;> first | assumption | omega) | fail)) only [nn_S, nm_D, ck_T, c2_S, on_N, on_S, lit, mNEG, nI_add, pk_mul, inb_nI, nI_clamp, wrI_row, wrL_row, rdR_rowI, rdR_rowL, rdI_def, rdL_def, rowI_same, rowI_ne, rowI_rowI, rowL_same, rowL_ne, rowL_1, rowI_21, upd_same, upd_ne, nI_le_T, nI_le_F, nI_lt_T, nI_lt_F, nI_eq_F, nI_NEG, NEG_lt0, nI_p, eq_self, if_true, if_false, p9, l9, vr]
    by_cases c7 : x2 = 7
    · subst c7
      have vc : g.1 (ad (400 + 4 * s)) 11 = X.1.2.2.2.2.2.2 := hO.2.1.1.2.2.2.2.2.2.2.2
      have vr : g.1 (ad 20010) (8 * s + 6) = X.1.2.2.2.2.2.2 := hX.2.1.2.2.2.2.2.1
      refine StN.same hJ (r := X.1.2.2.2.2.2.2) ?_ ?_
      · show b_X11_proof_0 N S g _ _ _ = _
        unfold b_X11_proof_0
        rw [hC.p3, nn_S, hC.slotAt hs, c2_S, on_S, nm_D]
        rw [if_neg c0, if_neg c1, if_neg c2, if_neg c3, if_neg c4, if_neg c5, if_neg c6, if_pos rfl, rdI_def, vc]
      · show b_X12_proof_0 N S g _ _ _ = _
        unfold b_X12_proof_0
        rw [m_isSlotT hs, c2_S, if_neg z10, p9, nn_S, e8, l9, inb_nI (show 8 * s < 128 by omega) (by decide), ck_T, rdI_def, nI_clamp (show 8 * s < 2 ^ 31 by omega), nm_D, nm_D, v0]
        rw [if_neg c0, if_neg c1, if_neg c2, if_neg c3, if_neg c4, if_neg c5, if_neg c6, if_pos rfl]
        simp (disch := (first | assumption | omega | (apply Inj.ne <;> first | assumption | omega) | fail)) only [nn_S, nm_D, ck_T, c2_S, on_N, on_S, lit, mNEG, nI_add, pk_mul, inb_nI, nI_clamp, wrI_row, wrL_row, rdR_rowI, rdR_rowL, rdI_def, rdL_def, rowI_same, rowI_ne, rowI_rowI, rowL_same, rowL_ne, rowL_1, rowI_21, upd_same, upd_ne, nI_le_T, nI_le_F, nI_lt_T, nI_lt_F, nI_eq_F, nI_NEG, NEG_lt0, nI_p, eq_self, if_true, if_false, p9, l9, vr]
    refine StN.same hJ (r := NEG) ?_ ?_
    · show b_X11_proof_0 N S g _ _ _ = _
      unfold b_X11_proof_0
      rw [hC.p3, nn_S, hC.slotAt hs, c2_S, on_S, nm_D]
      rw [if_neg c0, if_neg c1, if_neg c2, if_neg c3, if_neg c4, if_neg c5, if_neg c6, if_neg c7]
      rfl
    · show b_X12_proof_0 N S g _ _ _ = _
      unfold b_X12_proof_0
      rw [m_isSlotT hs, c2_S, if_neg z10, p9, nn_S, e8, l9, inb_nI (show 8 * s < 128 by omega) (by decide), ck_T, rdI_def, nI_clamp (show 8 * s < 2 ^ 31 by omega), nm_D, nm_D, v0]
      rw [if_neg c0, if_neg c1, if_neg c2, if_neg c3, if_neg c4, if_neg c5, if_neg c6, if_neg c7]
      rfl
def forgX (X : ASl) (t : Nat) (key : Int32) (v : Int64) : ASl := (X.1, (X.2.1.1, upd X.2.1.2.1 t key, fun i => if i = t then v else X.2.1.2.2 i), X.2.2)
theorem m_forge0 {N : Nat} {S : Hs} {g : Hg} {ad : Nat → Nat} {s : Nat} {X : ASl} (x2 x3 : Int32) (y4 : Int64) (hs : s < 16) (hw : SlWf X) (hR : RfP S g ad) (hX : RSl g ad 0 s X) : f_X12_forge N S g (ad 20000) (nI s) x2 x3 y4 = b_X12_forge_64 N S g (ad 20000) (nI s) x2 x3 y4 (nI X.2.1.1) := by
  have p9 : rdR _ (ad 20000) 9 = some (ad 20010) := hR.p 9 (by decide)
  have l9 : hpL _ (ad 20010) = 128 := hR.l 9 (by decide) rfl
  have v0 : g.1 (ad 20010) (8 * s) = X.1.1 := hX.2.1.1
  have v3 : g.1 (ad 20010) (8 * s + 3) = X.1.2.2.1 := hX.2.1.2.2.1
  have v4 : g.1 (ad 20010) (8 * s + 4) = X.1.2.2.2.1 := hX.2.1.2.2.2.1
  show b_X12_forge_0 N S g _ _ _ _ _ = _
  unfold b_X12_forge_0
  rw [m_isSlotT hs, c2_S, if_neg z10]
  rcases hw.2.2 with ⟨q1, q2, q3⟩ | ⟨q1, q2, q3⟩ | ⟨q1, q2, q3, q4⟩ | ⟨q1, q2, q3⟩ | ⟨q1, q2⟩ | ⟨q1, q2, a, n, q3, q4, q5, q6, q7, q8⟩
  · simp (disch := (first | assumption | omega | (apply Inj.ne <;> first | assumption | omega) | fail)) only [nn_S, nm_D, ck_T, c2_S, on_N, on_S, lit, mNEG, nI_add, pk_mul, inb_nI, nI_clamp, wrI_row, wrL_row, rdR_rowI, rdR_rowL, rdI_def, rdL_def, rowI_same, rowI_ne, rowI_rowI, rowL_same, rowL_ne, rowL_1, rowI_21, upd_same, upd_ne, nI_le_T, nI_le_F, nI_lt_T, nI_lt_F, nI_eq_F, nI_NEG, NEG_lt0, nI_p, eq_self, if_true, if_false, p9, l9, v0, q1, q2]
  · simp (disch := (first | assumption | omega | (apply Inj.ne <;> first | assumption | omega) | fail)) only [nn_S, nm_D, ck_T, c2_S, on_N, on_S, lit, mNEG, nI_add, pk_mul, inb_nI, nI_clamp, wrI_row, wrL_row, rdR_rowI, rdR_rowL, rdI_def, rdL_def, rowI_same, rowI_ne, rowI_rowI, rowL_same, rowL_ne, rowL_1, rowI_21, upd_same, upd_ne, nI_le_T, nI_le_F, nI_lt_T, nI_lt_F, nI_eq_F, nI_NEG, NEG_lt0, nI_p, eq_self, if_true, if_false, p9, l9, v0, q1, q2]
  · simp (disch := (first | assumption | omega | (apply Inj.ne <;> first | assumption | omega) | fail)) only [nn_S, nm_D, ck_T, c2_S, on_N, on_S, lit, mNEG, nI_add, pk_mul, inb_nI, nI_clamp, wrI_row, wrL_row, rdR_rowI, rdR_rowL, rdI_def, rdL_def, rowI_same, rowI_ne, rowI_rowI, rowL_same, rowL_ne, rowL_1, rowI_21, upd_same, upd_ne, nI_le_T, nI_le_F, nI_lt_T, nI_lt_F, nI_eq_F, nI_NEG, NEG_lt0, nI_p, eq_self, if_true, if_false, p9, l9, v0, q1, q2]
  · simp (disch := (first | assumption | omega | (apply Inj.ne <;> first | assumption | omega) | fail)) only [nn_S, nm_D, ck_T, c2_S, on_N, on_S, lit, mNEG, nI_add, pk_mul, inb_nI, nI_clamp, wrI_row, wrL_row, rdR_rowI, rdR_rowL, rdI_def, rdL_def, rowI_same, rowI_ne, rowI_rowI, rowL_same, rowL_ne, rowL_1, rowI_21, upd_same, upd_ne, nI_le_T, nI_le_F, nI_lt_T, nI_lt_F, nI_eq_F, nI_NEG, NEG_lt0, nI_p, eq_self, if_true, if_false, p9, l9, v0, q1, q2]
  · simp (disch := (first | assumption | omega | (apply Inj.ne <;> first | assumption | omega) | fail)) only [nn_S, nm_D, ck_T, c2_S, on_N, on_S, lit, mNEG, nI_add, pk_mul, inb_nI, nI_clamp, wrI_row, wrL_row, rdR_rowI, rdR_rowL, rdI_def, rdL_def, rowI_same, rowI_ne, rowI_rowI, rowL_same, rowL_ne, rowL_1, rowI_21, upd_same, upd_ne, nI_le_T, nI_le_F, nI_lt_T, nI_lt_F, nI_eq_F, nI_NEG, NEG_lt0, nI_p, eq_self, if_true, if_false, p9, l9, v0, q1, q2]
  · simp (disch := (first | assumption | omega | (apply Inj.ne <;> first | assumption | omega) | fail)) only [nn_S, nm_D, ck_T, c2_S, on_N, on_S, lit, mNEG, nI_add, pk_mul, inb_nI, nI_clamp, wrI_row, wrL_row, rdR_rowI, rdR_rowL, rdI_def, rdL_def, rowI_same, rowI_ne, rowI_rowI, rowL_same, rowL_ne, rowL_1, rowI_21, upd_same, upd_ne, nI_le_T, nI_le_F, nI_lt_T, nI_lt_F, nI_eq_F, nI_NEG, NEG_lt0, nI_p, eq_self, if_true, if_false, p9, l9, v0, v3, v4, q1, q6, q7]
    rw [sub_one (by omega) (by omega), show a + X.2.1.1 - a = X.2.1.1 by omega]
theorem t_forge {B N : Nat} (hN : 40000 ≤ N) {S : Hs} {g : Hg} {ad : Nat → Nat} {m : Nat × Nat} {h : AHo} {kc : AKp} (hJ : Jn B S g ad m h kc) (x1 : Int32) (x2 : Int32) (x3 : Int32) (y4 : Int64) : StN B S g ad m kc (fun g => f_X11_forge N S g (ad 0) x1 x2 x3 y4) (fun g => f_X12_forge N S g (ad 20000) x1 x2 x3 y4) := by
  obtain ⟨hC, hR, hW, hK⟩ := id hJ
  have h6 := hW.1
  have hI := hC.inj
  have nl := hR.nl
  have bad : x1 < 0 ∨ nI 16 ≤ x1 → StN B S g ad m kc (fun g => f_X11_forge N S g (ad 0) x1 x2 x3 y4) (fun g => f_X12_forge N S g (ad 20000) x1 x2 x3 y4) := fun hx => by
    refine StN.same hJ (r := nI 0) ?_ ?_
    · show b_X11_forge_0 N S g _ _ _ _ _ = _
      unfold b_X11_forge_0
      rw [hC.p3, nn_S, c_slotAtF hx, c2_S, on_N]
      rfl
    · show b_X12_forge_0 N S g _ _ _ _ _ = _
      unfold b_X12_forge_0
      rw [m_isSlotF hx, c2_S, if_pos z00]
      rfl
  rcases pk_ix x1 (show 16 < 2 ^ 31 by decide) with c | c | ⟨s, hs, rfl⟩
  · exact bad (Or.inl c)
  · exact bad (Or.inr c)
  · have hO := hC.pfo hs
    have hX := hR.sl hs
    have hw := hW.2.1 s hs
    have w1 := hw.1
    have v3 : g.1 (ad (400 + 4 * s)) 3 = nI (h.2.1 s).2.1.1 := hO.2.1.1.1
    have badT : x2 < 0 ∨ nI (h.2.1 s).2.1.1 ≤ x2 → StN B S g ad m kc (fun g => f_X11_forge N S g (ad 0) (nI s) x2 x3 y4) (fun g => f_X12_forge N S g (ad 20000) (nI s) x2 x3 y4) := fun hx => by
      refine StN.same hJ (r := nI 0) ?_ ?_
      · show b_X11_forge_0 N S g _ _ _ _ _ = _
        unfold b_X11_forge_0
        rw [hC.p3, nn_S, hC.slotAt hs, c2_S, on_S, rdI_def, v3]
        by_cases c : x2 < 0
        · rw [if_pos c]; rfl
        · rw [if_neg c, if_neg (i_nlt (by omega) (hx.resolve_left c))]; rfl
      · show f_X12_forge N S g _ _ _ _ _ = _
        rw [m_forge0 x2 x3 y4 hs hw hR.1 hX]
        unfold b_X12_forge_64
        by_cases c : x2 < 0
        · rw [if_pos c]; rfl
        · rw [if_neg c, if_neg (i_nlt (by omega) (hx.resolve_left c))]; rfl
    rcases pk_ix x2 (show (h.2.1 s).2.1.1 < 2 ^ 31 by omega) with c | c | ⟨t, ht, rfl⟩
    · exact badT (Or.inl c)
    · exact badT (Or.inr c)
    · have hp0 : rdR g (ad (400 + 4 * s)) 0 = some (ad (400 + 4 * s + 1)) := hO.1.1
      have hp1 : rdR g (ad (400 + 4 * s)) 1 = some (ad (400 + 4 * s + 2)) := hO.1.2.1
      have hl1 : hpL S (ad (400 + 4 * s + 1)) = 40 := hO.1.2.2.2.1
      have hl2 : hpL S (ad (400 + 4 * s + 2)) = 40 := hO.1.2.2.2.2.1
      let X1 := forgX (h.2.1 s) t x3 y4
      let g1 : Hg := rowL (rowI g (ad (400 + 4 * s + 1)) (upd (g.1 (ad (400 + 4 * s + 1))) t x3)) (ad (400 + 4 * s + 2)) (fun k => if k = t then y4 else g.2.1 (ad (400 + 4 * s + 2)) k)
      have f1 : Fr ad (fun r => r = 400 + 4 * s + 1 ∨ r = 400 + 4 * s + 2) g g1 := Fr.rt hI (Fr.rowL hI (by omega)) (by omega)
      have e1 : g1.1 (ad (400 + 4 * s + 1)) = upd (g.1 (ad (400 + 4 * s + 1))) t x3 := by simp (disch := (first | assumption | omega | (apply Inj.ne <;> first | assumption | omega) | fail)) only [nn_S, nm_D, ck_T, c2_S, on_N, on_S, lit, mNEG, nI_add, pk_mul, inb_nI, nI_clamp, wrI_row, wrL_row, rdR_rowI, rdR_rowL, rdI_def, rdL_def, rowI_same, rowI_ne, rowI_rowI, rowL_same, rowL_ne, rowL_1, rowI_21, upd_same, upd_ne, nI_le_T, nI_le_F, nI_lt_T, nI_lt_F, nI_eq_F, nI_NEG, NEG_lt0, nI_p, eq_self, if_true, if_false, g1]
      have e2 : g1.2.1 (ad (400 + 4 * s + 2)) = fun k => if k = t then y4 else g.2.1 (ad (400 + 4 * s + 2)) k := by simp (disch := (first | assumption | omega | (apply Inj.ne <;> first | assumption | omega) | fail)) only [nn_S, nm_D, ck_T, c2_S, on_N, on_S, lit, mNEG, nI_add, pk_mul, inb_nI, nI_clamp, wrI_row, wrL_row, rdR_rowI, rdR_rowL, rdI_def, rdL_def, rowI_same, rowI_ne, rowI_rowI, rowL_same, rowL_ne, rowL_1, rowI_21, upd_same, upd_ne, nI_le_T, nI_le_F, nI_lt_T, nI_lt_F, nI_eq_F, nI_NEG, NEG_lt0, nI_p, eq_self, if_true, if_false, g1]
      have hO1 : PfO S g1 ad (400 + 4 * s) X1 := by
        obtain ⟨o1, ⟨o2, o3, o4⟩, o5⟩ := hO
        refine ⟨o1.fr f1.1, ⟨?_, fun z hz => ?_, ?_⟩, o5⟩
        · rw [f1.I (by omega)]; exact o2
        · rw [e1, e2]
          have hz : z < (h.2.1 s).2.1.1 := hz
          show upd _ t x3 z = upd _ t x3 z ∧ (if z = t then y4 else _) = (if z = t then y4 else _)
          by_cases c : z = t
          · subst c
            rw [upd_same, upd_same, if_pos rfl, if_pos rfl]
            exact ⟨rfl, rfl⟩
          · rw [upd_ne _ _ c, upd_ne _ _ c, if_neg c, if_neg c]
            exact o3 z hz
        · rw [f1.I (by omega)]; exact o4
      have hR1 := hR.fr f1 (fun r hr => by omega)
      have hX1 := hR1.sl hs
      let g2 : Hg := rowL (rowI g1 (ad 20011) (upd (g1.1 (ad 20011)) (40 * s + t) x3)) (ad 20012) (fun k => if k = 40 * s + t then y4 else g1.2.1 (ad 20012) k)
      have f2 : Fr ad (fun r => r = 20011 ∨ r = 20012) g1 g2 := Fr.rt hI (Fr.rowL hI (by omega)) (by omega)
      have j1 : g2.1 (ad 20011) = upd (g1.1 (ad 20011)) (40 * s + t) x3 := by simp (disch := (first | assumption | omega | (apply Inj.ne <;> first | assumption | omega) | fail)) only [nn_S, nm_D, ck_T, c2_S, on_N, on_S, lit, mNEG, nI_add, pk_mul, inb_nI, nI_clamp, wrI_row, wrL_row, rdR_rowI, rdR_rowL, rdI_def, rdL_def, rowI_same, rowI_ne, rowI_rowI, rowL_same, rowL_ne, rowL_1, rowI_21, upd_same, upd_ne, nI_le_T, nI_le_F, nI_lt_T, nI_lt_F, nI_eq_F, nI_NEG, NEG_lt0, nI_p, eq_self, if_true, if_false, g2]
      have j2 : g2.2.1 (ad 20012) = fun k => if k = 40 * s + t then y4 else g1.2.1 (ad 20012) k := by simp (disch := (first | assumption | omega | (apply Inj.ne <;> first | assumption | omega) | fail)) only [nn_S, nm_D, ck_T, c2_S, on_N, on_S, lit, mNEG, nI_add, pk_mul, inb_nI, nI_clamp, wrI_row, wrL_row, rdR_rowI, rdR_rowL, rdI_def, rdL_def, rowI_same, rowI_ne, rowI_rowI, rowL_same, rowL_ne, rowL_1, rowI_21, upd_same, upd_ne, nI_le_T, nI_le_F, nI_lt_T, nI_lt_F, nI_eq_F, nI_NEG, NEG_lt0, nI_p, eq_self, if_true, if_false, g2]
      have hG : SlG ad s g1 g2 := ⟨fun j _ => by rw [f2.I (by omega)], fun z hz => by rw [j1, upd_ne _ _ (by omega)], fun z hz => by
        rw [j2]
        show (if z = 40 * s + t then y4 else _) = _
        rw [if_neg (by omega)], fun j _ => by rw [f2.I (by omega)]⟩
      have hX2 : RSl g2 ad 0 s X1 := by
        obtain ⟨a1, b1, c1, d1⟩ := hX1
        have i0 : g2.1 (ad (20010 + 0)) = g1.1 (ad (20010 + 0)) := f2.I (by omega)
        have i3 : g2.1 (ad (20013 + 0)) = g1.1 (ad (20013 + 0)) := f2.I (by omega)
        refine ⟨?_, ?_, fun z hz => ?_, fun hk => ?_⟩
        · exact a1.fr f2 (by omega) (by omega)
        · rw [i0]; exact b1
        · have hz : z < (h.2.1 s).2.1.1 := hz
          show g2.1 (ad 20011) (40 * s + z) = upd _ t x3 z ∧ g2.2.1 (ad 20012) (40 * s + z) = (if z = t then y4 else _)
          rw [j1, j2]
          show upd _ (40 * s + t) x3 (40 * s + z) = upd _ t x3 z ∧ (if 40 * s + z = 40 * s + t then y4 else _) = (if z = t then y4 else _)
          by_cases c : z = t
          · subst c
            rw [upd_same, upd_same, if_pos rfl, if_pos rfl]
            exact ⟨rfl, rfl⟩
          · rw [upd_ne _ _ (by omega), upd_ne _ _ c, if_neg (by omega), if_neg c]
            exact c1 z hz
        · exact absurd (hw.e0 hk) (by omega)
      refine ⟨nI 1, g1, g2, setS h s X1, ?_, ?_, (hC.slotN hs f1 (fun r hr => by omega) hO1).fr f2 (fun r hr => by omega), hR1.slot hW (FM.fr f2 (by omega)) (fun r hr => by omega) hX2 hG, hW.slot hw, hK⟩
      · show b_X11_forge_0 N S g _ _ _ _ _ = _
        unfold b_X11_forge_0
        rw [hC.p3, nn_S, hC.slotAt hs, c2_S, on_S]
        simp (disch := (first | assumption | omega | (apply Inj.ne <;> first | assumption | omega) | fail)) only [nn_S, nm_D, ck_T, c2_S, on_N, on_S, lit, mNEG, nI_add, pk_mul, inb_nI, nI_clamp, wrI_row, wrL_row, rdR_rowI, rdR_rowL, rdI_def, rdL_def, rowI_same, rowI_ne, rowI_rowI, rowL_same, rowL_ne, rowL_1, rowI_21, upd_same, upd_ne, nI_le_T, nI_le_F, nI_lt_T, nI_lt_F, nI_eq_F, nI_NEG, NEG_lt0, nI_p, eq_self, if_true, if_false, v3, hp0, hp1, hl1, hl2]
        rfl
      · have p10 : rdR _ (ad 20000) 10 = some (ad 20011) := hR1.1.p 10 (by decide)
        have l10 : hpL _ (ad 20011) = 640 := hR1.1.l 10 (by decide) rfl
        have p11 : rdR _ (ad 20000) 11 = some (ad 20012) := hR1.1.p 11 (by decide)
        have l11 : hpL _ (ad 20012) = 640 := hR1.1.l 11 (by decide) rfl
        show f_X12_forge N S g1 _ _ _ _ _ = _
        rw [m_forge0 (nI t) x3 y4 hs hw hR1.1 hX1]
        unfold b_X12_forge_64
        simp (disch := (first | assumption | omega | (apply Inj.ne <;> first | assumption | omega) | fail)) only [nn_S, nm_D, ck_T, c2_S, on_N, on_S, lit, mNEG, nI_add, pk_mul, inb_nI, nI_clamp, wrI_row, wrL_row, rdR_rowI, rdR_rowL, rdI_def, rdL_def, rowI_same, rowI_ne, rowI_rowI, rowL_same, rowL_ne, rowL_1, rowI_21, upd_same, upd_ne, nI_le_T, nI_le_F, nI_lt_T, nI_lt_F, nI_eq_F, nI_NEG, NEG_lt0, nI_p, eq_self, if_true, if_false, p10, l10, p11, l11]
        rfl
