theorem keepL_hid (A : ALog) (n : Nat) (b : Bool) : ∀ k, hidC (keepL A n) b k = hidC A b k
  | 0 => rfl
  | k + 1 => by
    show (if mhi A k = b then hidC (keepL A n) b k + 1 else hidC (keepL A n) b k) = (if mhi A k = b then hidC A b k + 1 else hidC A b k)
    rw [keepL_hid A n b k]
theorem t_keep {B N : Nat} (hN : 40000 ≤ N) {S : Hs} {g : Hg} {ad : Nat → Nat} {m : Nat × Nat} {h : AHo} {kc : AKp} (hJ : Jn B S g ad m h kc) (x1 : Int32) (x2 : Int32) : StN B S g ad m kc (fun g => f_X11_keep N S g (ad 0) x1 x2) (fun g => f_X12_keep N S g (ad 20000) x1 x2) := by
  obtain ⟨hC, hR, hW, hK⟩ := id hJ
  have h6 := hW.1
  have hI := hC.inj
  have nl := hR.nl
  have bad : x1 < 0 ∨ nI h.1.1 ≤ x1 → StN B S g ad m kc (fun g => f_X11_keep N S g (ad 0) x1 x2) (fun g => f_X12_keep N S g (ad 20000) x1 x2) := fun hx => by
    refine StN.same hJ (r := nI 0) ?_ ?_
    · show b_X11_keep_0 N S g _ _ _ = _
      unfold b_X11_keep_0
      rw [hC.p3, nn_S, hC.logF hx, c2_S, on_N]
      rfl
    · show b_X12_keep_0 N S g _ _ _ = _
      unfold b_X12_keep_0
      rw [m_isLogF nl hx, c2_S, if_pos z00]
      rfl
  rcases pk_ix x1 (show h.1.1 < 2 ^ 31 by omega) with c | c | ⟨l, hl, rfl⟩
  · exact bad (Or.inl c)
  · exact bad (Or.inr c)
  · have hA := hC.clo hl
    have hsz := hA.2.2.1
    have hL := hR.lg hl
    have hlog := m_isLogT (N := N) (S := S) nl h6 hl
    have hmany := m_many (N := N) (show l < 6 by omega) hR.1 hL
    have bad2 : x2 < 0 ∨ nI (lsz (h.1.2 l)) ≤ x2 → StN B S g ad m kc (fun g => f_X11_keep N S g (ad 0) (nI l) x2) (fun g => f_X12_keep N S g (ad 20000) (nI l) x2) := fun hx => by
      refine StN.same hJ (r := nI 0) ?_ ?_
      · show b_X11_keep_0 N S g _ _ _ = _
        unfold b_X11_keep_0
        rw [hC.p3, nn_S, hC.logAt hl, c2_S, on_S, c_showsF hA hx, c2_S, if_pos z00]
        rfl
      · show b_X12_keep_0 N S g _ _ _ = _
        unfold b_X12_keep_0
        rw [hlog, c2_S, if_neg z10]
        by_cases c : x2 < 0
        · rw [if_pos c]; rfl
        · rcases hx with hx | hx
          · exact absurd hx c
          · rw [if_neg c, hmany, c2_S, if_pos hx]; rfl
    rcases pk_ix x2 (show lsz (h.1.2 l) < 2 ^ 31 by omega) with c | c | ⟨i, hi, rfl⟩
    · exact bad2 (Or.inl c)
    · exact bad2 (Or.inr c)
    · have p4 : rdR _ (ad 20000) 4 = some (ad 20005) := hR.1.p 4 (by decide)
      have l4 : hpL _ (ad 20005) = 2400 := hR.1.l 4 (by decide) rfl
      have v3 : g.1 (ad 20005) (400 * l + i) = bI (lft (h.1.2 l) i == 2) := (hL.2.1 i hi).2.2.1
      by_cases cg : lft (h.1.2 l) i = 2
      · rw [cg] at v3
        have v3 : g.1 (ad 20005) (400 * l + i) = nI 1 := v3
        refine StN.same hJ (r := nI 0) ?_ ?_
        · show b_X11_keep_0 N S g _ _ _ = _
          unfold b_X11_keep_0
          rw [hC.p3, nn_S, hC.logAt hl, c2_S, on_S, c_showsG hA hi cg, c2_S, if_pos z00]
          rfl
        · show b_X12_keep_0 N S g _ _ _ = _
          unfold b_X12_keep_0
          rw [hlog, c2_S, if_neg z10, if_neg (nI_pos (by omega)), hmany, c2_S, if_neg (nI_ge hi (by omega))]
          simp (disch := (first | assumption | omega | (apply Inj.ne <;> first | assumption | omega) | fail)) only [nn_S, nm_D, ck_T, c2_S, on_N, on_S, lit, mNEG, nI_add, pk_mul, inb_nI, nI_clamp, wrI_row, wrL_row, rdR_rowI, rdR_rowL, rdI_def, rdL_def, rowI_same, rowI_ne, rowI_rowI, rowL_same, rowL_ne, rowL_1, rowI_21, upd_same, upd_ne, nI_le_T, nI_le_F, nI_lt_T, nI_lt_F, nI_eq_F, nI_NEG, NEG_lt0, nI_p, eq_self, if_true, if_false, p4, l4, v3]
      · have v3 : g.1 (ad 20005) (400 * l + i) = nI 0 := by
          rw [v3]
          have : (lft (h.1.2 l) i == 2) = false := by simpa using cg
          rw [this]; rfl
        have f1 : Fr ad (fun r => r = 204 + 20 * l) g (rowI g (ad (200 + 20 * l + 4)) (upd (g.1 (ad (200 + 20 * l + 4))) i (nI 1))) := Fr.row hI (by omega)
        have hCk := keepL_clo hI cg hA
        have hC1 := hC.log hW hl f1 (fun r hr => by omega) hCk (wt_cong (A1 := keepL (h.1.2 l) i) rfl rfl)
        have hW1 : HoW (setL h l (keepL (h.1.2 l) i)) := hW.log (Nat.le_refl _) (fun i hi => rfl)
        have hR1 := hR.fr f1 (fun r hr => by omega)
        have hL1 := hR1.lg hl
        generalize hg1 : rowI g (ad (200 + 20 * l + 4)) (upd (g.1 (ad (200 + 20 * l + 4))) i (nI 1)) = g1 at *
        have p5 : rdR _ (ad 20000) 5 = some (ad 20006) := hR1.1.p 5 (by decide)
        have l5 : hpL _ (ad 20006) = 2400 := hR1.1.l 5 (by decide) rfl
        have f2 : Fr ad (fun r => r = 20006) g1 (rowI g1 (ad 20006) (upd (g1.1 (ad 20006)) (400 * l + i) (nI 1))) := Fr.row hI rfl
        have hL2 : RLog (rowI g1 (ad 20006) (upd (g1.1 (ad 20006)) (400 * l + i) (nI 1))) ad 0 l (keepL (h.1.2 l) i) := by
          obtain ⟨y0, y5, y6⟩ := hL1
          refine ⟨by rw [f2.I (by omega)]; simp only [keepL_hid]; exact y0, fun j hj => ?_, by rw [f2.I (by omega), f2.I (by omega), f2.I (by omega)]; exact y6⟩
          obtain ⟨t1, t2, t3, t4⟩ := y5 j hj
          rw [f2.I (by omega), f2.L (by omega), f2.I (show ¬ 20005 + 0 = 20006 by omega), show (20006 + 0) = 20006 from rfl, rowI_same]
          show _ ∧ _ ∧ g1.1 (ad (20005 + 0)) (400 * l + j) = bI (va_up (lft (h.1.2 l)) i 1 j == 2) ∧ _ = bI (va_up (lft (h.1.2 l)) i 1 j == 1)
          by_cases d : j = i
          · subst d
            rw [upd_same, va_same]
            refine ⟨t1, t2, ?_, rfl⟩
            rw [t3]
            have : (lft (h.1.2 l) j == 2) = false := by simpa using cg
            rw [this]; rfl
          · rw [upd_ne _ _ (by omega), va_ne _ _ d]
            exact ⟨t1, t2, t3, t4⟩
        have hF : LgF ad l g1 (rowI g1 (ad 20006) (upd (g1.1 (ad 20006)) (400 * l + i) (nI 1))) := ⟨fun j hj => by rw [f2.I (by omega)], fun r r1 r2 j hj => by
          by_cases c : r = 20006
          · subst c; rw [rowI_same, upd_ne _ _ (by omega)]
          · rw [f2.I c], fun j hj => by rw [f2.L (by omega)], fun r r1 r2 j hj => by rw [f2.I (by omega)]⟩
        have hR2 := hR1.log (fun i hi => hC.wf i hi) (FM.fr f2 (by omega)) (fun r hr => by omega) hL2 hF
        refine ⟨nI 1, g1, _, setL h l (keepL (h.1.2 l) i), ?_, ?_, hC1.fr f2 (fun r hr => by omega), hR2, hW1, hK⟩
        · have l4' := hA.1.2.2.2.1.2.1
          show b_X11_keep_0 N S g _ _ _ = _
          unfold b_X11_keep_0
          rw [hC.p3, nn_S, hC.logAt hl, c2_S, on_S, c_showsT hA hi cg, c2_S, if_neg z10, hA.1.1.2.2.2.1, nn_S, l4', inb_nI (show i < 400 by omega) (by decide), ck_T, nm_D, nI_clamp (by omega), wrI_row, show (1 : Int32) = nI 1 from rfl, hg1]
        · have w3 : g1.1 (ad 20005) (400 * l + i) = nI 0 := by rw [f1.I (by omega)]; exact v3
          have hlog1 := m_isLogT (N := N) (S := S) hR1.nl h6 hl
          have hmany1 := m_many (N := N) (show l < 6 by omega) hR1.1 hL1
          have p4 : rdR _ (ad 20000) 4 = some (ad 20005) := hR1.1.p 4 (by decide)
          show b_X12_keep_0 N S g1 _ _ _ = _
          unfold b_X12_keep_0
          rw [hlog1, c2_S, if_neg z10, if_neg (nI_pos (by omega)), hmany1, c2_S, if_neg (nI_ge hi (by omega))]
          simp (disch := (first | assumption | omega | (apply Inj.ne <;> first | assumption | omega) | fail)) only [nn_S, nm_D, ck_T, c2_S, on_N, on_S, lit, mNEG, nI_add, pk_mul, inb_nI, nI_clamp, wrI_row, wrL_row, rdR_rowI, rdR_rowL, rdI_def, rdL_def, rowI_same, rowI_ne, rowI_rowI, rowL_same, rowL_ne, rowL_1, rowI_21, upd_same, upd_ne, nI_le_T, nI_le_F, nI_lt_T, nI_lt_F, nI_eq_F, nI_NEG, NEG_lt0, nI_p, eq_self, if_true, if_false, p4, l4, w3, p5, l5]
theorem m_count61 {N : Nat} {S : Hs} {g : Hg} {ad : Nat → Nat} {l : Nat} {A : ALog} (hl : l < 6) (hsz : lsz A ≤ 400) (hR : RfP S g ad) (hL : RLog g ad 0 l A) : ∀ (f n i : Nat), i + f = lsz A → f < n →
    n_X12_count_61 N S n g (ad 20000) (nI l) (nI (ftC A 2 i)) (nI i) = some (nI (ftC A 2 (lsz A)), g) := by
  have hm := m_many (N := N) hl hR hL
  have p4 : rdR _ (ad 20000) 4 = some (ad 20005) := hR.p 4 (by decide)
  have l4 : hpL _ (ad 20005) = 2400 := hR.l 4 (by decide) rfl
  intro f
  induction f with
  | zero =>
    intro n i h1 h2
    obtain ⟨n, rfl⟩ : ∃ z, n = z + 1 := ⟨n - 1, by omega⟩
    obtain rfl : i = lsz A := by omega
    show b_X12_count_61 N S (n_X12_count_61 N S n) g _ _ _ _ = _
    unfold b_X12_count_61
    simp (disch := (first | assumption | omega | (apply Inj.ne <;> first | assumption | omega) | fail)) only [nn_S, nm_D, ck_T, c2_S, on_N, on_S, lit, mNEG, nI_add, pk_mul, inb_nI, nI_clamp, wrI_row, wrL_row, rdR_rowI, rdR_rowL, rdI_def, rdL_def, rowI_same, rowI_ne, rowI_rowI, rowL_same, rowL_ne, rowL_1, rowI_21, upd_same, upd_ne, nI_le_T, nI_le_F, nI_lt_T, nI_lt_F, nI_eq_F, nI_NEG, NEG_lt0, nI_p, eq_self, if_true, if_false, hm]
  | succ f ih =>
    intro n i h1 h2
    obtain ⟨n, rfl⟩ : ∃ z, n = z + 1 := ⟨n - 1, by omega⟩
    have hi := ih n (i + 1) (by omega) (by omega)
    have e1 : ftC A 2 (i + 1) = if lft A i = 2 then ftC A 2 i + 1 else ftC A 2 i := rfl
    rw [e1] at hi
    have v3 : g.1 (ad 20005) (400 * l + i) = bI (lft A i == 2) := (hL.2.1 i (by omega)).2.2.1
    show b_X12_count_61 N S (n_X12_count_61 N S n) g _ _ _ _ = _
    unfold b_X12_count_61
    by_cases c : lft A i = 2
    · rw [if_pos c] at hi
      have w3 : g.1 (ad 20005) (400 * l + i) = nI 1 := by rw [v3, c]; rfl
      simp (disch := (first | assumption | omega | (apply Inj.ne <;> first | assumption | omega) | fail)) only [nn_S, nm_D, ck_T, c2_S, on_N, on_S, lit, mNEG, nI_add, pk_mul, inb_nI, nI_clamp, wrI_row, wrL_row, rdR_rowI, rdR_rowL, rdI_def, rdL_def, rowI_same, rowI_ne, rowI_rowI, rowL_same, rowL_ne, rowL_1, rowI_21, upd_same, upd_ne, nI_le_T, nI_le_F, nI_lt_T, nI_lt_F, nI_eq_F, nI_NEG, NEG_lt0, nI_p, eq_self, if_true, if_false, hm, p4, l4, w3]
      exact hi
    · rw [if_neg c] at hi
      have w3 : g.1 (ad 20005) (400 * l + i) = nI 0 := by
        rw [v3]
        have : (lft A i == 2) = false := by simpa using c
        rw [this]; rfl
      simp (disch := (first | assumption | omega | (apply Inj.ne <;> first | assumption | omega) | fail)) only [nn_S, nm_D, ck_T, c2_S, on_N, on_S, lit, mNEG, nI_add, pk_mul, inb_nI, nI_clamp, wrI_row, wrL_row, rdR_rowI, rdR_rowL, rdI_def, rdL_def, rowI_same, rowI_ne, rowI_rowI, rowL_same, rowL_ne, rowL_1, rowI_21, upd_same, upd_ne, nI_le_T, nI_le_F, nI_lt_T, nI_lt_F, nI_eq_F, nI_NEG, NEG_lt0, nI_p, eq_self, if_true, if_false, hm, p4, l4, w3]
      exact hi
theorem t_count {B N : Nat} (hN : 40000 ≤ N) {S : Hs} {g : Hg} {ad : Nat → Nat} {m : Nat × Nat} {h : AHo} {kc : AKp} (hJ : Jn B S g ad m h kc) (x1 : Int32) (x2 : Int32) : StN B S g ad m kc (fun g => f_X11_count N S g (ad 0) x1 x2) (fun g => f_X12_count N S g (ad 20000) x1 x2) := by
  obtain ⟨hC, hR, hW, hK⟩ := id hJ
  have h6 := hW.1
  have hI := hC.inj
  have nl := hR.nl
  have bad : x1 < 0 ∨ nI h.1.1 ≤ x1 → StN B S g ad m kc (fun g => f_X11_count N S g (ad 0) x1 x2) (fun g => f_X12_count N S g (ad 20000) x1 x2) := fun hx => by
    refine StN.same hJ (r := NEG) ?_ ?_
    · show b_X11_count_0 N S g _ _ _ = _
      unfold b_X11_count_0
      rw [hC.p3, nn_S, hC.logF hx, c2_S, on_N]
      rfl
    · show b_X12_count_0 N S g _ _ _ = _
      unfold b_X12_count_0
      rw [m_isLogF nl hx, c2_S, if_pos z00]
      rfl
  rcases pk_ix x1 (show h.1.1 < 2 ^ 31 by omega) with c | c | ⟨l, hl, rfl⟩
  · exact bad (Or.inl c)
  · exact bad (Or.inr c)
  · have hA := hC.clo hl
    have hsz := hA.2.2.1
    have hL := hR.lg hl
    have hlog := m_isLogT (N := N) (S := S) nl h6 hl
    have hmany := m_many (N := N) (show l < 6 by omega) hR.1 hL
    have p0 : rdR _ (ad 20000) 0 = some (ad 20001) := hR.1.p 0 (by decide)
    have l0 : hpL _ (ad 20001) = 24 := hR.1.l 0 (by decide) rfl
    have y1 : g.1 (ad 20001) (4 * l) = lkp (h.1.2 l) := hL.1.1
    have y3 : g.1 (ad 20001) (4 * l + 2) = nI (hidC (h.1.2 l) true (lmk (h.1.2 l))) := hL.1.2.2.1
    have y4 : g.1 (ad 20001) (4 * l + 3) = nI (hidC (h.1.2 l) false (lmk (h.1.2 l))) := hL.1.2.2.2
    have h7 := hA.2.1.1.2
    have hp2 := hA.1.1.2.1
    have hm100 := hA.2.2.2.1
    have hF : ∀ r g1, (nm x2 (fun x_5 =>
      if x_5 = 0 then some ((rdI g (ad (200 + 20 * l)) 7), g) else
      if x_5 = 1 then c2 (f_X3_goneEntries N S g (ad (200 + 20 * l))) (fun x_7 g_6 => some (x_7, g_6)) else
      if x_5 = 2 then some ((rdI g (ad (200 + 20 * l)) 6), g) else
      if x_5 = 3 then nn (rdR g (ad 0) 1) (fun a_8 => c2 (f_X4_read N S g a_8 (ad (200 + 20 * l)) (rdI g (ad (200 + 20 * l)) 7)) (fun u_10 g_9 => nn (rdR g_9 (ad 0) 1) (fun a_11 => some ((rdI g_9 a_11 5), g_9)))) else
      if x_5 = 4 then nn (rdR g (ad (200 + 20 * l)) 1) (fun a_12 => c2 (f_X5_howMany N S g a_12 (1 : Int32)) (fun x_14 g_13 => some (x_14, g_13))) else
      if x_5 = 5 then nn (rdR g (ad (200 + 20 * l)) 1) (fun a_15 => c2 (f_X5_howMany N S g a_15 (0 : Int32)) (fun x_17 g_16 => some (x_17, g_16))) else
      some ((-1 : Int32), g)) = some (r, g1)) → f_X11_count N S g (ad 0) (nI l) x2 = some (r, g1) := fun r g1 e => by
      show b_X11_count_0 N S g _ _ _ = _
      unfold b_X11_count_0
      rw [hC.p3, nn_S, hC.logAt hl, c2_S, on_S]
      exact e
    by_cases c0 : x2 = 0
    · subst c0
      refine StN.same hJ (r := nI (lsz (h.1.2 l))) (hF _ _ ?_) ?_
      · rw [nm_D, if_pos rfl, rdI_def, h7]
      · show b_X12_count_0 N S g _ _ _ = _
        unfold b_X12_count_0
        rw [hlog, c2_S, if_neg z10, nm_D, if_pos rfl, hmany, c2_S]
    · by_cases c1 : x2 = 1
      · subst c1
        refine StN.same hJ (r := nI (ftC (h.1.2 l) 2 (lsz (h.1.2 l)))) (hF _ _ ?_) ?_
        · rw [nm_D, if_neg c0, if_pos rfl, c_goneEntries hN hA, c2_S]
        · show b_X12_count_0 N S g _ _ _ = _
          unfold b_X12_count_0
          rw [hlog, c2_S, if_neg z10, nm_D, if_neg c0, if_pos rfl]
          exact m_count61 (show l < 6 by omega) hsz hR.1 hL (lsz (h.1.2 l)) N 0 (by omega) (by omega)
      · by_cases c2' : x2 = 2
        · subst c2'
          refine StN.same hJ (r := lkp (h.1.2 l)) (hF _ _ ?_) ?_
          · rw [nm_D, if_neg c0, if_neg c1, if_pos rfl, rdI_def, hA.2.1.1.1]
          · show b_X12_count_0 N S g _ _ _ = _
            unfold b_X12_count_0
            rw [hlog, c2_S, if_neg z10, nm_D, if_neg c0, if_neg c1, if_pos rfl]
            simp (disch := (first | assumption | omega | (apply Inj.ne <;> first | assumption | omega) | fail)) only [nn_S, nm_D, ck_T, c2_S, on_N, on_S, lit, mNEG, nI_add, pk_mul, inb_nI, nI_clamp, wrI_row, wrL_row, rdR_rowI, rdR_rowL, rdI_def, rdL_def, rowI_same, rowI_ne, rowI_rowI, rowL_same, rowL_ne, rowL_1, rowI_21, upd_same, upd_ne, nI_le_T, nI_le_F, nI_lt_T, nI_lt_F, nI_eq_F, nI_NEG, NEG_lt0, nI_p, eq_self, if_true, if_false, p0, l0, y1]
        · by_cases c3 : x2 = 3
          · subst c3
            obtain ⟨g1, m1, ins1, a1, a2, a3, a4⟩ := c_read (N := N) hN hI (b := 200 + 20 * l) (by omega) hA.2.2 (n := lsz (h.1.2 l)) rfl (Nat.le_refl _) hC.sc hA.1 hA.2.1.2.2.2.2.2.2.1 hA.2.1.2.1 hA.2.1.2.2.2.2.2.1
            have hR1 := hR.fr a2 (fun r hr => by omega)
            obtain ⟨g2, m2, K2, b1, b2, b3, b4, b5, b6⟩ := m_map hN hI (show l < 6 by omega) hA.2.2 (Nat.le_refl _) hR1.1 (hR1.lg hl)
            have em : m1 = m2 := by
              have e1 := (InsOk.len hA.2.2 a4).length_eq
              have e2 := (MkI.perm hA.2.2 (Nat.le_refl _) b6).length_eq
              rw [lst_len] at e1 e2
              omega
            have p1 : rdR g (ad 0) 1 = some (ad 4) := hC.sc.2.2.2.2.2.1
            refine StN.scr hJ (r := nI m1) (hF _ _ ?_) a2 (fun q hq => by omega) ?_ b2 (fun q hq => by omega)
            · have p1' : rdR g1 (ad 0) 1 = some (ad 4) := by rw [a2.P]; exact p1
              rw [nm_D, if_neg c0, if_neg c1, if_neg c2', if_pos rfl, p1, nn_S, rdI_def, h7, a1, c2_S, p1', nn_S, rdI_def, a3.2.1]
            · have hlog1 := m_isLogT (N := N) (S := S) hR1.nl h6 hl
              have hmany1 := m_many (N := N) (show l < 6 by omega) hR1.1 (hR1.lg hl)
              show b_X12_count_0 N S g1 _ _ _ = _
              unfold b_X12_count_0
              rw [hlog1, c2_S, if_neg z10, nm_D, if_neg c0, if_neg c1, if_neg c2', if_pos rfl, hmany1, c2_S, b1, c2_S, rdI_def, b4.1, em]
          · by_cases c4 : x2 = 4
            · subst c4
              refine StN.same hJ (r := nI (hidC (h.1.2 l) true (lmk (h.1.2 l)))) (hF _ _ ?_) ?_
              · rw [nm_D, if_neg c0, if_neg c1, if_neg c2', if_neg c3, if_pos rfl, hp2, nn_S, show f_X5_howMany N S g (ad (200 + 20 * l + 2)) (1 : Int32) = _ from c_howMany hN true hA.1 hA.2.1.2.2.2.2.2.2.1 hm100, c2_S]
              · show b_X12_count_0 N S g _ _ _ = _
                unfold b_X12_count_0
                rw [hlog, c2_S, if_neg z10, nm_D, if_neg c0, if_neg c1, if_neg c2', if_neg c3, if_pos rfl]
                simp (disch := (first | assumption | omega | (apply Inj.ne <;> first | assumption | omega) | fail)) only [nn_S, nm_D, ck_T, c2_S, on_N, on_S, lit, mNEG, nI_add, pk_mul, inb_nI, nI_clamp, wrI_row, wrL_row, rdR_rowI, rdR_rowL, rdI_def, rdL_def, rowI_same, rowI_ne, rowI_rowI, rowL_same, rowL_ne, rowL_1, rowI_21, upd_same, upd_ne, nI_le_T, nI_le_F, nI_lt_T, nI_lt_F, nI_eq_F, nI_NEG, NEG_lt0, nI_p, eq_self, if_true, if_false, p0, l0, y3]
            · by_cases c5' : x2 = 5
              · subst c5'
                refine StN.same hJ (r := nI (hidC (h.1.2 l) false (lmk (h.1.2 l)))) (hF _ _ ?_) ?_
                · rw [nm_D, if_neg c0, if_neg c1, if_neg c2', if_neg c3, if_neg c4, if_pos rfl, hp2, nn_S, show f_X5_howMany N S g (ad (200 + 20 * l + 2)) (0 : Int32) = _ from c_howMany hN false hA.1 hA.2.1.2.2.2.2.2.2.1 hm100, c2_S]
                · show b_X12_count_0 N S g _ _ _ = _
                  unfold b_X12_count_0
                  rw [hlog, c2_S, if_neg z10, nm_D, if_neg c0, if_neg c1, if_neg c2', if_neg c3, if_neg c4, if_pos rfl]
                  simp (disch := (first | assumption | omega | (apply Inj.ne <;> first | assumption | omega) | fail)) only [nn_S, nm_D, ck_T, c2_S, on_N, on_S, lit, mNEG, nI_add, pk_mul, inb_nI, nI_clamp, wrI_row, wrL_row, rdR_rowI, rdR_rowL, rdI_def, rdL_def, rowI_same, rowI_ne, rowI_rowI, rowL_same, rowL_ne, rowL_1, rowI_21, upd_same, upd_ne, nI_le_T, nI_le_F, nI_lt_T, nI_lt_F, nI_eq_F, nI_NEG, NEG_lt0, nI_p, eq_self, if_true, if_false, p0, l0, y4]
              · refine StN.same hJ (r := NEG) (hF _ _ ?_) ?_
                · rw [nm_D, if_neg c0, if_neg c1, if_neg c2', if_neg c3, if_neg c4, if_neg c5']
                  rfl
                · show b_X12_count_0 N S g _ _ _ = _
                  unfold b_X12_count_0
                  rw [hlog, c2_S, if_neg z10, nm_D, if_neg c0, if_neg c1, if_neg c2', if_neg c3, if_neg c4, if_neg c5']
                  rfl
theorem m_latest17 {N : Nat} (hN : 40000 ≤ N) {S : Hs} {g : Hg} {ad : Nat → Nat} {l nn_ : Nat} {A : ALog} (key : Int32) (hl : l < 6) (hW : LogWf A) (hn : nn_ ≤ lsz A) (hR : RfP S g ad) (hL : RLog g ad 0 l A) : ∀ (f n i : Nat), i + f = nn_ → f < n →
    n_X12_latest_17 N S n g (ad 20000) (nI l) (nI nn_) key (LATF A nn_ key i) (nI i) = some (LAT A nn_ key, g) := by
  have hsz := hW.1
  have p2 : rdR _ (ad 20000) 2 = some (ad 20003) := hR.p 2 (by decide)
  have l2 : hpL _ (ad 20003) = 2400 := hR.l 2 (by decide) rfl
  intro f
  induction f with
  | zero =>
    intro n i h1 h2
    obtain ⟨n, rfl⟩ : ∃ z, n = z + 1 := ⟨n - 1, by omega⟩
    obtain rfl : i = nn_ := by omega
    show b_X12_latest_17 N S (n_X12_latest_17 N S n) g _ _ _ _ _ _ = _
    unfold b_X12_latest_17
    simp (disch := (first | assumption | omega | (apply Inj.ne <;> first | assumption | omega) | fail)) only [nn_S, nm_D, ck_T, c2_S, on_N, on_S, lit, mNEG, nI_add, pk_mul, inb_nI, nI_clamp, wrI_row, wrL_row, rdR_rowI, rdR_rowL, rdI_def, rdL_def, rowI_same, rowI_ne, rowI_rowI, rowL_same, rowL_ne, rowL_1, rowI_21, upd_same, upd_ne, nI_le_T, nI_le_F, nI_lt_T, nI_lt_F, nI_eq_F, nI_NEG, NEG_lt0, nI_p, eq_self, if_true, if_false]
    rfl
  | succ f ih =>
    intro n i h1 h2
    obtain ⟨n, rfl⟩ : ∃ z, n = z + 1 := ⟨n - 1, by omega⟩
    have hi := ih n (i + 1) (by omega) (by omega)
    have e1 : LATF A nn_ key (i + 1) = if lky A i = key ∧ CNT A nn_ i = true then nI i else LATF A nn_ key i := rfl
    rw [e1] at hi
    have hk := (hL.2.1 i (by omega)).1
    have hcn := m_counts hN hl hW hn (show i < lsz A by omega) hR hL
    have hst : n_X12_latest_17 N S (n + 1) g (ad 20000) (nI l) (nI nn_) key (LATF A nn_ key i) (nI i) = if lky A i = key then (if bI (CNT A nn_ i) = nI 0 then n_X12_latest_17 N S n g (ad 20000) (nI l) (nI nn_) key (LATF A nn_ key i) (nI (i + 1)) else n_X12_latest_17 N S n g (ad 20000) (nI l) (nI nn_) key (nI i) (nI (i + 1))) else n_X12_latest_17 N S n g (ad 20000) (nI l) (nI nn_) key (LATF A nn_ key i) (nI (i + 1)) := by
      show b_X12_latest_17 N S (n_X12_latest_17 N S n) g _ _ _ _ _ _ = _
      unfold b_X12_latest_17
      simp (disch := (first | assumption | omega | (apply Inj.ne <;> first | assumption | omega) | fail)) only [nn_S, nm_D, ck_T, c2_S, on_N, on_S, lit, mNEG, nI_add, pk_mul, inb_nI, nI_clamp, wrI_row, wrL_row, rdR_rowI, rdR_rowL, rdI_def, rdL_def, rowI_same, rowI_ne, rowI_rowI, rowL_same, rowL_ne, rowL_1, rowI_21, upd_same, upd_ne, nI_le_T, nI_le_F, nI_lt_T, nI_lt_F, nI_eq_F, nI_NEG, NEG_lt0, nI_p, eq_self, if_true, if_false, p2, l2, hk, hcn]
    rw [hst]
    by_cases c : lky A i = key
    · rw [if_pos c]
      cases hc : CNT A nn_ i with
      | true =>
        rw [hc, if_pos ⟨c, rfl⟩] at hi
        rw [if_neg (show ¬ bI true = nI 0 by decide)]
        exact hi
      | false =>
        rw [hc, if_neg (fun h => absurd h.2 (by decide))] at hi
        rw [if_pos (show bI false = nI 0 from rfl)]
        exact hi
    · rw [if_neg c]
      rw [if_neg (fun h => c h.1)] at hi
      exact hi
theorem LAT_none {A : ALog} (hW : LogWf A) {n : Nat} {key : Int32} (hn : n ≤ lsz A) (hk : ∀ z, z < lks A → lK A z ≠ key) : LAT A n key = NEG := by
  rcases LATF_val (A := A) (n := n) (key := key) n with c | ⟨j, j1, _, j3, _⟩
  · exact c
  · have := hW.2.2.2.2.1.2.1 j (by omega)
    exact absurd (this.2.trans j3) (hk _ this.1)
theorem t_latest {B N : Nat} (hN : 40000 ≤ N) {S : Hs} {g : Hg} {ad : Nat → Nat} {m : Nat × Nat} {h : AHo} {kc : AKp} (hJ : Jn B S g ad m h kc) (x1 : Int32) (x2 : Int32) (x3 : Int32) : StN B S g ad m kc (fun g => f_X11_latest N S g (ad 0) x1 x2 x3) (fun g => f_X12_latest N S g (ad 20000) x1 x2 x3) := by
  obtain ⟨hC, hR, hW, hK⟩ := id hJ
  have h6 := hW.1
  have hI := hC.inj
  have nl := hR.nl
  have bad : x1 < 0 ∨ nI h.1.1 ≤ x1 → StN B S g ad m kc (fun g => f_X11_latest N S g (ad 0) x1 x2 x3) (fun g => f_X12_latest N S g (ad 20000) x1 x2 x3) := fun hx => by
    refine StN.same hJ (r := NEG) ?_ ?_
    · show b_X11_latest_0 N S g _ _ _ _ = _
      unfold b_X11_latest_0
      rw [hC.p3, nn_S, hC.logF hx, c2_S, on_N]
      rfl
    · show b_X12_latest_0 N S g _ _ _ _ = _
      unfold b_X12_latest_0
      rw [m_isCountL nl hx, c2_S, if_pos z00]
      rfl
  rcases pk_ix x1 (show h.1.1 < 2 ^ 31 by omega) with c | c | ⟨l, hl, rfl⟩
  · exact bad (Or.inl c)
  · exact bad (Or.inr c)
  · have hA := hC.clo hl
    have hsz := hA.2.2.1
    have hL := hR.lg hl
    have bad2 : x2 < 0 ∨ nI (lsz (h.1.2 l) + 1) ≤ x2 → StN B S g ad m kc (fun g => f_X11_latest N S g (ad 0) (nI l) x2 x3) (fun g => f_X12_latest N S g (ad 20000) (nI l) x2 x3) := fun hx => by
      refine StN.same hJ (r := NEG) ?_ ?_
      · show b_X11_latest_0 N S g _ _ _ _ = _
        unfold b_X11_latest_0
        rw [hC.p3, nn_S, hC.logAt hl, c2_S, on_S, c_reachesF hA hx, c2_S, if_pos z00]
        rfl
      · show b_X12_latest_0 N S g _ _ _ _ = _
        unfold b_X12_latest_0
        rw [m_isCountN nl h6 hl hsz hx hR.1 hL, c2_S, if_pos z00]
        rfl
    rcases pk_ix x2 (show lsz (h.1.2 l) + 1 < 2 ^ 31 by omega) with c | c | ⟨n, hn, rfl⟩
    · exact bad2 (Or.inl c)
    · exact bad2 (Or.inr c)
    · have hn' : n ≤ lsz (h.1.2 l) := by omega
      obtain ⟨g1, m1, ins1, a1, a2, a3, a4⟩ := c_read (N := N) hN hI (b := 200 + 20 * l) (by omega) hA.2.2 (n := n) rfl hn' hC.sc hA.1 hA.2.1.2.2.2.2.2.2.1 hA.2.1.2.1 hA.2.1.2.2.2.2.2.1
      have hR1 := hR.fr a2 (fun r hr => by omega)
      have hA1 := hA.fr a2 (fun r r1 r2 => by omega)
      have p1 : rdR g (ad 0) 1 = some (ad 4) := hC.sc.2.2.2.2.2.1
      have p1' : rdR g1 (ad 0) 1 = some (ad 4) := by rw [a2.P]; exact p1
      have hks : lks (h.1.2 l) ≤ 400 := hA.2.2.2.2.2.2.1.1.1
      have href : f_X12_latest N S g1 (ad 20000) (nI l) (nI n) x3 = some (LAT (h.1.2 l) n x3, g1) := by
        show b_X12_latest_0 N S g1 _ _ _ _ = _
        unfold b_X12_latest_0
        rw [m_isCountT hR1.nl h6 hl hsz hn' hR1.1 (hR1.lg hl), c2_S, if_neg z10]
        exact m_latest17 hN x3 (show l < 6 by omega) hA.2.2 hn' hR1.1 (hR1.lg hl) n N 0 (by omega) (by omega)
      have hcl : ∀ v, c2 (f_X2_find N S g1 (ad (200 + 20 * l + 1)) x3) (fun x_14 g_13 => c2 (f_X4_latestOf N S g_13 (ad 4) x_14) (fun x_16 g_15 => some (x_16, g_15))) = some (v, g1) → f_X11_latest N S g (ad 0) (nI l) (nI n) x3 = some (v, g1) := fun v e => by
        show b_X11_latest_0 N S g _ _ _ _ = _
        unfold b_X11_latest_0
        rw [hC.p3, nn_S, hC.logAt hl, c2_S, on_S, c_reachesT hA hn', c2_S, if_neg z10, p1, nn_S, a1, c2_S, p1', nn_S, hA1.1.1.1, nn_S]
        exact e
      refine StN.scr (Q := fun _ => False) hJ (r := LAT (h.1.2 l) n x3) (hcl _ ?_) a2 (fun q hq => by omega) href FM.rf (fun q hq => hq.elim)
      have hKy := hA1.2.1.2.2.2.2.2.1
      rcases c_find (N := N) hN x3 hA1.1 hKy.1 hKy.2.1 hks with ⟨z, q1, q2, q3⟩ | ⟨q1, q3⟩
      · rw [q3, c2_S, c_latestOf rfl (by omega) (hC.sc.fr a2.1), c2_S, a3.1 z q1, q2]
      · rw [q3, c2_S, c_latestOfN, c2_S, LAT_none hA.2.2 hn' q1]
