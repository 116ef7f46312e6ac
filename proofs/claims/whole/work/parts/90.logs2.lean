/-! marks, prune, keep, count, latest -/
theorem markL_hid (A : ALog) (key : Int32) (b c : Bool) : ∀ k, k ≤ lmk A → hidC (markL A key b) c k = hidC A c k
  | 0, _ => rfl
  | k + 1, hk => by
    have ih := markL_hid A key b c k (by omega)
    show (if va_up (mhi A) (lmk A) b k = c then hidC (markL A key b) c k + 1 else hidC (markL A key b) c k) = (if mhi A k = c then hidC A c k + 1 else hidC A c k)
    rw [ih, va_ne _ _ (by omega)]
theorem markL_hidS (A : ALog) (key : Int32) (b c : Bool) : hidC (markL A key b) c (lmk A + 1) = if b = c then hidC A c (lmk A) + 1 else hidC A c (lmk A) := by
  show (if va_up (mhi A) (lmk A) b (lmk A) = c then hidC (markL A key b) c (lmk A) + 1 else hidC (markL A key b) c (lmk A)) = _
  rw [markL_hid A key b c (lmk A) (Nat.le_refl _), va_same]
theorem m_manyV {N : Nat} {S : Hs} {g : Hg} {ad : Nat → Nat} {l sz : Nat} (hl : l < 6) (hR : RfP S g ad) (v1 : g.1 (ad 20001) (4 * l + 1) = nI sz) : f_X12_many N S g (ad 20000) (nI l) = some (nI sz, g) := by
  have p0 : rdR _ (ad 20000) 0 = some (ad 20001) := hR.p 0 (by decide)
  have l0 : hpL _ (ad 20001) = 24 := hR.l 0 (by decide) rfl
  show b_X12_many_0 N S g (ad 20000) (nI l) = _
  unfold b_X12_many_0
  simp (disch := (first | assumption | omega | (apply Inj.ne <;> first | assumption | omega) | fail)) only [nn_S, nm_D, ck_T, c2_S, on_N, on_S, lit, mNEG, nI_add, pk_mul, inb_nI, nI_clamp, wrI_row, wrL_row, rdR_rowI, rdR_rowL, rdI_def, rdL_def, rowI_same, rowI_ne, rowI_rowI, rowL_same, rowL_ne, rowL_1, rowI_21, upd_same, upd_ne, nI_le_T, nI_le_F, nI_lt_T, nI_lt_F, nI_eq_F, nI_NEG, NEG_lt0, nI_p, eq_self, if_true, if_false, p0, l0, v1]
theorem m_sayF {N : Nat} (hN : 40000 ≤ N) {S : Hs} {g : Hg} {ad : Nat → Nat} {nl l : Nat} {A : ALog} (key x : Int32) (h1 : g.1 (ad 20000) 1 = nI nl) (h6 : nl ≤ 6) (hl : l < nl) (hW : LogWf A) (hR : RfP S g ad) (hL : RLog g ad 0 l A) (hb : lmk A = 100 ∨ ∃ z, z < lmk A ∧ mky A z = key) : f_X12_say N S g (ad 20000) (nI l) key x = some (nI 0, g) := by
  have a1 := m_isLogT (N := N) (S := S) h1 h6 hl
  have a2 := m_word hN key (show l < 6 by omega) hW.2.1 hR hL
  have hs := hidC_sum A (lmk A)
  have hm := hW.2.1
  have y3 : g.1 (ad 20001) (4 * l + 2) = nI (hidC A true (lmk A)) := hL.1.2.2.1
  have y4 : g.1 (ad 20001) (4 * l + 3) = nI (hidC A false (lmk A)) := hL.1.2.2.2
  have p0 : rdR _ (ad 20000) 0 = some (ad 20001) := hR.p 0 (by decide)
  have l0 : hpL _ (ad 20001) = 24 := hR.l 0 (by decide) rfl
  show b_X12_say_0 N S g _ _ _ _ = _
  unfold b_X12_say_0
  rw [a1, c2_S, if_neg z10, a2, c2_S]
  cases hc : MW A key (lmk A) with
  | some w =>
    have hw := (MW_some hc).1
    show (if nI (100 * l + w) = (-1 : Int32) then _ else some ((0 : Int32), g)) = _
    rw [if_neg (show ¬ nI (100 * l + w) = (-1 : Int32) by rw [mNEG', nI_NEG (by omega)]; exact id)]
    rfl
  | none =>
    rcases hb with hb | ⟨z, z1, z2⟩
    · show (if NEG = (-1 : Int32) then _ else some ((0 : Int32), g)) = _
      rw [if_pos (show NEG = (-1 : Int32) from rfl)]
      rw [hb] at hs y3 y4
      simp (disch := (first | assumption | omega | (apply Inj.ne <;> first | assumption | omega) | fail)) only [nn_S, nm_D, ck_T, c2_S, on_N, on_S, lit, mNEG, nI_add, pk_mul, inb_nI, nI_clamp, wrI_row, wrL_row, rdR_rowI, rdR_rowL, rdI_def, rdL_def, rowI_same, rowI_ne, rowI_rowI, rowL_same, rowL_ne, rowL_1, rowI_21, upd_same, upd_ne, nI_le_T, nI_le_F, nI_lt_T, nI_lt_F, nI_eq_F, nI_NEG, NEG_lt0, nI_p, eq_self, if_true, if_false, p0, l0, y3, y4, hs]
    · exact absurd z2 (MW_none hc z z1)
theorem m_sayT {N : Nat} (hN : 40000 ≤ N) {S : Hs} {g : Hg} {ad : Nat → Nat} {nl l : Nat} {A : ALog} (key : Int32) (b : Bool) (h1 : g.1 (ad 20000) 1 = nI nl) (h6 : nl ≤ 6) (hl : l < nl) (hW : LogWf A) (hI : Inj ad) (hR : RfP S g ad) (hL : RLog g ad 0 l A) (hm : lmk A < 100) (hk : ∀ z, z < lmk A → mky A z ≠ key) :
    ∃ g1, f_X12_say N S g (ad 20000) (nI l) key (bI b) = some (nI 1, g1) ∧ Fr ad (fun r => r = 20001 ∨ 20007 ≤ r ∧ r ≤ 20009) g g1 ∧ RLog g1 ad 0 l (markL A key b) ∧ LgF ad l g g1 := by
  have a1 := m_isLogT (N := N) (S := S) h1 h6 hl
  have a2 := m_word hN key (show l < 6 by omega) hW.2.1 hR hL
  have hnone : MW A key (lmk A) = none := by
    cases hc : MW A key (lmk A) with
    | none => rfl
    | some w => exact absurd (MW_some hc).2 (hk w (MW_some hc).1)
  rw [hnone] at a2
  have hs := hidC_sum A (lmk A)
  have hht := hidC_le A true (lmk A)
  have hhf := hidC_le A false (lmk A)
  obtain ⟨⟨y1, y2, y3, y4⟩, y5, y6⟩ := id hL
  have y1 : g.1 (ad 20001) (4 * l) = lkp A := y1
  have y2 : g.1 (ad 20001) (4 * l + 1) = nI (lsz A) := y2
  have y3 : g.1 (ad 20001) (4 * l + 2) = nI (hidC A true (lmk A)) := y3
  have y4 : g.1 (ad 20001) (4 * l + 3) = nI (hidC A false (lmk A)) := y4
  have p0 : rdR _ (ad 20000) 0 = some (ad 20001) := hR.p 0 (by decide)
  have l0 : hpL _ (ad 20001) = 24 := hR.l 0 (by decide) rfl
  have p6 : rdR _ (ad 20000) 6 = some (ad 20007) := hR.p 6 (by decide)
  have l6 : hpL _ (ad 20007) = 600 := hR.l 6 (by decide) rfl
  have p7 : rdR _ (ad 20000) 7 = some (ad 20008) := hR.p 7 (by decide)
  have l7 : hpL _ (ad 20008) = 600 := hR.l 7 (by decide) rfl
  have p8 : rdR _ (ad 20000) 8 = some (ad 20009) := hR.p 8 (by decide)
  have l8 : hpL _ (ad 20009) = 600 := hR.l 8 (by decide) rfl
  have hsz := hW.1
  let g3 : Hg := rowI (rowI (rowI g (ad 20007) (upd (g.1 (ad 20007)) (100 * l + lmk A) key)) (ad 20008) (upd (g.1 (ad 20008)) (100 * l + lmk A) (nI (lsz A)))) (ad 20009) (upd (g.1 (ad 20009)) (100 * l + lmk A) (bI b))
  let q : Nat := if b = true then 2 else 3
  let g4 : Hg := rowI g3 (ad 20001) (upd (g.1 (ad 20001)) (4 * l + q) (nI (hidC A b (lmk A) + 1)))
  have hq : q = 2 ∧ b = true ∨ q = 3 ∧ b = false := by cases b <;> simp [q]
  have f4 : Fr ad (fun r => r = 20001 ∨ 20007 ≤ r ∧ r ≤ 20009) g g4 := Fr.rt hI (Fr.rt hI (Fr.rt hI (Fr.row hI (by omega)) (by omega)) (by omega)) (by omega)
  have e1 : g4.1 (ad 20001) = upd (g.1 (ad 20001)) (4 * l + q) (nI (hidC A b (lmk A) + 1)) := rowI_same _ _ _
  have e7 : g4.1 (ad 20007) = upd (g.1 (ad 20007)) (100 * l + lmk A) key := by simp (disch := (first | assumption | omega | (apply Inj.ne <;> first | assumption | omega) | fail)) only [nn_S, nm_D, ck_T, c2_S, on_N, on_S, lit, mNEG, nI_add, pk_mul, inb_nI, nI_clamp, wrI_row, wrL_row, rdR_rowI, rdR_rowL, rdI_def, rdL_def, rowI_same, rowI_ne, rowI_rowI, rowL_same, rowL_ne, rowL_1, rowI_21, upd_same, upd_ne, nI_le_T, nI_le_F, nI_lt_T, nI_lt_F, nI_eq_F, nI_NEG, NEG_lt0, nI_p, eq_self, if_true, if_false, g4, g3]
  have e8 : g4.1 (ad 20008) = upd (g.1 (ad 20008)) (100 * l + lmk A) (nI (lsz A)) := by simp (disch := (first | assumption | omega | (apply Inj.ne <;> first | assumption | omega) | fail)) only [nn_S, nm_D, ck_T, c2_S, on_N, on_S, lit, mNEG, nI_add, pk_mul, inb_nI, nI_clamp, wrI_row, wrL_row, rdR_rowI, rdR_rowL, rdI_def, rdL_def, rowI_same, rowI_ne, rowI_rowI, rowL_same, rowL_ne, rowL_1, rowI_21, upd_same, upd_ne, nI_le_T, nI_le_F, nI_lt_T, nI_lt_F, nI_eq_F, nI_NEG, NEG_lt0, nI_p, eq_self, if_true, if_false, g4, g3]
  have e9 : g4.1 (ad 20009) = upd (g.1 (ad 20009)) (100 * l + lmk A) (bI b) := by simp (disch := (first | assumption | omega | (apply Inj.ne <;> first | assumption | omega) | fail)) only [nn_S, nm_D, ck_T, c2_S, on_N, on_S, lit, mNEG, nI_add, pk_mul, inb_nI, nI_clamp, wrI_row, wrL_row, rdR_rowI, rdR_rowL, rdI_def, rdL_def, rowI_same, rowI_ne, rowI_rowI, rowL_same, rowL_ne, rowL_1, rowI_21, upd_same, upd_ne, nI_le_T, nI_le_F, nI_lt_T, nI_lt_F, nI_eq_F, nI_NEG, NEG_lt0, nI_p, eq_self, if_true, if_false, g4, g3]
  refine ⟨g4, ?_, f4, ⟨⟨?_, ?_, ?_, ?_⟩, fun i hi => ?_, fun k hk => ?_⟩, fun j hj => ?_, fun r r1 r2 j hj => ?_, fun j hj => ?_, fun r r1 r2 j hj => ?_⟩
  · have hmany : f_X12_many N S (rowI g (ad 20007) (upd (g.1 (ad 20007)) (100 * l + lmk A) key)) (ad 20000) (nI l) = some (nI (lsz A), rowI g (ad 20007) (upd (g.1 (ad 20007)) (100 * l + lmk A) key)) := m_manyV (by omega) (hR.fr rfl) (by rw [rowI_ne _ _ (hI.ne (by decide))]; exact y2)
    show b_X12_say_0 N S g _ _ _ _ = _
    unfold b_X12_say_0 b_X12_say_111
    rw [a1, c2_S, if_neg z10, a2, c2_S, if_pos (show NEG = (-1 : Int32) from rfl)]
    simp (disch := (first | assumption | omega | (apply Inj.ne <;> first | assumption | omega) | fail)) only [nn_S, nm_D, ck_T, c2_S, on_N, on_S, lit, mNEG, nI_add, pk_mul, inb_nI, nI_clamp, wrI_row, wrL_row, rdR_rowI, rdR_rowL, rdI_def, rdL_def, rowI_same, rowI_ne, rowI_rowI, rowL_same, rowL_ne, rowL_1, rowI_21, upd_same, upd_ne, nI_le_T, nI_le_F, nI_lt_T, nI_lt_F, nI_eq_F, nI_NEG, NEG_lt0, nI_p, eq_self, if_true, if_false, p0, l0, y3, y4, hs, p6, l6, p7, l7, p8, l8, hmany, zb_bI]
    rcases hq with ⟨q1, q2⟩ | ⟨q1, q2⟩
    · subst q2
      rw [if_neg (show ¬ bI true = nI 0 by decide)]
      rfl
    · subst q2
      rw [if_pos (show bI false = nI 0 from rfl)]
      rfl
  · rw [e1, upd_ne _ _ (by omega)]; exact y1
  · rw [e1, upd_ne _ _ (by omega)]; exact y2
  · show g4.1 (ad 20001) (4 * l + 2) = nI (hidC (markL A key b) true (lmk A + 1))
    rw [e1, markL_hidS]
    rcases hq with ⟨q1, q2⟩ | ⟨q1, q2⟩
    · rw [q1, upd_same, q2, if_pos rfl]
    · rw [q1, upd_ne _ _ (by omega), q2, if_neg (by decide)]; exact y3
  · show g4.1 (ad 20001) (4 * l + 3) = nI (hidC (markL A key b) false (lmk A + 1))
    rw [e1, markL_hidS]
    rcases hq with ⟨q1, q2⟩ | ⟨q1, q2⟩
    · rw [q1, upd_ne _ _ (by omega), q2, if_neg (by decide)]; exact y4
    · rw [q1, upd_same, q2, if_pos rfl]
  · rw [f4.I (by omega), f4.L (by omega), f4.I (by omega), f4.I (by omega)]; exact y5 i hi
  · have hk : k < lmk A + 1 := hk
    show g4.1 (ad 20007) (100 * l + k) = upd (mky A) (lmk A) key k ∧ g4.1 (ad 20008) (100 * l + k) = nI (va_up (msi A) (lmk A) (lsz A) k) ∧ g4.1 (ad 20009) (100 * l + k) = bI (va_up (mhi A) (lmk A) b k)
    rw [e7, e8, e9]
    by_cases ck : k = lmk A
    · subst ck
      rw [upd_same, upd_same, upd_same, upd_same, va_same, va_same]
      exact ⟨rfl, rfl, rfl⟩
    · rw [upd_ne _ _ (by omega), upd_ne _ _ (by omega), upd_ne _ _ (by omega), upd_ne _ _ (by omega), va_ne _ _ ck, va_ne _ _ ck]
      exact y6 k (by omega)
  · rw [e1, upd_ne _ _ (by omega)]
  · rw [f4.I (by omega)]
  · rw [f4.L (by omega)]
  · have : r = 20007 ∨ r = 20008 ∨ r = 20009 := by omega
    rcases this with rfl | rfl | rfl
    · rw [e7, upd_ne _ _ (by omega)]
    · rw [e8, upd_ne _ _ (by omega)]
    · rw [e9, upd_ne _ _ (by omega)]
theorem t_hide {B N : Nat} (hN : 40000 ≤ N) {S : Hs} {g : Hg} {ad : Nat → Nat} {m : Nat × Nat} {h : AHo} {kc : AKp} (hJ : Jn B S g ad m h kc) (x1 x2 : Int32) : StN B S g ad m kc (fun g => f_X11_hide N S g (ad 0) x1 x2) (fun g => f_X12_hide N S g (ad 20000) x1 x2) := by
  obtain ⟨hC, hR, hW, hK⟩ := id hJ
  have h6 := hW.1
  have hI := hC.inj
  have nl := hR.nl
  have bad : x1 < 0 ∨ nI h.1.1 ≤ x1 → StN B S g ad m kc (fun g => f_X11_hide N S g (ad 0) x1 x2) (fun g => f_X12_hide N S g (ad 20000) x1 x2) := fun hx => by
    refine StN.same hJ (r := nI 0) ?_ ?_
    · show b_X11_hide_0 N S g _ _ _ = _
      unfold b_X11_hide_0
      rw [hC.p3, nn_S, hC.logF hx, c2_S, on_N]
      rfl
    · have : f_X12_say N S g (ad 20000) x1 x2 (1 : Int32) = some (nI 0, g) := by
        show b_X12_say_0 N S g _ _ _ _ = _
        unfold b_X12_say_0
        rw [m_isLogF nl hx, c2_S, if_pos z00]
        rfl
      show b_X12_hide_0 N S g _ _ _ = _
      unfold b_X12_hide_0
      rw [this, c2_S]
      rfl
  rcases pk_ix x1 (show h.1.1 < 2 ^ 31 by omega) with c | c | ⟨l, hl, rfl⟩
  · exact bad (Or.inl c)
  · exact bad (Or.inr c)
  · have hA := hC.clo hl
    rcases c_tellMark (N := N) hN hI x2 true hA with ⟨b1, g1, a1, a2, a3⟩ | ⟨⟨b1, b2⟩, g1, a1, a2, a3⟩
    · have hR1 := hR.fr a2 (fun r hr => by omega)
      have hs := m_sayF (N := N) hN x2 (1 : Int32) hR1.nl h6 hl hA.2.2 hR1.1 (hR1.lg hl) b1
      have hC1 := hC.log hW hl a2 (fun r hr => by omega) a3 (fun b W _ _ h => h)
      have es : setL h l (h.1.2 l) = h := by
        unfold setL
        rw [va_id]
      rw [es] at hC1
      refine ⟨nI 0, g1, g1, h, ?_, ?_, hC1, hR1, hW, hK⟩
      · show b_X11_hide_0 N S g _ _ _ = _
        unfold b_X11_hide_0
        rw [hC.p3, nn_S, hC.logAt hl, c2_S, on_S, show f_X3_tellMark N S g (ad (200 + 20 * l)) x2 (1 : Int32) = some (nI 0, g1) from a1, c2_S, if_pos z00]
        rfl
      · show b_X12_hide_0 N S g1 _ _ _ = _
        unfold b_X12_hide_0
        rw [hs, c2_S]
        rfl
    · have hR1 := hR.fr a2 (fun r hr => by omega)
      obtain ⟨g2, d1, d2, d3, d4⟩ := m_sayT (N := N) hN x2 true hR1.nl h6 hl hA.2.2 hI hR1.1 (hR1.lg hl) b1 b2
      have hC1 := hC.log hW hl a2 (fun r hr => by omega) a3 (wt_cong (A1 := markL (h.1.2 l) x2 true) rfl rfl)
      have hW1 : HoW (setL h l (markL (h.1.2 l) x2 true)) := hW.log (Nat.le_refl _) (fun i hi => rfl)
      have hR2 := hR1.log (fun i hi => hC.wf i hi) (FM.fr d2 (by omega)) (fun r hr => by omega) d3 d4
      refine ⟨nI 1, g1, g2, setL h l (markL (h.1.2 l) x2 true), ?_, ?_, hC1.fr d2 (fun r hr => by omega), hR2, hW1, hK⟩
      · show b_X11_hide_0 N S g _ _ _ = _
        unfold b_X11_hide_0
        rw [hC.p3, nn_S, hC.logAt hl, c2_S, on_S, show f_X3_tellMark N S g (ad (200 + 20 * l)) x2 (1 : Int32) = some (nI 1, g1) from a1, c2_S, if_neg z10]
        rfl
      · show b_X12_hide_0 N S g1 _ _ _ = _
        unfold b_X12_hide_0
        rw [show (1 : Int32) = bI true from rfl, d1, c2_S]
        rfl
theorem t_lag {B N : Nat} (hN : 40000 ≤ N) {S : Hs} {g : Hg} {ad : Nat → Nat} {m : Nat × Nat} {h : AHo} {kc : AKp} (hJ : Jn B S g ad m h kc) (x1 x2 : Int32) : StN B S g ad m kc (fun g => f_X11_lag N S g (ad 0) x1 x2) (fun g => f_X12_lag N S g (ad 20000) x1 x2) := by
  obtain ⟨hC, hR, hW, hK⟩ := id hJ
  have h6 := hW.1
  have hI := hC.inj
  have nl := hR.nl
  have bad : x1 < 0 ∨ nI h.1.1 ≤ x1 → StN B S g ad m kc (fun g => f_X11_lag N S g (ad 0) x1 x2) (fun g => f_X12_lag N S g (ad 20000) x1 x2) := fun hx => by
    refine StN.same hJ (r := nI 0) ?_ ?_
    · show b_X11_lag_0 N S g _ _ _ = _
      unfold b_X11_lag_0
      rw [hC.p3, nn_S, hC.logF hx, c2_S, on_N]
      rfl
    · have : f_X12_say N S g (ad 20000) x1 x2 (0 : Int32) = some (nI 0, g) := by
        show b_X12_say_0 N S g _ _ _ _ = _
        unfold b_X12_say_0
        rw [m_isLogF nl hx, c2_S, if_pos z00]
        rfl
      show b_X12_lag_0 N S g _ _ _ = _
      unfold b_X12_lag_0
      rw [this, c2_S]
      rfl
  rcases pk_ix x1 (show h.1.1 < 2 ^ 31 by omega) with c | c | ⟨l, hl, rfl⟩
  · exact bad (Or.inl c)
  · exact bad (Or.inr c)
  · have hA := hC.clo hl
    rcases c_tellMark (N := N) hN hI x2 false hA with ⟨b1, g1, a1, a2, a3⟩ | ⟨⟨b1, b2⟩, g1, a1, a2, a3⟩
    · have hR1 := hR.fr a2 (fun r hr => by omega)
      have hs := m_sayF (N := N) hN x2 (0 : Int32) hR1.nl h6 hl hA.2.2 hR1.1 (hR1.lg hl) b1
      have hC1 := hC.log hW hl a2 (fun r hr => by omega) a3 (fun b W _ _ h => h)
      have es : setL h l (h.1.2 l) = h := by
        unfold setL
        rw [va_id]
      rw [es] at hC1
      refine ⟨nI 0, g1, g1, h, ?_, ?_, hC1, hR1, hW, hK⟩
      · show b_X11_lag_0 N S g _ _ _ = _
        unfold b_X11_lag_0
        rw [hC.p3, nn_S, hC.logAt hl, c2_S, on_S, show f_X3_tellMark N S g (ad (200 + 20 * l)) x2 (0 : Int32) = some (nI 0, g1) from a1, c2_S, if_pos z00]
        rfl
      · show b_X12_lag_0 N S g1 _ _ _ = _
        unfold b_X12_lag_0
        rw [hs, c2_S]
        rfl
    · have hR1 := hR.fr a2 (fun r hr => by omega)
      obtain ⟨g2, d1, d2, d3, d4⟩ := m_sayT (N := N) hN x2 false hR1.nl h6 hl hA.2.2 hI hR1.1 (hR1.lg hl) b1 b2
      have hC1 := hC.log hW hl a2 (fun r hr => by omega) a3 (wt_cong (A1 := markL (h.1.2 l) x2 false) rfl rfl)
      have hW1 : HoW (setL h l (markL (h.1.2 l) x2 false)) := hW.log (Nat.le_refl _) (fun i hi => rfl)
      have hR2 := hR1.log (fun i hi => hC.wf i hi) (FM.fr d2 (by omega)) (fun r hr => by omega) d3 d4
      refine ⟨nI 1, g1, g2, setL h l (markL (h.1.2 l) x2 false), ?_, ?_, hC1.fr d2 (fun r hr => by omega), hR2, hW1, hK⟩
      · show b_X11_lag_0 N S g _ _ _ = _
        unfold b_X11_lag_0
        rw [hC.p3, nn_S, hC.logAt hl, c2_S, on_S, show f_X3_tellMark N S g (ad (200 + 20 * l)) x2 (0 : Int32) = some (nI 1, g1) from a1, c2_S, if_neg z10]
        rfl
      · show b_X12_lag_0 N S g1 _ _ _ = _
        unfold b_X12_lag_0
        rw [show (0 : Int32) = bI false from rfl, d1, c2_S]
        rfl
theorem pruneL_hid (A : ALog) (n : Nat) (b : Bool) : ∀ k, hidC (pruneL A n) b k = hidC A b k
  | 0 => rfl
  | k + 1 => by
    show (if mhi A k = b then hidC (pruneL A n) b k + 1 else hidC (pruneL A n) b k) = (if mhi A k = b then hidC A b k + 1 else hidC A b k)
    rw [pruneL_hid A n b k]
theorem m_prune16 {N : Nat} {S : Hs} {ad : Nat → Nat} (hI : Inj ad) {l nn_ : Nat} {A : ALog} (hl : l < 6) (hsz : lsz A ≤ 400) (hf : ∀ i, lft A i ≤ 2) (hnn : nn_ ≤ lsz A) : ∀ (f n i : Nat) (g : Hg), i + f = nn_ → f < n → RfP S g ad → RLog g ad 0 l (pruneL A i) →
    ∃ g1, n_X12_prune_16 N S n g (ad 20000) (nI l) (nI nn_) (nI (ftC A 0 i)) (nI i) = some (nI (ftC A 0 nn_), g1) ∧ Fr ad (fun r => r = 20005) g g1 ∧ RLog g1 ad 0 l (pruneL A nn_) ∧ (∀ j, j < 400 * l ∨ 400 * l + 400 ≤ j → g1.1 (ad 20005) j = g.1 (ad 20005) j) := by
  intro f
  induction f with
  | zero =>
    intro n i g h1 h2 hR hL
    obtain ⟨n, rfl⟩ : ∃ z, n = z + 1 := ⟨n - 1, by omega⟩
    obtain rfl : i = nn_ := by omega
    refine ⟨g, ?_, Fr.rf, hL, fun j _ => rfl⟩
    show b_X12_prune_16 N S (n_X12_prune_16 N S n) g _ _ _ _ _ = _
    unfold b_X12_prune_16
    simp (disch := (first | assumption | omega | (apply Inj.ne <;> first | assumption | omega) | fail)) only [nn_S, nm_D, ck_T, c2_S, on_N, on_S, lit, mNEG, nI_add, pk_mul, inb_nI, nI_clamp, wrI_row, wrL_row, rdR_rowI, rdR_rowL, rdI_def, rdL_def, rowI_same, rowI_ne, rowI_rowI, rowL_same, rowL_ne, rowL_1, rowI_21, upd_same, upd_ne, nI_le_T, nI_le_F, nI_lt_T, nI_lt_F, nI_eq_F, nI_NEG, NEG_lt0, nI_p, eq_self, if_true, if_false]
  | succ f ih =>
    intro n i g h1 h2 hR hL
    obtain ⟨n, rfl⟩ : ∃ z, n = z + 1 := ⟨n - 1, by omega⟩
    have p4 : rdR _ (ad 20000) 4 = some (ad 20005) := hR.p 4 (by decide)
    have l4 : hpL _ (ad 20005) = 2400 := hR.l 4 (by decide) rfl
    have p5 : rdR _ (ad 20000) 5 = some (ad 20006) := hR.p 5 (by decide)
    have l5 : hpL _ (ad 20006) = 2400 := hR.l 5 (by decide) rfl
    obtain ⟨_, _, v3, v4⟩ := hL.2.1 i (by show i < lsz A; omega)
    have el : lft (pruneL A i) i = lft A i := by
      show (if i < i ∧ lft A i = 0 then 2 else lft A i) = _
      rw [if_neg (by omega)]
    rw [el] at v3 v4
    have v3 : g.1 (ad 20005) (400 * l + i) = bI (lft A i == 2) := v3
    have v4 : g.1 (ad 20006) (400 * l + i) = bI (lft A i == 1) := v4
    have hfi := hf i
    by_cases c : lft A i = 0
    · have w3 : g.1 (ad 20005) (400 * l + i) = nI 0 := by rw [v3, c]; rfl
      have w4 : g.1 (ad 20006) (400 * l + i) = nI 0 := by rw [v4, c]; rfl
      have f0 : Fr ad (fun r => r = 20005) g (rowI g (ad 20005) (upd (g.1 (ad 20005)) (400 * l + i) (nI 1))) := Fr.row hI rfl
      obtain ⟨g1, a1, a2, a3, a4⟩ := ih n (i + 1) (rowI g (ad 20005) (upd (g.1 (ad 20005)) (400 * l + i) (nI 1))) (by omega) (by omega) (hR.fr rfl) (by
        obtain ⟨y0, y5, y6⟩ := hL
        refine ⟨by rw [f0.I (by omega)]; simp only [pruneL_hid] at y0 ⊢; exact y0, fun j hj => ?_, by rw [f0.I (by omega), f0.I (by omega), f0.I (by omega)]; exact y6⟩
        obtain ⟨t1, t2, t3, t4⟩ := y5 j hj
        rw [f0.I (by omega), f0.L (by omega), f0.I (show ¬ 20006 + 0 = 20005 by omega), show (20005 + 0) = 20005 from rfl, rowI_same]
        have e2 : lft (pruneL A (i + 1)) j = if j = i then 2 else lft (pruneL A i) j := by
          show (if j < i + 1 ∧ lft A j = 0 then 2 else lft A j) = if j = i then 2 else (if j < i ∧ lft A j = 0 then 2 else lft A j)
          by_cases d : j = i
          · subst d; rw [if_pos ⟨by omega, c⟩, if_pos rfl]
          · rw [if_neg d]
            by_cases d2 : j < i ∧ lft A j = 0
            · rw [if_pos d2, if_pos ⟨by omega, d2.2⟩]
            · rw [if_neg d2, if_neg (by omega)]
        rw [e2]
        by_cases d : j = i
        · subst d
          rw [upd_same, if_pos rfl]
          refine ⟨t1, t2, rfl, ?_⟩
          exact w4.trans rfl
        · rw [upd_ne _ _ (by omega), if_neg d]
          exact ⟨t1, t2, t3, t4⟩)
      refine ⟨g1, ?_, f0.tr a2, a3, fun j hj => by rw [a4 j hj, rowI_same, upd_ne _ _ (by omega)]⟩
      have e1 : ftC A 0 (i + 1) = ftC A 0 i + 1 := by
        show (if lft A i = 0 then ftC A 0 i + 1 else ftC A 0 i) = _
        rw [if_pos c]
      rw [e1] at a1
      show b_X12_prune_16 N S (n_X12_prune_16 N S n) g _ _ _ _ _ = _
      unfold b_X12_prune_16
      simp (disch := (first | assumption | omega | (apply Inj.ne <;> first | assumption | omega) | fail)) only [nn_S, nm_D, ck_T, c2_S, on_N, on_S, lit, mNEG, nI_add, pk_mul, inb_nI, nI_clamp, wrI_row, wrL_row, rdR_rowI, rdR_rowL, rdI_def, rdL_def, rowI_same, rowI_ne, rowI_rowI, rowL_same, rowL_ne, rowL_1, rowI_21, upd_same, upd_ne, nI_le_T, nI_le_F, nI_lt_T, nI_lt_F, nI_eq_F, nI_NEG, NEG_lt0, nI_p, eq_self, if_true, if_false, p4, l4, p5, l5, w3, w4]
      exact a1
    · have e0 : pruneL A (i + 1) = pruneL A i := by
        unfold pruneL
        congr 3
        congr 1
        funext j
        by_cases d : j < i ∧ lft A j = 0
        · rw [if_pos d, if_pos ⟨by omega, d.2⟩]
        · rw [if_neg d, if_neg (fun h => by
            by_cases e : j = i
            · rw [e] at h; exact c h.2
            · exact d ⟨by omega, h.2⟩)]
      obtain ⟨g1, a1, a2, a3, a4⟩ := ih n (i + 1) g (by omega) (by omega) hR (by rw [e0]; exact hL)
      refine ⟨g1, ?_, a2, a3, a4⟩
      have e1 : ftC A 0 (i + 1) = ftC A 0 i := by
        show (if lft A i = 0 then ftC A 0 i + 1 else ftC A 0 i) = _
        rw [if_neg c]
      rw [e1] at a1
      have hc : lft A i = 1 ∨ lft A i = 2 := by omega
      show b_X12_prune_16 N S (n_X12_prune_16 N S n) g _ _ _ _ _ = _
      unfold b_X12_prune_16
      rcases hc with hc | hc
      · have w3 : g.1 (ad 20005) (400 * l + i) = nI 0 := by rw [v3, hc]; rfl
        have w4 : g.1 (ad 20006) (400 * l + i) = nI 1 := by rw [v4, hc]; rfl
        simp (disch := (first | assumption | omega | (apply Inj.ne <;> first | assumption | omega) | fail)) only [nn_S, nm_D, ck_T, c2_S, on_N, on_S, lit, mNEG, nI_add, pk_mul, inb_nI, nI_clamp, wrI_row, wrL_row, rdR_rowI, rdR_rowL, rdI_def, rdL_def, rowI_same, rowI_ne, rowI_rowI, rowL_same, rowL_ne, rowL_1, rowI_21, upd_same, upd_ne, nI_le_T, nI_le_F, nI_lt_T, nI_lt_F, nI_eq_F, nI_NEG, NEG_lt0, nI_p, eq_self, if_true, if_false, p4, l4, p5, l5, w3, w4]
        exact a1
      · have w3 : g.1 (ad 20005) (400 * l + i) = nI 1 := by rw [v3, hc]; rfl
        simp (disch := (first | assumption | omega | (apply Inj.ne <;> first | assumption | omega) | fail)) only [nn_S, nm_D, ck_T, c2_S, on_N, on_S, lit, mNEG, nI_add, pk_mul, inb_nI, nI_clamp, wrI_row, wrL_row, rdR_rowI, rdR_rowL, rdI_def, rdL_def, rowI_same, rowI_ne, rowI_rowI, rowL_same, rowL_ne, rowL_1, rowI_21, upd_same, upd_ne, nI_le_T, nI_le_F, nI_lt_T, nI_lt_F, nI_eq_F, nI_NEG, NEG_lt0, nI_p, eq_self, if_true, if_false, p4, l4, w3]
        exact a1
theorem t_prune {B N : Nat} (hN : 40000 ≤ N) {S : Hs} {g : Hg} {ad : Nat → Nat} {m : Nat × Nat} {h : AHo} {kc : AKp} (hJ : Jn B S g ad m h kc) (x1 x2 : Int32) : StN B S g ad m kc (fun g => f_X11_prune N S g (ad 0) x1 x2) (fun g => f_X12_prune N S g (ad 20000) x1 x2) := by
  obtain ⟨hC, hR, hW, hK⟩ := id hJ
  have h6 := hW.1
  have hI := hC.inj
  have nl := hR.nl
  have bad : x1 < 0 ∨ nI h.1.1 ≤ x1 → StN B S g ad m kc (fun g => f_X11_prune N S g (ad 0) x1 x2) (fun g => f_X12_prune N S g (ad 20000) x1 x2) := fun hx => by
    refine StN.same hJ (r := NEG) ?_ ?_
    · show b_X11_prune_0 N S g _ _ _ = _
      unfold b_X11_prune_0
      rw [hC.p3, nn_S, hC.logF hx, c2_S, on_N]
      rfl
    · show b_X12_prune_0 N S g _ _ _ = _
      unfold b_X12_prune_0
      rw [m_isCountL nl hx, c2_S, if_pos z00]
      rfl
  rcases pk_ix x1 (show h.1.1 < 2 ^ 31 by omega) with c | c | ⟨l, hl, rfl⟩
  · exact bad (Or.inl c)
  · exact bad (Or.inr c)
  · have hA := hC.clo hl
    have hsz := hA.2.2.1
    have hL := hR.lg hl
    have bad2 : x2 < 0 ∨ nI (lsz (h.1.2 l) + 1) ≤ x2 → StN B S g ad m kc (fun g => f_X11_prune N S g (ad 0) (nI l) x2) (fun g => f_X12_prune N S g (ad 20000) (nI l) x2) := fun hx => by
      refine StN.same hJ (r := NEG) ?_ ?_
      · show b_X11_prune_0 N S g _ _ _ = _
        unfold b_X11_prune_0
        rw [hC.p3, nn_S, hC.logAt hl, c2_S, on_S, c_reachesF hA hx, c2_S, if_pos z00]
        rfl
      · show b_X12_prune_0 N S g _ _ _ = _
        unfold b_X12_prune_0
        rw [m_isCountN nl h6 hl hsz hx hR.1 hL, c2_S, if_pos z00]
        rfl
    rcases pk_ix x2 (show lsz (h.1.2 l) + 1 < 2 ^ 31 by omega) with c | c | ⟨n, hn, rfl⟩
    · exact bad2 (Or.inl c)
    · exact bad2 (Or.inr c)
    · obtain ⟨g1, a1, a2, a3⟩ := c_forget (N := N) hN hI (show n ≤ lsz (h.1.2 l) by omega) hA
      have hR1 := hR.fr a2 (fun r hr => by omega)
      have hL1 := hR1.lg hl
      obtain ⟨g2, b1, b2, b3, b4⟩ := m_prune16 (N := N) hI (show l < 6 by omega) hsz hA.2.2.2.2.2.2.2 (show n ≤ lsz (h.1.2 l) by omega) n N 0 g1 (by omega) (by omega) hR1.1 (by rw [pruneL_0]; exact hL1)
      have hC1 := hC.log hW hl a2 (fun r hr => by omega) a3 (wt_cong (A1 := pruneL (h.1.2 l) n) rfl rfl)
      have hW1 : HoW (setL h l (pruneL (h.1.2 l) n)) := hW.log (Nat.le_refl _) (fun i hi => rfl)
      have hF : LgF ad l g1 g2 := ⟨fun j hj => by rw [b2.I (by omega)], fun r r1 r2 j hj => by
        by_cases c : r = 20005
        · subst c; exact b4 j hj
        · rw [b2.I c], fun j hj => by rw [b2.L (by omega)], fun r r1 r2 j hj => by rw [b2.I (by omega)]⟩
      have hR2 := hR1.log (fun i hi => hC.wf i hi) (FM.fr b2 (by omega)) (fun r hr => by omega) b3 hF
      refine ⟨nI (ftC (h.1.2 l) 0 n), g1, g2, setL h l (pruneL (h.1.2 l) n), ?_, ?_, hC1.fr b2 (fun r hr => by omega), hR2, hW1, hK⟩
      · show b_X11_prune_0 N S g _ _ _ = _
        unfold b_X11_prune_0
        rw [hC.p3, nn_S, hC.logAt hl, c2_S, on_S, c_reachesT hA (by omega), c2_S, if_neg z10, a1, c2_S]
      · show b_X12_prune_0 N S g1 _ _ _ = _
        unfold b_X12_prune_0
        rw [m_isCountT hR1.nl h6 hl hsz (by omega) hR1.1 hL1, c2_S, if_neg z10]
        exact b1
