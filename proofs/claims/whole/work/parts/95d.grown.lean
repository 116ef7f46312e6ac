/-! grown, span -/
theorem t_grown {B N : Nat} (hN : 40000 ≤ N) {S : Hs} {g : Hg} {ad : Nat → Nat} {m : Nat × Nat} {h : AHo} {kc : AKp} (hJ : Jn B S g ad m h kc) (x1 : Int32) (x2 : Int32) (x3 : Int32) (x4 : Int32) : StM B S g ad m kc (fun S g => f_X11_grown N S g (ad 0) x1 x2 x3 x4) (fun S g => f_X12_grown N S g (ad 20000) x1 x2 x3 x4) := by
  obtain ⟨hC, hR, hW, hK⟩ := id hJ
  have h6 := hW.1
  have hI := hC.inj
  have nl := hR.nl
  have badS : x1 < 0 ∨ nI 16 ≤ x1 → StM B S g ad m kc (fun S g => f_X11_grown N S g (ad 0) x1 x2 x3 x4) (fun S g => f_X12_grown N S g (ad 20000) x1 x2 x3 x4) := fun hx => by
    obtain ⟨o, ho⟩ := hC.logO N h6 x2
    refine StM.same hJ (r := NEG) ?_ ?_
    · show b_X11_grown_0 N S g _ _ _ _ _ = _
      unfold b_X11_grown_0
      rw [hC.p3, nn_S, c_slotAtF hx, c2_S, hC.p3, nn_S, ho, c2_S, on_N]
      rfl
    · show b_X12_grown_0 N S g _ _ _ _ _ = _
      unfold b_X12_grown_0
      rw [m_isSlotF hx, c2_S, if_pos z00]
      rfl
  rcases pk_ix x1 (show 16 < 2 ^ 31 by decide) with c | c | ⟨s, hs, rfl⟩
  · exact badS (Or.inl c)
  · exact badS (Or.inr c)
  have hO := hC.pfo hs
  have badL : x2 < 0 ∨ nI h.1.1 ≤ x2 → StM B S g ad m kc (fun S g => f_X11_grown N S g (ad 0) (nI s) x2 x3 x4) (fun S g => f_X12_grown N S g (ad 20000) (nI s) x2 x3 x4) := fun hx => by
    refine StM.same hJ (r := NEG) ?_ ?_
    · show b_X11_grown_0 N S g _ _ _ _ _ = _
      unfold b_X11_grown_0
      rw [hC.p3, nn_S, hC.slotAt hs, c2_S, hC.p3, nn_S, hC.logF hx, c2_S, on_S, on_N]
      rfl
    · show b_X12_grown_0 N S g _ _ _ _ _ = _
      unfold b_X12_grown_0
      rw [m_isSlotT hs, c2_S, if_neg z10, m_isCountL nl hx, c2_S, if_pos z00]
      rfl
  rcases pk_ix x2 (show h.1.1 < 2 ^ 31 by omega) with c | c | ⟨l, hl, rfl⟩
  · exact badL (Or.inl c)
  · exact badL (Or.inr c)
  have hA := hC.clo hl
  have hsz := hA.2.2.1
  have hL := hR.lg hl
  have hl6 : l < 6 := by omega
  have cls : ∀ (y3 y4 : Int32), (y3 < 0 ∨ nI (lsz (h.1.2 l) + 1) ≤ y3) ∨ (∃ q, q < lsz (h.1.2 l) + 1 ∧ y3 = nI q ∧ ((y4 < 0 ∨ nI (lsz (h.1.2 l) + 1) ≤ y4) ∨ ∃ z, z < q ∧ y4 = nI z)) → f_X11_grown N S g (ad 0) (nI s) (nI l) y3 y4 = some (NEG, S, g, 0, 0) := fun y3 y4 hx => by
    show b_X11_grown_0 N S g _ _ _ _ _ = _
    unfold b_X11_grown_0
    rw [hC.p3, nn_S, hC.slotAt hs, c2_S, hC.p3, nn_S, hC.logAt hl, c2_S, on_S, on_S]
    rcases hx with hx | ⟨q, q1, rfl, hx | ⟨z, z1, rfl⟩⟩
    · rw [c_reachesF hA hx, c2_S, if_pos z00]; rfl
    · rw [c_reachesT hA (by omega), c2_S, if_neg z10, c_reachesF hA hx, c2_S, if_pos z00]; rfl
    · rw [c_reachesT hA (by omega), c2_S, if_neg z10, c_reachesT hA (by omega), c2_S, if_neg z10, if_neg (nI_ge z1 (by omega))]; rfl
  have badN : x4 < 0 ∨ nI (lsz (h.1.2 l) + 1) ≤ x4 → StM B S g ad m kc (fun S g => f_X11_grown N S g (ad 0) (nI s) (nI l) x3 x4) (fun S g => f_X12_grown N S g (ad 20000) (nI s) (nI l) x3 x4) := fun hx => by
    refine StM.same hJ (r := NEG) ?_ ?_
    · refine cls x3 x4 ?_
      rcases pk_ix x3 (show lsz (h.1.2 l) + 1 < 2 ^ 31 by omega) with c | c | ⟨q, q1, rfl⟩
      · exact Or.inl (Or.inl c)
      · exact Or.inl (Or.inr c)
      · exact Or.inr ⟨q, q1, rfl, Or.inl hx⟩
    · show b_X12_grown_0 N S g _ _ _ _ _ = _
      unfold b_X12_grown_0
      rw [m_isSlotT hs, c2_S, if_neg z10, m_isCountN nl h6 hl hsz hx hR.1 hL, c2_S, if_pos z00]
      rfl
  rcases pk_ix x4 (show lsz (h.1.2 l) + 1 < 2 ^ 31 by omega) with c | c | ⟨n, hn, rfl⟩
  · exact badN (Or.inl c)
  · exact badN (Or.inr c)
  have hn' : n ≤ lsz (h.1.2 l) := by omega
  have badM : x3 < 0 ∨ nI (n + 1) ≤ x3 → StM B S g ad m kc (fun S g => f_X11_grown N S g (ad 0) (nI s) (nI l) x3 (nI n)) (fun S g => f_X12_grown N S g (ad 20000) (nI s) (nI l) x3 (nI n)) := fun hx => by
    refine StM.same hJ (r := NEG) ?_ ?_
    · refine cls x3 (nI n) ?_
      rcases pk_ix x3 (show lsz (h.1.2 l) + 1 < 2 ^ 31 by omega) with c | c | ⟨q, q1, rfl⟩
      · exact Or.inl (Or.inl c)
      · exact Or.inl (Or.inr c)
      · refine Or.inr ⟨q, q1, rfl, Or.inr ⟨n, ?_, rfl⟩⟩
        rcases hx with hx | hx
        · exact absurd hx (nI_pos (by omega))
        · apply Classical.byContradiction
          intro hc
          exact absurd hx (nI_ge (by omega) (by omega))
    · show b_X12_grown_0 N S g _ _ _ _ _ = _
      unfold b_X12_grown_0
      rw [m_isSlotT hs, c2_S, if_neg z10, m_isCountT nl h6 hl hsz hn' hR.1 hL, c2_S, if_neg z10]
      by_cases c : x3 < 0
      · rw [if_pos c]; rfl
      · rw [if_neg c, if_neg (fun e : x3 ≤ nI n => absurd (ge_gt (show n + 1 < 2 ^ 31 by omega) (hx.resolve_left c)).1 (Int32.not_lt.mpr e))]; rfl
  rcases pk_ix x3 (show n + 1 < 2 ^ 31 by omega) with c | c | ⟨q, hq, rfl⟩
  · exact badM (Or.inl c)
  · exact badM (Or.inr c)
  have hq' : q ≤ n := by omega
  have cq0 : ¬ nI q < (0 : Int32) := nI_pos (by omega)
  have cqn : nI q ≤ nI n := nI_le hq' (by omega)
  obtain ⟨ad1, S1, g1, k, w, b1, m1, m2, m3, m4, m5⟩ := c_showGrowth (N := N) (B := B) hN (x2 := nI q) (x3 := nI n) (m := q) (nn_ := n) (b := 200 + 20 * l) (p := 400 + 4 * s) rfl rfl hq' hn' (by omega) hC.1.1 hA hO.1 (hC.room hs)
  have hI1 := m2.1
  have hR1 := hR.mv m1 (fun r hr => by omega)
  have hL1 := hR1.lg hl
  have d6 : ad1 20000 = ad 20000 := m1.ad (by omega)
  obtain ⟨g2, e1, e2, e3, e4⟩ := m_begR (N := N) hN hI1 hs (2 : Int32) (nI n) (nI q) (0 : Int32) (by decide) hR1.1
  have hL2 := hL1.eq (g1 := g2) (ad1 := ad1) (fun r r1 r2 => ⟨e2.I (by omega), e2.L (by omega)⟩)
  obtain ⟨g4, j1, j2, j3, j4⟩ := m_steps2 (N := N) hN hI1 (a := q) (b := q) (n := n) hs hl6 hsz (by omega) hq' hn' (hR1.1.fr e2.1) hL2 e3 rfl
  have hX2 : RSl g4 ad1 0 s (groX (h.1.2 l) q n) := j3
  have fA : FM ad1 (fun r => 20010 ≤ r ∧ r ≤ 20013 ∨ 20044 ≤ r) g1 g4 := (FM.fr ((e2.mono (fun r hr => by omega)).tr (j2.mono (fun r hr => by omega))) (by omega))
  have hw : SlWf (groX (h.1.2 l) q n) := by
    unfold groX
    obtain ⟨z1, z2, z3⟩ := blkX_sc (LSUM (h.1.2 l)) 0 q (begX 2 (nI n) (nI q))
    obtain ⟨y1, y2, y3⟩ := blkX_sc (LSUM (h.1.2 l)) q n (blkX (LSUM (h.1.2 l)) 0 q (begX 2 (nI n) (nI q)))
    have nb1 := nb_le (a := 0) (b := q) (by omega)
    have nb2 := nb_le (a := q) (b := n) (by omega)
    have q0 : (begX 2 (nI n) (nI q)).2.2.1 = 0 := rfl
    have q1 : (begX 2 (nI n) (nI q)).2.1.1 = 0 := rfl
    have q2 : (begX 2 (nI n) (nI q)).1 = (nI 2, nI n, nI q, 0, 0, 0, 0) := rfl
    rw [z3] at y3
    rw [z2, q2] at y2
    refine ⟨by rw [y3, q1]; omega, by omega, Or.inr (Or.inr (Or.inl ⟨by rw [y2], by rw [y3, q1], by rw [y2], q, n, hq', by omega, by rw [y2], by rw [y2], by omega⟩))⟩
  obtain ⟨t1, t2, t3, t4, t5⟩ := slot_fin hJ hs m1 (fun r hr => by omega) m2 m3 (hC.sc.pf m1 (fun r hr => by omega) (by omega) m3) m4 m5 hw fA (fun r hr => by omega) hX2 (e4.tr j4)
  refine ⟨nI (groX (h.1.2 l) q n).2.2.1, ad1, S1, g1, g4, k + 0, w + 0, _, m, kc, ?_, ?_, t1, t2, t3, by omega, by omega⟩
  · show b_X11_grown_0 N S g _ _ _ _ _ = _
    unfold b_X11_grown_0
    rw [hC.p3, nn_S, hC.slotAt hs, c2_S, hC.p3, nn_S, hC.logAt hl, c2_S, on_S, on_S, c_reachesT hA (by omega), c2_S, if_neg z10, c_reachesT hA hn', c2_S, if_neg z10, if_pos cqn, b1, c5_S, ← m3, m4.cnt, tk_S]
  · rw [← d6]
    show b_X12_grown_0 N S1 g1 _ _ _ _ _ = _
    unfold b_X12_grown_0
    rw [m_isSlotT hs, c2_S, if_neg z10, m_isCountT hR1.nl h6 hl hsz hn' hR1.1 hL1, c2_S, if_neg z10, if_neg cq0, if_pos cqn]
    rw [e1, c2_S]
    simp (disch := (first | assumption | omega | (apply Inj.ne <;> first | assumption | omega) | fail)) only [nn_S, nm_D, ck_T, c2_S, on_N, on_S, lit, mNEG, nI_add, pk_mul, inb_nI, nI_clamp, wrI_row, wrL_row, rdR_rowI, rdR_rowL, rdI_def, rdL_def, rowI_same, rowI_ne, rowI_rowI, rowL_same, rowL_ne, rowL_1, rowI_21, upd_same, upd_ne, nI_le_T, nI_le_F, nI_lt_T, nI_lt_F, nI_eq_F, nI_NEG, NEG_lt0, nI_p, eq_self, if_true, if_false]
    exact j1
theorem PfO.row {S : Hs} {g : Hg} {ad : Nat → Nat} (hI : Inj ad) {p : Nat} {X Y : ASl} (hO : PfO S g ad p X) {r : Nat → Int32} (e : Y.2 = X.2) (hr : r 3 = nI X.2.1.1 ∧ r 4 = nI X.2.2.1 ∧ r 5 = Y.1.1 ∧ r 6 = Y.1.2.1 ∧ r 7 = Y.1.2.2.1 ∧ r 8 = Y.1.2.2.2.1 ∧ r 9 = Y.1.2.2.2.2.1 ∧ r 10 = Y.1.2.2.2.2.2.1 ∧ r 11 = Y.1.2.2.2.2.2.2) : PfO S (rowI g (ad p) r) ad p Y := by
  have f : Fr ad (fun q => q = p) g (rowI g (ad p) r) := Fr.row hI rfl
  obtain ⟨o1, ⟨o2, o3, o4⟩, o5⟩ := hO
  refine ⟨o1.fr rfl, ⟨?_, ?_, ?_⟩, by rw [e]; exact o5⟩
  · rw [rowI_same, e]; exact hr
  · rw [e, f.I (by omega), f.L (by omega)]; exact o3
  · rw [e, f.I (by omega)]; exact o4
def endX (X : ASl) (b : Int32) : ASl := ((X.1.1, X.1.2.1, X.1.2.2.1, b, X.1.2.2.2.2.1, X.1.2.2.2.2.2.1, X.1.2.2.2.2.2.2), X.2)
theorem PfO.e8 {S : Hs} {g : Hg} {ad : Nat → Nat} (hI : Inj ad) {p : Nat} {X : ASl} (b : Int32) (hO : PfO S g ad p X) : PfO S (rowI g (ad p) (upd (g.1 (ad p)) 8 b)) ad p (endX X b) := by
  obtain ⟨v3, v4, v5, v6, v7, v8, v9, v10, v11⟩ := id hO.2.1.1
  refine hO.row hI rfl ⟨?_, ?_, ?_, ?_, ?_, ?_, ?_, ?_, ?_⟩
  · simp (disch := (first | assumption | omega | (apply Inj.ne <;> first | assumption | omega) | fail)) only [nn_S, nm_D, ck_T, c2_S, on_N, on_S, lit, mNEG, nI_add, pk_mul, inb_nI, nI_clamp, wrI_row, wrL_row, rdR_rowI, rdR_rowL, rdI_def, rdL_def, rowI_same, rowI_ne, rowI_rowI, rowL_same, rowL_ne, rowL_1, rowI_21, upd_same, upd_ne, nI_le_T, nI_le_F, nI_lt_T, nI_lt_F, nI_eq_F, nI_NEG, NEG_lt0, nI_p, eq_self, if_true, if_false, v3]
  · simp (disch := (first | assumption | omega | (apply Inj.ne <;> first | assumption | omega) | fail)) only [nn_S, nm_D, ck_T, c2_S, on_N, on_S, lit, mNEG, nI_add, pk_mul, inb_nI, nI_clamp, wrI_row, wrL_row, rdR_rowI, rdR_rowL, rdI_def, rdL_def, rowI_same, rowI_ne, rowI_rowI, rowL_same, rowL_ne, rowL_1, rowI_21, upd_same, upd_ne, nI_le_T, nI_le_F, nI_lt_T, nI_lt_F, nI_eq_F, nI_NEG, NEG_lt0, nI_p, eq_self, if_true, if_false, v4]
  · simp (disch := (first | assumption | omega | (apply Inj.ne <;> first | assumption | omega) | fail)) only [nn_S, nm_D, ck_T, c2_S, on_N, on_S, lit, mNEG, nI_add, pk_mul, inb_nI, nI_clamp, wrI_row, wrL_row, rdR_rowI, rdR_rowL, rdI_def, rdL_def, rowI_same, rowI_ne, rowI_rowI, rowL_same, rowL_ne, rowL_1, rowI_21, upd_same, upd_ne, nI_le_T, nI_le_F, nI_lt_T, nI_lt_F, nI_eq_F, nI_NEG, NEG_lt0, nI_p, eq_self, if_true, if_false, v5]; rfl
  · simp (disch := (first | assumption | omega | (apply Inj.ne <;> first | assumption | omega) | fail)) only [nn_S, nm_D, ck_T, c2_S, on_N, on_S, lit, mNEG, nI_add, pk_mul, inb_nI, nI_clamp, wrI_row, wrL_row, rdR_rowI, rdR_rowL, rdI_def, rdL_def, rowI_same, rowI_ne, rowI_rowI, rowL_same, rowL_ne, rowL_1, rowI_21, upd_same, upd_ne, nI_le_T, nI_le_F, nI_lt_T, nI_lt_F, nI_eq_F, nI_NEG, NEG_lt0, nI_p, eq_self, if_true, if_false, v6]; rfl
  · simp (disch := (first | assumption | omega | (apply Inj.ne <;> first | assumption | omega) | fail)) only [nn_S, nm_D, ck_T, c2_S, on_N, on_S, lit, mNEG, nI_add, pk_mul, inb_nI, nI_clamp, wrI_row, wrL_row, rdR_rowI, rdR_rowL, rdI_def, rdL_def, rowI_same, rowI_ne, rowI_rowI, rowL_same, rowL_ne, rowL_1, rowI_21, upd_same, upd_ne, nI_le_T, nI_le_F, nI_lt_T, nI_lt_F, nI_eq_F, nI_NEG, NEG_lt0, nI_p, eq_self, if_true, if_false, v7]; rfl
  · simp (disch := (first | assumption | omega | (apply Inj.ne <;> first | assumption | omega) | fail)) only [nn_S, nm_D, ck_T, c2_S, on_N, on_S, lit, mNEG, nI_add, pk_mul, inb_nI, nI_clamp, wrI_row, wrL_row, rdR_rowI, rdR_rowL, rdI_def, rdL_def, rowI_same, rowI_ne, rowI_rowI, rowL_same, rowL_ne, rowL_1, rowI_21, upd_same, upd_ne, nI_le_T, nI_le_F, nI_lt_T, nI_lt_F, nI_eq_F, nI_NEG, NEG_lt0, nI_p, eq_self, if_true, if_false]; rfl
  · simp (disch := (first | assumption | omega | (apply Inj.ne <;> first | assumption | omega) | fail)) only [nn_S, nm_D, ck_T, c2_S, on_N, on_S, lit, mNEG, nI_add, pk_mul, inb_nI, nI_clamp, wrI_row, wrL_row, rdR_rowI, rdR_rowL, rdI_def, rdL_def, rowI_same, rowI_ne, rowI_rowI, rowL_same, rowL_ne, rowL_1, rowI_21, upd_same, upd_ne, nI_le_T, nI_le_F, nI_lt_T, nI_lt_F, nI_eq_F, nI_NEG, NEG_lt0, nI_p, eq_self, if_true, if_false, v9]; rfl
  · simp (disch := (first | assumption | omega | (apply Inj.ne <;> first | assumption | omega) | fail)) only [nn_S, nm_D, ck_T, c2_S, on_N, on_S, lit, mNEG, nI_add, pk_mul, inb_nI, nI_clamp, wrI_row, wrL_row, rdR_rowI, rdR_rowL, rdI_def, rdL_def, rowI_same, rowI_ne, rowI_rowI, rowL_same, rowL_ne, rowL_1, rowI_21, upd_same, upd_ne, nI_le_T, nI_le_F, nI_lt_T, nI_lt_F, nI_eq_F, nI_NEG, NEG_lt0, nI_p, eq_self, if_true, if_false, v10]; rfl
  · simp (disch := (first | assumption | omega | (apply Inj.ne <;> first | assumption | omega) | fail)) only [nn_S, nm_D, ck_T, c2_S, on_N, on_S, lit, mNEG, nI_add, pk_mul, inb_nI, nI_clamp, wrI_row, wrL_row, rdR_rowI, rdR_rowL, rdI_def, rdL_def, rowI_same, rowI_ne, rowI_rowI, rowL_same, rowL_ne, rowL_1, rowI_21, upd_same, upd_ne, nI_le_T, nI_le_F, nI_lt_T, nI_lt_F, nI_eq_F, nI_NEG, NEG_lt0, nI_p, eq_self, if_true, if_false, v11]; rfl
/-- the reference tells entries a to b - 1, then the BLOCKS around them -/
theorem m_span97 {N : Nat} (hN : 40000 ≤ N) {S : Hs} {ad : Nat → Nat} (hI : Inj ad) {s l a b nn_ : Nat} {A : ALog} (hs : s < 16) (hl : l < 6) (hsz : lsz A ≤ 400) (hab : a ≤ b) (hb40 : b ≤ a + 40) (hb : b ≤ nn_) (hn : nn_ ≤ lsz A) : ∀ (f n i : Nat) (g : Hg) (X : ASl), i + f = b → a ≤ i → f < n → RfP S g ad → RLog g ad 0 l A → RSl g ad 0 s X → X.2.1.1 + a = i → X.2.2.1 = 0 → ¬ (X.1.1 = nI 3 ∨ X.1.1 = nI 4) →
    ∃ g1, n_X12_span_97 N S n g (ad 20000) (nI s) (nI l) (nI nn_) (nI a) (nI b) (nI i) = some (nI (blkX (LSUM A) b nn_ (blkX (LSUM A) 0 a (entF A f i X))).2.2.1, g1) ∧ Fr ad (fun r => 20010 ≤ r ∧ r ≤ 20013 ∨ 20044 ≤ r) g g1 ∧ RSl g1 ad 0 s (blkX (LSUM A) b nn_ (blkX (LSUM A) 0 a (entF A f i X))) ∧ SlG ad s g g1 := by
  intro f
  induction f with
  | zero =>
    intro n i g X h1 h2 h3 hR hL hX he hc hk
    have hib : i = b := by omega
    subst hib
    obtain ⟨n, rfl⟩ : ∃ z, n = z + 1 := ⟨n - 1, by omega⟩
    obtain ⟨g4, j1, j2, j3, j4⟩ := m_steps2 (N := N) hN hI (a := a) (b := i) (n := nn_) hs hl hsz (by omega) hb hn hR hL hX hc
    refine ⟨g4, ?_, j2.mono (fun r hr => by omega), j3, j4⟩
    show b_X12_span_97 N S _ g _ _ _ _ _ _ _ = _
    unfold b_X12_span_97
    simp (disch := (first | assumption | omega | (apply Inj.ne <;> first | assumption | omega) | fail)) only [nn_S, nm_D, ck_T, c2_S, on_N, on_S, lit, mNEG, nI_add, pk_mul, inb_nI, nI_clamp, wrI_row, wrL_row, rdR_rowI, rdR_rowL, rdI_def, rdL_def, rowI_same, rowI_ne, rowI_rowI, rowL_same, rowL_ne, rowL_1, rowI_21, upd_same, upd_ne, nI_le_T, nI_le_F, nI_lt_T, nI_lt_F, nI_eq_F, nI_NEG, NEG_lt0, nI_p, eq_self, if_true, if_false]
    exact j1
  | succ f ih =>
    intro n i g X h1 h2 h3 hR hL hX he hc hk
    obtain ⟨n, rfl⟩ : ∃ z, n = z + 1 := ⟨n - 1, by omega⟩
    obtain ⟨g3, q1, q2, q3, q4⟩ := hX.ent hI (q := 40 * s + i - a) (lky A i) (lvl A i) (by omega) (by omega) hk
    have hL3 := hL.eq (g1 := g3) (ad1 := ad) (fun r r1 r2 => ⟨q2.I (by omega), q2.L (by omega)⟩)
    obtain ⟨g4, j1, j2, j3, j4⟩ := ih n (i + 1) g3 (entX X (lky A i) (lvl A i)) (by omega) (by omega) (by omega) (hR.fr q2.1) hL3 q3 (by show X.2.1.1 + 1 + a = i + 1; omega) hc hk
    refine ⟨g4, ?_, (q2.mono (fun r hr => by omega)).tr j2, j3, q4.tr j4⟩
    have p2 : rdR _ (ad 20000) 2 = some (ad 20003) := hR.p 2 (by decide)
    have l2 : hpL _ (ad 20003) = 2400 := hR.l 2 (by decide) rfl
    have p3 : rdR _ (ad 20000) 3 = some (ad 20004) := hR.p 3 (by decide)
    have l3 : hpL _ (ad 20004) = 2400 := hR.l 3 (by decide) rfl
    have p10 : rdR _ (ad 20000) 10 = some (ad 20011) := hR.p 10 (by decide)
    have l10 : hpL _ (ad 20011) = 640 := hR.l 10 (by decide) rfl
    have p11 : rdR _ (ad 20000) 11 = some (ad 20012) := hR.p 11 (by decide)
    have l11 : hpL _ (ad 20012) = 640 := hR.l 11 (by decide) rfl
    have vk : g.1 (ad 20003) (400 * l + i) = lky A i := (hL.2.1 i (by omega)).1
    have vv : g.2.1 (ad 20004) (400 * l + i) = lvl A i := (hL.2.1 i (by omega)).2.1
    have e40 : nI (40 * s + i) - nI a = nI (40 * s + i - a) := sub_one (by omega) (by omega)
    show b_X12_span_97 N S (n_X12_span_97 N S n) g _ _ _ _ _ _ _ = _
    unfold b_X12_span_97
    simp (disch := (first | assumption | omega | (apply Inj.ne <;> first | assumption | omega) | fail)) only [nn_S, nm_D, ck_T, c2_S, on_N, on_S, lit, mNEG, nI_add, pk_mul, inb_nI, nI_clamp, wrI_row, wrL_row, rdR_rowI, rdR_rowL, rdI_def, rdL_def, rowI_same, rowI_ne, rowI_rowI, rowL_same, rowL_ne, rowL_1, rowI_21, upd_same, upd_ne, nI_le_T, nI_le_F, nI_lt_T, nI_lt_F, nI_eq_F, nI_NEG, NEG_lt0, nI_p, eq_self, if_true, if_false, p2, l2, p3, l3, p10, l10, p11, l11, vk, vv, e40]
    rw [q1]
    exact j1
/-- are all of a to b - 1 there -/
theorem m_span51 {N : Nat} {S : Hs} {g : Hg} {ad : Nat → Nat} {s l a b nn_ : Nat} {A : ALog} (hl : l < 6) (hsz : lsz A ≤ 400) (hb : b ≤ lsz A) (hR : RfP S g ad) (hL : RLog g ad 0 l A) : ∀ (f n i : Nat), i + f = b → a ≤ i → f < n → (∀ z, a ≤ z → z < i → lft A z ≠ 2) →
    ((∃ z, a ≤ z ∧ z < b ∧ lft A z = 2) → n_X12_span_51 N S n g (ad 20000) (nI s) (nI l) (nI nn_) (nI a) (nI b) (nI i) = some (NEG, g)) ∧ ((∀ z, a ≤ z → z < b → lft A z ≠ 2) → n_X12_span_51 N S n g (ad 20000) (nI s) (nI l) (nI nn_) (nI a) (nI b) (nI i) = c2 (f_X12_begin N S g (ad 20000) (nI s) (nI 5) (nI nn_) (nI a) (nI b)) (fun u_3 g_2 => n_X12_span_97 N S N g_2 (ad 20000) (nI s) (nI l) (nI nn_) (nI a) (nI b) (nI a))) := by
  intro f
  induction f with
  | zero =>
    intro n i h1 h2 h3 h4
    obtain ⟨n, rfl⟩ : ∃ z, n = z + 1 := ⟨n - 1, by omega⟩
    refine ⟨fun ⟨z, z1, z2, z3⟩ => absurd z3 (h4 z z1 (by omega)), fun _ => ?_⟩
    show b_X12_span_51 N S _ g _ _ _ _ _ _ _ = _
    unfold b_X12_span_51
    simp (disch := (first | assumption | omega | (apply Inj.ne <;> first | assumption | omega) | fail)) only [nn_S, nm_D, ck_T, c2_S, on_N, on_S, lit, mNEG, nI_add, pk_mul, inb_nI, nI_clamp, wrI_row, wrL_row, rdR_rowI, rdR_rowL, rdI_def, rdL_def, rowI_same, rowI_ne, rowI_rowI, rowL_same, rowL_ne, rowL_1, rowI_21, upd_same, upd_ne, nI_le_T, nI_le_F, nI_lt_T, nI_lt_F, nI_eq_F, nI_NEG, NEG_lt0, nI_p, eq_self, if_true, if_false]
  | succ f ih =>
    intro n i h1 h2 h3 h4
    obtain ⟨n, rfl⟩ : ∃ z, n = z + 1 := ⟨n - 1, by omega⟩
    have p4 : rdR _ (ad 20000) 4 = some (ad 20005) := hR.p 4 (by decide)
    have l4 : hpL _ (ad 20005) = 2400 := hR.l 4 (by decide) rfl
    have vg : g.1 (ad 20005) (400 * l + i) = bI (lft A i == 2) := (hL.2.1 i (by omega)).2.2.1
    by_cases cg : lft A i = 2
    · rw [cg] at vg
      have vg : g.1 (ad 20005) (400 * l + i) = nI 1 := vg
      refine ⟨fun _ => ?_, fun ha => absurd cg (ha i h2 (by omega))⟩
      show b_X12_span_51 N S _ g _ _ _ _ _ _ _ = _
      unfold b_X12_span_51
      simp (disch := (first | assumption | omega | (apply Inj.ne <;> first | assumption | omega) | fail)) only [nn_S, nm_D, ck_T, c2_S, on_N, on_S, lit, mNEG, nI_add, pk_mul, inb_nI, nI_clamp, wrI_row, wrL_row, rdR_rowI, rdR_rowL, rdI_def, rdL_def, rowI_same, rowI_ne, rowI_rowI, rowL_same, rowL_ne, rowL_1, rowI_21, upd_same, upd_ne, nI_le_T, nI_le_F, nI_lt_T, nI_lt_F, nI_eq_F, nI_NEG, NEG_lt0, nI_p, eq_self, if_true, if_false, p4, l4, vg]
    · have vg : g.1 (ad 20005) (400 * l + i) = nI 0 := by
        rw [vg, show (lft A i == 2) = false from beq_false_of_ne cg]
        rfl
      have hi := ih n (i + 1) (by omega) (by omega) (by omega) (fun z z1 z2 => by
        by_cases c : z = i
        · subst c; exact cg
        · exact h4 z z1 (by omega))
      refine ⟨fun ha => ?_, fun ha => ?_⟩
      · rw [← hi.1 ha]
        show b_X12_span_51 N S _ g _ _ _ _ _ _ _ = _
        unfold b_X12_span_51
        simp (disch := (first | assumption | omega | (apply Inj.ne <;> first | assumption | omega) | fail)) only [nn_S, nm_D, ck_T, c2_S, on_N, on_S, lit, mNEG, nI_add, pk_mul, inb_nI, nI_clamp, wrI_row, wrL_row, rdR_rowI, rdR_rowL, rdI_def, rdL_def, rowI_same, rowI_ne, rowI_rowI, rowL_same, rowL_ne, rowL_1, rowI_21, upd_same, upd_ne, nI_le_T, nI_le_F, nI_lt_T, nI_lt_F, nI_eq_F, nI_NEG, NEG_lt0, nI_p, eq_self, if_true, if_false, p4, l4, vg]
      · rw [← hi.2 ha]
        show b_X12_span_51 N S _ g _ _ _ _ _ _ _ = _
        unfold b_X12_span_51
        simp (disch := (first | assumption | omega | (apply Inj.ne <;> first | assumption | omega) | fail)) only [nn_S, nm_D, ck_T, c2_S, on_N, on_S, lit, mNEG, nI_add, pk_mul, inb_nI, nI_clamp, wrI_row, wrL_row, rdR_rowI, rdR_rowL, rdI_def, rdL_def, rowI_same, rowI_ne, rowI_rowI, rowL_same, rowL_ne, rowL_1, rowI_21, upd_same, upd_ne, nI_le_T, nI_le_F, nI_lt_T, nI_lt_F, nI_eq_F, nI_NEG, NEG_lt0, nI_p, eq_self, if_true, if_false, p4, l4, vg]
theorem t_span {B N : Nat} (hN : 40000 ≤ N) {S : Hs} {g : Hg} {ad : Nat → Nat} {m : Nat × Nat} {h : AHo} {kc : AKp} (hJ : Jn B S g ad m h kc) (x1 : Int32) (x2 : Int32) (x3 : Int32) (x4 : Int32) (x5 : Int32) : StM B S g ad m kc (fun S g => f_X11_span N S g (ad 0) x1 x2 x3 x4 x5) (fun S g => f_X12_span N S g (ad 20000) x1 x2 x3 x4 x5) := by
  obtain ⟨hC, hR, hW, hK⟩ := id hJ
  have h6 := hW.1
  have hI := hC.inj
  have nl := hR.nl
  have badS : x1 < 0 ∨ nI 16 ≤ x1 → StM B S g ad m kc (fun S g => f_X11_span N S g (ad 0) x1 x2 x3 x4 x5) (fun S g => f_X12_span N S g (ad 20000) x1 x2 x3 x4 x5) := fun hx => by
    obtain ⟨o, ho⟩ := hC.logO N h6 x2
    refine StM.same hJ (r := NEG) ?_ ?_
    · show b_X11_span_0 N S g _ _ _ _ _ _ = _
      unfold b_X11_span_0
      rw [hC.p3, nn_S, c_slotAtF hx, c2_S, hC.p3, nn_S, ho, c2_S, on_N]
      rfl
    · show b_X12_span_0 N S g _ _ _ _ _ _ = _
      unfold b_X12_span_0
      rw [m_isSlotF hx, c2_S, if_pos z00]
      rfl
  rcases pk_ix x1 (show 16 < 2 ^ 31 by decide) with c | c | ⟨s, hs, rfl⟩
  · exact badS (Or.inl c)
  · exact badS (Or.inr c)
  have hO := hC.pfo hs
  have badL : x2 < 0 ∨ nI h.1.1 ≤ x2 → StM B S g ad m kc (fun S g => f_X11_span N S g (ad 0) (nI s) x2 x3 x4 x5) (fun S g => f_X12_span N S g (ad 20000) (nI s) x2 x3 x4 x5) := fun hx => by
    refine StM.same hJ (r := NEG) ?_ ?_
    · show b_X11_span_0 N S g _ _ _ _ _ _ = _
      unfold b_X11_span_0
      rw [hC.p3, nn_S, hC.slotAt hs, c2_S, hC.p3, nn_S, hC.logF hx, c2_S, on_S, on_N]
      rfl
    · show b_X12_span_0 N S g _ _ _ _ _ _ = _
      unfold b_X12_span_0
      rw [m_isSlotT hs, c2_S, if_neg z10, m_isCountL nl hx, c2_S, if_pos z00]
      rfl
  rcases pk_ix x2 (show h.1.1 < 2 ^ 31 by omega) with c | c | ⟨l, hl, rfl⟩
  · exact badL (Or.inl c)
  · exact badL (Or.inr c)
  have hA := hC.clo hl
  have hsz := hA.2.2.1
  have hL := hR.lg hl
  have hl6 : l < 6 := by omega
  have badN : x3 < 0 ∨ nI (lsz (h.1.2 l) + 1) ≤ x3 → StM B S g ad m kc (fun S g => f_X11_span N S g (ad 0) (nI s) (nI l) x3 x4 x5) (fun S g => f_X12_span N S g (ad 20000) (nI s) (nI l) x3 x4 x5) := fun hx => by
    refine StM.same hJ (r := NEG) ?_ ?_
    · show b_X11_span_0 N S g _ _ _ _ _ _ = _
      unfold b_X11_span_0
      rw [hC.p3, nn_S, hC.slotAt hs, c2_S, hC.p3, nn_S, hC.logAt hl, c2_S, on_S, on_S, c_reachesF hA hx, c2_S, if_pos z00]
      rfl
    · show b_X12_span_0 N S g _ _ _ _ _ _ = _
      unfold b_X12_span_0
      rw [m_isSlotT hs, c2_S, if_neg z10, m_isCountN nl h6 hl hsz hx hR.1 hL, c2_S, if_pos z00]
      rfl
  rcases pk_ix x3 (show lsz (h.1.2 l) + 1 < 2 ^ 31 by omega) with c | c | ⟨n, hn, rfl⟩
  · exact badN (Or.inl c)
  · exact badN (Or.inr c)
  have hn' : n ≤ lsz (h.1.2 l) := by omega
  have badAB : (x4 < 0 ∨ x5 < x4 ∨ nI n < x5 ∨ (40 : Int32) < x5 - x4) → StM B S g ad m kc (fun S g => f_X11_span N S g (ad 0) (nI s) (nI l) (nI n) x4 x5) (fun S g => f_X12_span N S g (ad 20000) (nI s) (nI l) (nI n) x4 x5) := fun hx => by
    refine StM.same hJ (r := NEG) ?_ ?_
    · show b_X11_span_0 N S g _ _ _ _ _ _ = _
      unfold b_X11_span_0
      rw [hC.p3, nn_S, hC.slotAt hs, c2_S, hC.p3, nn_S, hC.logAt hl, c2_S, on_S, on_S, c_reachesT hA hn', c2_S, if_neg z10]
      by_cases c1 : x4 < 0
      · rw [if_pos c1]; rfl
      · by_cases c2' : x5 < x4
        · rw [if_neg c1, if_pos c2']; rfl
        · by_cases c3 : nI n < x5
          · rw [if_neg c1, if_neg c2', if_pos c3]; rfl
          · rw [if_neg c1, if_neg c2', if_neg c3, if_pos (((hx.resolve_left c1).resolve_left c2').resolve_left c3)]; rfl
    · show b_X12_span_0 N S g _ _ _ _ _ _ = _
      unfold b_X12_span_0
      rw [m_isSlotT hs, c2_S, if_neg z10, m_isCountT nl h6 hl hsz hn' hR.1 hL, c2_S, if_neg z10]
      by_cases c1 : x4 < 0
      · rw [if_pos c1]; rfl
      · by_cases c2' : x5 < x4
        · rw [if_neg c1, if_pos c2']; rfl
        · by_cases c3 : nI n < x5
          · rw [if_neg c1, if_neg c2', if_pos c3]; rfl
          · rw [if_neg c1, if_neg c2', if_neg c3, if_neg (Int32.not_le.mpr (((hx.resolve_left c1).resolve_left c2').resolve_left c3))]; rfl
  by_cases c1 : x4 < 0
  · exact badAB (Or.inl c1)
  by_cases c2' : x5 < x4
  · exact badAB (Or.inr (Or.inl c2'))
  by_cases c3 : nI n < x5
  · exact badAB (Or.inr (Or.inr (Or.inl c3)))
  by_cases c4 : (40 : Int32) < x5 - x4
  · exact badAB (Or.inr (Or.inr (Or.inr c4)))
  obtain ⟨b, hb, rfl⟩ : ∃ b, b < n + 1 ∧ x5 = nI b := by
    rcases pk_ix x5 (show n + 1 < 2 ^ 31 by omega) with c | c | c
    · exact absurd (Int32.lt_of_lt_of_le c (Int32.not_lt.mp c1)) c2'
    · exact absurd (ge_gt (by omega) c).1 c3
    · exact c
  obtain ⟨a, ha, rfl⟩ : ∃ a, a < b + 1 ∧ x4 = nI a := by
    rcases pk_ix x4 (show b + 1 < 2 ^ 31 by omega) with c | c | c
    · exact absurd c c1
    · exact absurd (ge_gt (by omega) c).1 c2'
    · exact c
  have hab : a ≤ b := by omega
  have hbn : b ≤ n := by omega
  have h40 : b ≤ a + 40 := by
    rw [sub_one hab (by omega)] at c4
    apply Classical.byContradiction
    intro hc
    exact c4 (nI_lt (a := 40) (by omega) (by omega))
  have c4' : nI b - nI a ≤ (40 : Int32) := Int32.not_lt.mp c4
  rcases c_showsAll (N := N) hN hA hab (show b ≤ lsz (h.1.2 l) by omega) with ⟨hsh, hs1⟩ | ⟨hsh, hs1⟩
  rotate_left
  · refine StM.same hJ (r := NEG) ?_ ?_
    · show b_X11_span_0 N S g _ _ _ _ _ _ = _
      unfold b_X11_span_0
      rw [hC.p3, nn_S, hC.slotAt hs, c2_S, hC.p3, nn_S, hC.logAt hl, c2_S, on_S, on_S, c_reachesT hA hn', c2_S, if_neg z10, if_neg c1, if_neg c2', if_neg c3, if_neg c4, hs1, c2_S, if_pos z00]
      rfl
    · show b_X12_span_0 N S g _ _ _ _ _ _ = _
      unfold b_X12_span_0
      rw [m_isSlotT hs, c2_S, if_neg z10, m_isCountT nl h6 hl hsz hn' hR.1 hL, c2_S, if_neg z10, if_neg c1, if_neg c2', if_neg c3, if_pos c4']
      exact (m_span51 hl6 hsz (show b ≤ lsz (h.1.2 l) by omega) hR.1 hL (b - a) N a (by omega) (by omega) (by omega) (fun z z1 z2 => absurd z2 (by omega))).1 hsh
  obtain ⟨ga, a1, a2, a3⟩ := c_begin (N := N) hI (5 : Int32) (nI n) (nI a) hO.1
  let gb : Hg := rowI ga (ad (400 + 4 * s)) (upd (ga.1 (ad (400 + 4 * s))) 8 (nI b))
  have a4 : PfO S gb ad (400 + 4 * s) (begE 5 (nI n) (nI a) (nI b)) := a3.e8 hI (nI b)
  have a5 : Fr ad (fun r => r = 400 + 4 * s) g gb := a2.tr (Fr.row hI rfl)
  obtain ⟨ad1, S1, g1, k, w, b1, b2⟩ := c_showEntries (N := N) (B := B) hN (x2 := nI n) (x3 := nI a) (x4 := nI b) (nn_ := n) (fr := a) (to := b) (b := 200 + 20 * l) (p := 400 + 4 * s) rfl rfl rfl hab hbn hn' (by omega) hsh hC.1.1 (hA.fr a5 (fun r r1 r2 => by omega)) a4 (hC.room hs) (by show 0 + (b - a) ≤ 40; omega) rfl
  have b2' := PfR.frl (a5.mono (fun r hr => by omega)) b2
  obtain ⟨m1, m2, m3, m4, m5⟩ := b2'
  have hI1 := m2.1
  have hR1 := hR.mv m1 (fun r hr => by omega)
  have hL1 := hR1.lg hl
  have d6 : ad1 20000 = ad 20000 := m1.ad (by omega)
  obtain ⟨g2, e1, e2, e3, e4⟩ := m_begR (N := N) hN hI1 hs (5 : Int32) (nI n) (nI a) (nI b) (by decide) hR1.1
  have hL2 := hL1.eq (g1 := g2) (ad1 := ad1) (fun r r1 r2 => ⟨e2.I (by omega), e2.L (by omega)⟩)
  obtain ⟨g4, j1, j2, j3, j4⟩ := m_span97 (N := N) hN hI1 (a := a) (b := b) (nn_ := n) hs hl6 hsz hab h40 hbn hn' (b - a) N a g2 (begE 5 (nI n) (nI a) (nI b)) (by omega) (Nat.le_refl _) (by omega) (hR1.1.fr e2.1) hL2 e3 (by show 0 + a = a; omega) rfl (by show ¬ ((5 : Int32) = nI 3 ∨ (5 : Int32) = nI 4); decide)
  have fA : FM ad1 (fun r => 20010 ≤ r ∧ r ≤ 20013 ∨ 20044 ≤ r) g1 g4 := (FM.fr ((e2.mono (fun r hr => by omega)).tr j2) (by omega))
  have hw : SlWf (blkX (LSUM (h.1.2 l)) b n (blkX (LSUM (h.1.2 l)) 0 a (entF (h.1.2 l) (b - a) a (begE 5 (nI n) (nI a) (nI b))))) := by
    obtain ⟨z1, z2, z3⟩ := blkX_sc (LSUM (h.1.2 l)) 0 a (entF (h.1.2 l) (b - a) a (begE 5 (nI n) (nI a) (nI b)))
    obtain ⟨y1, y2, y3⟩ := blkX_sc (LSUM (h.1.2 l)) b n (blkX (LSUM (h.1.2 l)) 0 a (entF (h.1.2 l) (b - a) a (begE 5 (nI n) (nI a) (nI b))))
    obtain ⟨x1, x2, x3⟩ := entF_sc (h.1.2 l) (b - a) a (begE 5 (nI n) (nI a) (nI b))
    have nb1 := nb_le (a := 0) (b := a) (by omega)
    have nb2 := nb_le (a := b) (b := n) (by omega)
    have q0 : (begE 5 (nI n) (nI a) (nI b)).2.2.1 = 0 := rfl
    have q1 : (begE 5 (nI n) (nI a) (nI b)).2.1.1 = 0 := rfl
    have q2 : (begE 5 (nI n) (nI a) (nI b)).1 = (nI 5, nI n, nI a, nI b, 0, 0, 0) := rfl
    rw [x1, q0] at z1
    rw [q1] at x3
    rw [z3] at y3
    rw [z2, x2, q2] at y2
    have x3' : a + (blkX (LSUM (h.1.2 l)) b n (blkX (LSUM (h.1.2 l)) 0 a (entF (h.1.2 l) (b - a) a (begE 5 (nI n) (nI a) (nI b))))).2.1.1 = b := by rw [y3, x3]; omega
    refine ⟨by omega, by omega, Or.inr (Or.inr (Or.inr (Or.inr (Or.inr ⟨by rw [y2], by rw [y2], a, n, by omega, by omega, by rw [y2], by rw [y2], by rw [x3', y2], by rw [x3']; omega⟩))))⟩
  obtain ⟨t1, t2, t3, t4, t5⟩ := slot_fin hJ hs m1 (fun r hr => by omega) m2 m3 (hC.sc.pf m1 (fun r hr => by omega) (by omega) m3) m4 m5 hw fA (fun r hr => by omega) j3 (e4.tr j4)
  refine ⟨nI (blkX (LSUM (h.1.2 l)) b n (blkX (LSUM (h.1.2 l)) 0 a (entF (h.1.2 l) (b - a) a (begE 5 (nI n) (nI a) (nI b))))).2.2.1, ad1, S1, g1, g4, k + 0, w + 0, _, m, kc, ?_, ?_, t1, t2, t3, by omega, by omega⟩
  · show b_X11_span_0 N S g _ _ _ _ _ _ = _
    unfold b_X11_span_0
    rw [hC.p3, nn_S, hC.slotAt hs, c2_S, hC.p3, nn_S, hC.logAt hl, c2_S, on_S, on_S, c_reachesT hA hn', c2_S, if_neg z10, if_neg c1, if_neg c2', if_neg c3, if_neg c4, hs1, c2_S, if_neg z10, a1, c2_S, nm_D, wrI_row, show rowI ga (ad (400 + 4 * s)) (upd (ga.1 (ad (400 + 4 * s))) 8 (nI b)) = gb from rfl, b1, c5_S, ← m3, m4.cnt, tk_S]
  · rw [← d6]
    show b_X12_span_0 N S1 g1 _ _ _ _ _ _ = _
    unfold b_X12_span_0
    rw [m_isSlotT hs, c2_S, if_neg z10, m_isCountT hR1.nl h6 hl hsz hn' hR1.1 hL1, c2_S, if_neg z10, if_neg c1, if_neg c2', if_neg c3, if_pos c4']
    rw [(m_span51 hl6 hsz (show b ≤ lsz (h.1.2 l) by omega) hR1.1 hL1 (b - a) N a (by omega) (by omega) (by omega) (fun z z1 z2 => absurd z2 (by omega))).2 hsh]
    rw [show f_X12_begin N S1 g1 (ad1 20000) (nI s) (nI 5) (nI n) (nI a) (nI b) = _ from e1, c2_S]
    exact j1
