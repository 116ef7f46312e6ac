/-! held, absent: the calls -/
theorem PfO.way {S : Hs} {g : Hg} {ad : Nat → Nat} (hI : Inj ad) {p : Nat} {kd n : Int32} (key lat : Int32) (hO : PfO S g ad p (begX kd n 0)) : PfO S (rowI g (ad p) (upd (upd (g.1 (ad p)) 9 key) 10 lat)) ad p (wayE kd n key lat 0) := by
  obtain ⟨v3, v4, v5, v6, v7, v8, v9, v10, v11⟩ := id hO.2.1.1
  refine hO.row hI rfl ⟨?_, ?_, ?_, ?_, ?_, ?_, ?_, ?_, ?_⟩
  · simp (disch := (first | assumption | omega | (apply Inj.ne <;> first | assumption | omega) | fail)) only [nn_S, nm_D, ck_T, c2_S, on_N, on_S, lit, mNEG, nI_add, pk_mul, inb_nI, nI_clamp, wrI_row, wrL_row, rdR_rowI, rdR_rowL, rdI_def, rdL_def, rowI_same, rowI_ne, rowI_rowI, rowL_same, rowL_ne, rowL_1, rowI_21, upd_same, upd_ne, nI_le_T, nI_le_F, nI_lt_T, nI_lt_F, nI_eq_F, nI_NEG, NEG_lt0, nI_p, eq_self, if_true, if_false, v3]
  · simp (disch := (first | assumption | omega | (apply Inj.ne <;> first | assumption | omega) | fail)) only [nn_S, nm_D, ck_T, c2_S, on_N, on_S, lit, mNEG, nI_add, pk_mul, inb_nI, nI_clamp, wrI_row, wrL_row, rdR_rowI, rdR_rowL, rdI_def, rdL_def, rowI_same, rowI_ne, rowI_rowI, rowL_same, rowL_ne, rowL_1, rowI_21, upd_same, upd_ne, nI_le_T, nI_le_F, nI_lt_T, nI_lt_F, nI_eq_F, nI_NEG, NEG_lt0, nI_p, eq_self, if_true, if_false, v4]
  · simp (disch := (first | assumption | omega | (apply Inj.ne <;> first | assumption | omega) | fail)) only [nn_S, nm_D, ck_T, c2_S, on_N, on_S, lit, mNEG, nI_add, pk_mul, inb_nI, nI_clamp, wrI_row, wrL_row, rdR_rowI, rdR_rowL, rdI_def, rdL_def, rowI_same, rowI_ne, rowI_rowI, rowL_same, rowL_ne, rowL_1, rowI_21, upd_same, upd_ne, nI_le_T, nI_le_F, nI_lt_T, nI_lt_F, nI_eq_F, nI_NEG, NEG_lt0, nI_p, eq_self, if_true, if_false, v5]; rfl
  · simp (disch := (first | assumption | omega | (apply Inj.ne <;> first | assumption | omega) | fail)) only [nn_S, nm_D, ck_T, c2_S, on_N, on_S, lit, mNEG, nI_add, pk_mul, inb_nI, nI_clamp, wrI_row, wrL_row, rdR_rowI, rdR_rowL, rdI_def, rdL_def, rowI_same, rowI_ne, rowI_rowI, rowL_same, rowL_ne, rowL_1, rowI_21, upd_same, upd_ne, nI_le_T, nI_le_F, nI_lt_T, nI_lt_F, nI_eq_F, nI_NEG, NEG_lt0, nI_p, eq_self, if_true, if_false, v6]; rfl
  · simp (disch := (first | assumption | omega | (apply Inj.ne <;> first | assumption | omega) | fail)) only [nn_S, nm_D, ck_T, c2_S, on_N, on_S, lit, mNEG, nI_add, pk_mul, inb_nI, nI_clamp, wrI_row, wrL_row, rdR_rowI, rdR_rowL, rdI_def, rdL_def, rowI_same, rowI_ne, rowI_rowI, rowL_same, rowL_ne, rowL_1, rowI_21, upd_same, upd_ne, nI_le_T, nI_le_F, nI_lt_T, nI_lt_F, nI_eq_F, nI_NEG, NEG_lt0, nI_p, eq_self, if_true, if_false, v7]; rfl
  · simp (disch := (first | assumption | omega | (apply Inj.ne <;> first | assumption | omega) | fail)) only [nn_S, nm_D, ck_T, c2_S, on_N, on_S, lit, mNEG, nI_add, pk_mul, inb_nI, nI_clamp, wrI_row, wrL_row, rdR_rowI, rdR_rowL, rdI_def, rdL_def, rowI_same, rowI_ne, rowI_rowI, rowL_same, rowL_ne, rowL_1, rowI_21, upd_same, upd_ne, nI_le_T, nI_le_F, nI_lt_T, nI_lt_F, nI_eq_F, nI_NEG, NEG_lt0, nI_p, eq_self, if_true, if_false, v8]; rfl
  · simp (disch := (first | assumption | omega | (apply Inj.ne <;> first | assumption | omega) | fail)) only [nn_S, nm_D, ck_T, c2_S, on_N, on_S, lit, mNEG, nI_add, pk_mul, inb_nI, nI_clamp, wrI_row, wrL_row, rdR_rowI, rdR_rowL, rdI_def, rdL_def, rowI_same, rowI_ne, rowI_rowI, rowL_same, rowL_ne, rowL_1, rowI_21, upd_same, upd_ne, nI_le_T, nI_le_F, nI_lt_T, nI_lt_F, nI_eq_F, nI_NEG, NEG_lt0, nI_p, eq_self, if_true, if_false]; rfl
  · simp (disch := (first | assumption | omega | (apply Inj.ne <;> first | assumption | omega) | fail)) only [nn_S, nm_D, ck_T, c2_S, on_N, on_S, lit, mNEG, nI_add, pk_mul, inb_nI, nI_clamp, wrI_row, wrL_row, rdR_rowI, rdR_rowL, rdI_def, rdL_def, rowI_same, rowI_ne, rowI_rowI, rowL_same, rowL_ne, rowL_1, rowI_21, upd_same, upd_ne, nI_le_T, nI_le_F, nI_lt_T, nI_lt_F, nI_eq_F, nI_NEG, NEG_lt0, nI_p, eq_self, if_true, if_false]; rfl
  · simp (disch := (first | assumption | omega | (apply Inj.ne <;> first | assumption | omega) | fail)) only [nn_S, nm_D, ck_T, c2_S, on_N, on_S, lit, mNEG, nI_add, pk_mul, inb_nI, nI_clamp, wrI_row, wrL_row, rdR_rowI, rdR_rowL, rdI_def, rdL_def, rowI_same, rowI_ne, rowI_rowI, rowL_same, rowL_ne, rowL_1, rowI_21, upd_same, upd_ne, nI_le_T, nI_le_F, nI_lt_T, nI_lt_F, nI_eq_F, nI_NEG, NEG_lt0, nI_p, eq_self, if_true, if_false, v11]; rfl
theorem PfO.wayK {S : Hs} {g : Hg} {ad : Nat → Nat} (hI : Inj ad) {p : Nat} {kd n : Int32} (key : Int32) (hO : PfO S g ad p (begX kd n 0)) : PfO S (rowI g (ad p) (upd (g.1 (ad p)) 9 key)) ad p (wayE kd n key 0 0) := by
  obtain ⟨v3, v4, v5, v6, v7, v8, v9, v10, v11⟩ := id hO.2.1.1
  refine hO.row hI rfl ⟨?_, ?_, ?_, ?_, ?_, ?_, ?_, ?_, ?_⟩
  · simp (disch := (first | assumption | omega | (apply Inj.ne <;> first | assumption | omega) | fail)) only [nn_S, nm_D, ck_T, c2_S, on_N, on_S, lit, mNEG, nI_add, pk_mul, inb_nI, nI_clamp, wrI_row, wrL_row, rdR_rowI, rdR_rowL, rdI_def, rdL_def, rowI_same, rowI_ne, rowI_rowI, rowL_same, rowL_ne, rowL_1, rowI_21, upd_same, upd_ne, nI_le_T, nI_le_F, nI_lt_T, nI_lt_F, nI_eq_F, nI_NEG, NEG_lt0, nI_p, eq_self, if_true, if_false, v3]
  · simp (disch := (first | assumption | omega | (apply Inj.ne <;> first | assumption | omega) | fail)) only [nn_S, nm_D, ck_T, c2_S, on_N, on_S, lit, mNEG, nI_add, pk_mul, inb_nI, nI_clamp, wrI_row, wrL_row, rdR_rowI, rdR_rowL, rdI_def, rdL_def, rowI_same, rowI_ne, rowI_rowI, rowL_same, rowL_ne, rowL_1, rowI_21, upd_same, upd_ne, nI_le_T, nI_le_F, nI_lt_T, nI_lt_F, nI_eq_F, nI_NEG, NEG_lt0, nI_p, eq_self, if_true, if_false, v4]
  · simp (disch := (first | assumption | omega | (apply Inj.ne <;> first | assumption | omega) | fail)) only [nn_S, nm_D, ck_T, c2_S, on_N, on_S, lit, mNEG, nI_add, pk_mul, inb_nI, nI_clamp, wrI_row, wrL_row, rdR_rowI, rdR_rowL, rdI_def, rdL_def, rowI_same, rowI_ne, rowI_rowI, rowL_same, rowL_ne, rowL_1, rowI_21, upd_same, upd_ne, nI_le_T, nI_le_F, nI_lt_T, nI_lt_F, nI_eq_F, nI_NEG, NEG_lt0, nI_p, eq_self, if_true, if_false, v5]; rfl
  · simp (disch := (first | assumption | omega | (apply Inj.ne <;> first | assumption | omega) | fail)) only [nn_S, nm_D, ck_T, c2_S, on_N, on_S, lit, mNEG, nI_add, pk_mul, inb_nI, nI_clamp, wrI_row, wrL_row, rdR_rowI, rdR_rowL, rdI_def, rdL_def, rowI_same, rowI_ne, rowI_rowI, rowL_same, rowL_ne, rowL_1, rowI_21, upd_same, upd_ne, nI_le_T, nI_le_F, nI_lt_T, nI_lt_F, nI_eq_F, nI_NEG, NEG_lt0, nI_p, eq_self, if_true, if_false, v6]; rfl
  · simp (disch := (first | assumption | omega | (apply Inj.ne <;> first | assumption | omega) | fail)) only [nn_S, nm_D, ck_T, c2_S, on_N, on_S, lit, mNEG, nI_add, pk_mul, inb_nI, nI_clamp, wrI_row, wrL_row, rdR_rowI, rdR_rowL, rdI_def, rdL_def, rowI_same, rowI_ne, rowI_rowI, rowL_same, rowL_ne, rowL_1, rowI_21, upd_same, upd_ne, nI_le_T, nI_le_F, nI_lt_T, nI_lt_F, nI_eq_F, nI_NEG, NEG_lt0, nI_p, eq_self, if_true, if_false, v7]; rfl
  · simp (disch := (first | assumption | omega | (apply Inj.ne <;> first | assumption | omega) | fail)) only [nn_S, nm_D, ck_T, c2_S, on_N, on_S, lit, mNEG, nI_add, pk_mul, inb_nI, nI_clamp, wrI_row, wrL_row, rdR_rowI, rdR_rowL, rdI_def, rdL_def, rowI_same, rowI_ne, rowI_rowI, rowL_same, rowL_ne, rowL_1, rowI_21, upd_same, upd_ne, nI_le_T, nI_le_F, nI_lt_T, nI_lt_F, nI_eq_F, nI_NEG, NEG_lt0, nI_p, eq_self, if_true, if_false, v8]; rfl
  · simp (disch := (first | assumption | omega | (apply Inj.ne <;> first | assumption | omega) | fail)) only [nn_S, nm_D, ck_T, c2_S, on_N, on_S, lit, mNEG, nI_add, pk_mul, inb_nI, nI_clamp, wrI_row, wrL_row, rdR_rowI, rdR_rowL, rdI_def, rdL_def, rowI_same, rowI_ne, rowI_rowI, rowL_same, rowL_ne, rowL_1, rowI_21, upd_same, upd_ne, nI_le_T, nI_le_F, nI_lt_T, nI_lt_F, nI_eq_F, nI_NEG, NEG_lt0, nI_p, eq_self, if_true, if_false]; rfl
  · simp (disch := (first | assumption | omega | (apply Inj.ne <;> first | assumption | omega) | fail)) only [nn_S, nm_D, ck_T, c2_S, on_N, on_S, lit, mNEG, nI_add, pk_mul, inb_nI, nI_clamp, wrI_row, wrL_row, rdR_rowI, rdR_rowL, rdI_def, rdL_def, rowI_same, rowI_ne, rowI_rowI, rowL_same, rowL_ne, rowL_1, rowI_21, upd_same, upd_ne, nI_le_T, nI_le_F, nI_lt_T, nI_lt_F, nI_eq_F, nI_NEG, NEG_lt0, nI_p, eq_self, if_true, if_false, v10]; rfl
  · simp (disch := (first | assumption | omega | (apply Inj.ne <;> first | assumption | omega) | fail)) only [nn_S, nm_D, ck_T, c2_S, on_N, on_S, lit, mNEG, nI_add, pk_mul, inb_nI, nI_clamp, wrI_row, wrL_row, rdR_rowI, rdR_rowL, rdI_def, rdL_def, rowI_same, rowI_ne, rowI_rowI, rowL_same, rowL_ne, rowL_1, rowI_21, upd_same, upd_ne, nI_le_T, nI_le_F, nI_lt_T, nI_lt_F, nI_eq_F, nI_NEG, NEG_lt0, nI_p, eq_self, if_true, if_false, v11]; rfl
theorem PfO.wayL {S : Hs} {g : Hg} {ad : Nat → Nat} (hI : Inj ad) {p n : Nat} {A : ALog} {kd key : Int32} (lat oth : Int32) (hO : PfO S g ad p (wayX kd A n key 0 0)) : PfO S (rowI g (ad p) (upd (upd (g.1 (ad p)) 10 lat) 11 oth)) ad p (wayX kd A n key lat oth) := by
  obtain ⟨v3, v4, v5, v6, v7, v8, v9, v10, v11⟩ := id hO.2.1.1
  have e1 := wayX_sc kd A n key 0 0
  have e2 := wayX_sc kd A n key lat oth
  have e3 := wayX_22 kd kd A n key lat oth 0 0
  have e4 : (wayX kd A n key lat oth).2 = (wayX kd A n key 0 0).2 := Prod.ext (e2.2.2.trans e1.2.2.symm) e3
  rw [e1.2.1] at v5 v6 v7 v8 v9
  refine hO.row hI e4 ?_
  rw [e2.2.1]
  refine ⟨?_, ?_, ?_, ?_, ?_, ?_, ?_, ?_, ?_⟩
  · simp (disch := (first | assumption | omega | (apply Inj.ne <;> first | assumption | omega) | fail)) only [nn_S, nm_D, ck_T, c2_S, on_N, on_S, lit, mNEG, nI_add, pk_mul, inb_nI, nI_clamp, wrI_row, wrL_row, rdR_rowI, rdR_rowL, rdI_def, rdL_def, rowI_same, rowI_ne, rowI_rowI, rowL_same, rowL_ne, rowL_1, rowI_21, upd_same, upd_ne, nI_le_T, nI_le_F, nI_lt_T, nI_lt_F, nI_eq_F, nI_NEG, NEG_lt0, nI_p, eq_self, if_true, if_false, v3]
  · simp (disch := (first | assumption | omega | (apply Inj.ne <;> first | assumption | omega) | fail)) only [nn_S, nm_D, ck_T, c2_S, on_N, on_S, lit, mNEG, nI_add, pk_mul, inb_nI, nI_clamp, wrI_row, wrL_row, rdR_rowI, rdR_rowL, rdI_def, rdL_def, rowI_same, rowI_ne, rowI_rowI, rowL_same, rowL_ne, rowL_1, rowI_21, upd_same, upd_ne, nI_le_T, nI_le_F, nI_lt_T, nI_lt_F, nI_eq_F, nI_NEG, NEG_lt0, nI_p, eq_self, if_true, if_false, v4]
  · simp (disch := (first | assumption | omega | (apply Inj.ne <;> first | assumption | omega) | fail)) only [nn_S, nm_D, ck_T, c2_S, on_N, on_S, lit, mNEG, nI_add, pk_mul, inb_nI, nI_clamp, wrI_row, wrL_row, rdR_rowI, rdR_rowL, rdI_def, rdL_def, rowI_same, rowI_ne, rowI_rowI, rowL_same, rowL_ne, rowL_1, rowI_21, upd_same, upd_ne, nI_le_T, nI_le_F, nI_lt_T, nI_lt_F, nI_eq_F, nI_NEG, NEG_lt0, nI_p, eq_self, if_true, if_false, v5]
  · simp (disch := (first | assumption | omega | (apply Inj.ne <;> first | assumption | omega) | fail)) only [nn_S, nm_D, ck_T, c2_S, on_N, on_S, lit, mNEG, nI_add, pk_mul, inb_nI, nI_clamp, wrI_row, wrL_row, rdR_rowI, rdR_rowL, rdI_def, rdL_def, rowI_same, rowI_ne, rowI_rowI, rowL_same, rowL_ne, rowL_1, rowI_21, upd_same, upd_ne, nI_le_T, nI_le_F, nI_lt_T, nI_lt_F, nI_eq_F, nI_NEG, NEG_lt0, nI_p, eq_self, if_true, if_false, v6]
  · simp (disch := (first | assumption | omega | (apply Inj.ne <;> first | assumption | omega) | fail)) only [nn_S, nm_D, ck_T, c2_S, on_N, on_S, lit, mNEG, nI_add, pk_mul, inb_nI, nI_clamp, wrI_row, wrL_row, rdR_rowI, rdR_rowL, rdI_def, rdL_def, rowI_same, rowI_ne, rowI_rowI, rowL_same, rowL_ne, rowL_1, rowI_21, upd_same, upd_ne, nI_le_T, nI_le_F, nI_lt_T, nI_lt_F, nI_eq_F, nI_NEG, NEG_lt0, nI_p, eq_self, if_true, if_false, v7]
  · simp (disch := (first | assumption | omega | (apply Inj.ne <;> first | assumption | omega) | fail)) only [nn_S, nm_D, ck_T, c2_S, on_N, on_S, lit, mNEG, nI_add, pk_mul, inb_nI, nI_clamp, wrI_row, wrL_row, rdR_rowI, rdR_rowL, rdI_def, rdL_def, rowI_same, rowI_ne, rowI_rowI, rowL_same, rowL_ne, rowL_1, rowI_21, upd_same, upd_ne, nI_le_T, nI_le_F, nI_lt_T, nI_lt_F, nI_eq_F, nI_NEG, NEG_lt0, nI_p, eq_self, if_true, if_false, v8]
  · simp (disch := (first | assumption | omega | (apply Inj.ne <;> first | assumption | omega) | fail)) only [nn_S, nm_D, ck_T, c2_S, on_N, on_S, lit, mNEG, nI_add, pk_mul, inb_nI, nI_clamp, wrI_row, wrL_row, rdR_rowI, rdR_rowL, rdI_def, rdL_def, rowI_same, rowI_ne, rowI_rowI, rowL_same, rowL_ne, rowL_1, rowI_21, upd_same, upd_ne, nI_le_T, nI_le_F, nI_lt_T, nI_lt_F, nI_eq_F, nI_NEG, NEG_lt0, nI_p, eq_self, if_true, if_false, v9]
  · simp (disch := (first | assumption | omega | (apply Inj.ne <;> first | assumption | omega) | fail)) only [nn_S, nm_D, ck_T, c2_S, on_N, on_S, lit, mNEG, nI_add, pk_mul, inb_nI, nI_clamp, wrI_row, wrL_row, rdR_rowI, rdR_rowL, rdI_def, rdL_def, rowI_same, rowI_ne, rowI_rowI, rowL_same, rowL_ne, rowL_1, rowI_21, upd_same, upd_ne, nI_le_T, nI_le_F, nI_lt_T, nI_lt_F, nI_eq_F, nI_NEG, NEG_lt0, nI_p, eq_self, if_true, if_false]
  · simp (disch := (first | assumption | omega | (apply Inj.ne <;> first | assumption | omega) | fail)) only [nn_S, nm_D, ck_T, c2_S, on_N, on_S, lit, mNEG, nI_add, pk_mul, inb_nI, nI_clamp, wrI_row, wrL_row, rdR_rowI, rdR_rowL, rdI_def, rdL_def, rowI_same, rowI_ne, rowI_rowI, rowL_same, rowL_ne, rowL_1, rowI_21, upd_same, upd_ne, nI_le_T, nI_le_F, nI_lt_T, nI_lt_F, nI_eq_F, nI_NEG, NEG_lt0, nI_p, eq_self, if_true, if_false]
theorem FOLE_mem (w : Nat → Int32) : ∀ (f : Nat) (l : List Int32) (k : Int32), k ∈ FOLE w f l → k ∈ l
  | 0, _, _, h => h
  | f + 1, l, k, h => by
    unfold FOLE at h
    split at h
    · exact h
    · split at h
      · exact (List.mem_filter.mp (FOLE_mem w f _ k h)).1
      · exact (List.mem_filter.mp (FOLE_mem w f _ k h)).1
theorem FST_len (A : ALog) (n : Nat) (key : Int32) : (FST A n key).length ≤ 256 := FOLS_len _ _ _ _
theorem t_held {B N : Nat} (hN : 40000 ≤ N) {S : Hs} {g : Hg} {ad : Nat → Nat} {m : Nat × Nat} {h : AHo} {kc : AKp} (hJ : Jn B S g ad m h kc) (x1 : Int32) (x2 : Int32) (x3 : Int32) (x4 : Int32) : StM B S g ad m kc (fun S g => f_X11_held N S g (ad 0) x1 x2 x3 x4) (fun S g => f_X12_held N S g (ad 20000) x1 x2 x3 x4) := by
  obtain ⟨hC, hR, hW, hK⟩ := id hJ
  have h6 := hW.1
  have hI := hC.inj
  have nl := hR.nl
  have badS : x1 < 0 ∨ nI 16 ≤ x1 → StM B S g ad m kc (fun S g => f_X11_held N S g (ad 0) x1 x2 x3 x4) (fun S g => f_X12_held N S g (ad 20000) x1 x2 x3 x4) := fun hx => by
    obtain ⟨o, ho⟩ := hC.logO N h6 x2
    refine StM.same hJ (r := NEG) ?_ ?_
    · show b_X11_held_0 N S g _ _ _ _ _ = _
      unfold b_X11_held_0
      rw [hC.p3, nn_S, c_slotAtF hx, c2_S, hC.p3, nn_S, ho, c2_S, on_N]
      rfl
    · show b_X12_held_0 N S g _ _ _ _ _ = _
      unfold b_X12_held_0
      rw [m_isSlotF hx, c2_S, if_pos z00]
      rfl
  rcases pk_ix x1 (show 16 < 2 ^ 31 by decide) with c | c | ⟨s, hs, rfl⟩
  · exact badS (Or.inl c)
  · exact badS (Or.inr c)
  have hO := hC.pfo hs
  have badL : x2 < 0 ∨ nI h.1.1 ≤ x2 → StM B S g ad m kc (fun S g => f_X11_held N S g (ad 0) (nI s) x2 x3 x4) (fun S g => f_X12_held N S g (ad 20000) (nI s) x2 x3 x4) := fun hx => by
    refine StM.same hJ (r := NEG) ?_ ?_
    · show b_X11_held_0 N S g _ _ _ _ _ = _
      unfold b_X11_held_0
      rw [hC.p3, nn_S, hC.slotAt hs, c2_S, hC.p3, nn_S, hC.logF hx, c2_S, on_S, on_N]
      rfl
    · show b_X12_held_0 N S g _ _ _ _ _ = _
      unfold b_X12_held_0
      rw [m_isSlotT hs, c2_S, if_neg z10, m_isCountL nl hx, c2_S, if_pos z00]
      rfl
  rcases pk_ix x2 (show h.1.1 < 2 ^ 31 by omega) with c | c | ⟨l, hl, rfl⟩
  · exact badL (Or.inl c)
  · exact badL (Or.inr c)
  have hA := hC.clo hl
  have hsz := hA.2.2.1
  have hL := hR.lg hl
  have hl6 : l < 6 := by omega
  have badN : x3 < 0 ∨ nI (lsz (h.1.2 l) + 1) ≤ x3 → StM B S g ad m kc (fun S g => f_X11_held N S g (ad 0) (nI s) (nI l) x3 x4) (fun S g => f_X12_held N S g (ad 20000) (nI s) (nI l) x3 x4) := fun hx => by
    refine StM.same hJ (r := NEG) ?_ ?_
    · show b_X11_held_0 N S g _ _ _ _ _ = _
      unfold b_X11_held_0
      rw [hC.p3, nn_S, hC.slotAt hs, c2_S, hC.p3, nn_S, hC.logAt hl, c2_S, on_S, on_S, c_reachesF hA hx, c2_S, if_pos z00]
      rfl
    · show b_X12_held_0 N S g _ _ _ _ _ = _
      unfold b_X12_held_0
      rw [m_isSlotT hs, c2_S, if_neg z10, m_isCountN nl h6 hl hsz hx hR.1 hL, c2_S, if_pos z00]
      rfl
  rcases pk_ix x3 (show lsz (h.1.2 l) + 1 < 2 ^ 31 by omega) with c | c | ⟨n, hn, rfl⟩
  · exact badN (Or.inl c)
  · exact badN (Or.inr c)
  have hn' : n ≤ lsz (h.1.2 l) := by omega
  obtain ⟨g1, m1, ins1, a1, a2, a3, a4⟩ := c_read (N := N) hN hI (b := 200 + 20 * l) (by omega) hA.2.2 (n := n) rfl hn' hC.sc hA.1 hA.2.1.2.2.2.2.2.2.1 hA.2.1.2.1 hA.2.1.2.2.2.2.2.1
  have hA1 := hA.fr a2 (fun r r1 r2 => by omega)
  have hO1 := hO.fr a2 (fun r r1 r2 => by omega)
  have hS1 := hC.sc.fr a2.1
  have p1 : rdR g (ad 0) 1 = some (ad 4) := hC.sc.2.2.2.2.2.1
  have p1' : rdR g1 (ad 0) 1 = some (ad 4) := by rw [a2.P]; exact p1
  have hR1 := hR.fr a2 (fun r hr => by omega)
  obtain ⟨x, u1, u2⟩ := c_lat (N := N) hN x4 hn' hS1 hA1 a3
  by_cases cv : LAT (h.1.2 l) n x4 = NEG
  · obtain ⟨g2, q1, q2⟩ := m_heldF (N := N) hN hI x4 hs hR1.nl h6 hl hA.2.2 hn' hR1.1 (hR1.lg hl) cv
    refine StM.scr hJ (r := NEG) (g1 := g1) ?_ a2 (fun q hq => by omega) q1 q2 (fun q hq => hq)
    show b_X11_held_0 N S g _ _ _ _ _ = _
    unfold b_X11_held_0
    rw [hC.p3, nn_S, hC.slotAt hs, c2_S, hC.p3, nn_S, hC.logAt hl, c2_S, on_S, on_S, c_reachesT hA hn', c2_S, if_neg z10, p1, nn_S, a1, c2_S, p1', nn_S, hA1.1.1.1, nn_S, u1, c2_S, u2, c2_S, if_pos (show LAT (h.1.2 l) n x4 = (-1 : Int32) from cv)]
    rfl
  obtain ⟨ga, b1, b2, b3⟩ := c_begin (N := N) hI (3 : Int32) (nI n) (0 : Int32) hO1.1
  let gb : Hg := rowI ga (ad (400 + 4 * s)) (upd (upd (ga.1 (ad (400 + 4 * s))) 9 x4) 10 (LAT (h.1.2 l) n x4))
  have b4 : PfO S gb ad (400 + 4 * s) (wayE 3 (nI n) x4 (LAT (h.1.2 l) n x4) 0) := b3.way hI _ _
  have b5 : Fr ad (fun r => r = 400 + 4 * s) g1 gb := b2.tr (Fr.row hI rfl)
  have hAb := hA1.fr b5 (fun r r1 r2 => by omega)
  obtain ⟨ad1, S1, g2, k, w, r, c1, c2', c3, c4⟩ := c_showWay (N := N) (B := B) hN (b := 200 + 20 * l) (p := 400 + 4 * s) (by omega) (by omega) (by omega) a4 hC.1.1 (hS1.fr b5.1) hAb (a3.fr b5 (by omega)) b4 (hC.room hs) rfl
  have c2'' : PfR B (fun r => 2 ≤ r ∧ r ≤ 8 ∨ 400 + 4 * s ≤ r ∧ r < 404 + 4 * s) ad S g (400 + 4 * s) (wayX 3 (h.1.2 l) n x4 (LAT (h.1.2 l) n x4) 0) ad1 S1 g2 k w := PfR.frl ((a2.mono (fun r hr => by omega)).tr (b5.mono (fun r hr => by omega))) (PfR.mono c2' (fun r hr => by omega))
  obtain ⟨m1', m2, m3, m4, m5⟩ := c2''
  have hRm := hR.mv m1' (fun r hr => by omega)
  have d6 : ad1 20000 = ad 20000 := m1'.ad (by omega)
  obtain ⟨g3, e1, e2, e3, e4⟩ := m_heldT (N := N) hN m2.1 x4 hs hRm.nl h6 hl hA.2.2 hn' hRm.1 (hRm.lg hl) cv
  have hsc := wayX_sc 3 (h.1.2 l) n x4 (LAT (h.1.2 l) n x4) 0
  have hw : SlWf (wayX 3 (h.1.2 l) n x4 (LAT (h.1.2 l) n x4) 0) := by
    refine ⟨by rw [hsc.2.2]; omega, by rw [hsc.1]; exact FST_len _ _ _, Or.inr (Or.inr (Or.inr (Or.inl ⟨by rw [hsc.2.1]; rfl, by rw [hsc.2.2], by rw [hsc.2.1]; exact cv⟩)))⟩
  obtain ⟨t1, t2, t3, t4, t5⟩ := slot_fin hJ hs m1' (fun r hr => by omega) m2 m3 c3 m4 m5 hw e2 (fun r hr => by omega) e3 e4
  refine ⟨nI (FST (h.1.2 l) n x4).length, ad1, S1, g2, g3, k + 0, w + 0, _, m, kc, ?_, by rw [← d6]; exact e1, t1, t2, t3, by omega, by omega⟩
  have p1b : rdR gb (ad 0) 1 = some (ad 4) := by rw [b5.P]; exact p1'
  have hcnt := m4.cnt
  rw [hsc.1, m3] at hcnt
  show b_X11_held_0 N S g _ _ _ _ _ = _
  unfold b_X11_held_0
  rw [hC.p3, nn_S, hC.slotAt hs, c2_S, hC.p3, nn_S, hC.logAt hl, c2_S, on_S, on_S, c_reachesT hA hn', c2_S, if_neg z10, p1, nn_S, a1, c2_S, p1', nn_S, hA1.1.1.1, nn_S, u1, c2_S, u2, c2_S, if_neg (show ¬ LAT (h.1.2 l) n x4 = (-1 : Int32) from cv), b1, c2_S, nm_D, nm_D, show wrI (wrI ga (ad (400 + 4 * s)) 9 x4) (ad (400 + 4 * s)) 10 (LAT (h.1.2 l) n x4) = gb by rw [wrI_row, wrI_row, rowI_same, rowI_rowI], p1b, nn_S, hAb.1.1.1, nn_S, c1, c5_S, hcnt, tk_S]
theorem t_absent {B N : Nat} (hN : 40000 ≤ N) {S : Hs} {g : Hg} {ad : Nat → Nat} {m : Nat × Nat} {h : AHo} {kc : AKp} (hJ : Jn B S g ad m h kc) (x1 : Int32) (x2 : Int32) (x3 : Int32) (x4 : Int32) : StM B S g ad m kc (fun S g => f_X11_absent N S g (ad 0) x1 x2 x3 x4) (fun S g => f_X12_absent N S g (ad 20000) x1 x2 x3 x4) := by
  obtain ⟨hC, hR, hW, hK⟩ := id hJ
  have h6 := hW.1
  have hI := hC.inj
  have nl := hR.nl
  have badS : x1 < 0 ∨ nI 16 ≤ x1 → StM B S g ad m kc (fun S g => f_X11_absent N S g (ad 0) x1 x2 x3 x4) (fun S g => f_X12_absent N S g (ad 20000) x1 x2 x3 x4) := fun hx => by
    obtain ⟨o, ho⟩ := hC.logO N h6 x2
    refine StM.same hJ (r := NEG) ?_ ?_
    · show b_X11_absent_0 N S g _ _ _ _ _ = _
      unfold b_X11_absent_0
      rw [hC.p3, nn_S, c_slotAtF hx, c2_S, hC.p3, nn_S, ho, c2_S, on_N]
      rfl
    · show b_X12_absent_0 N S g _ _ _ _ _ = _
      unfold b_X12_absent_0
      rw [m_isSlotF hx, c2_S, if_pos z00]
      rfl
  rcases pk_ix x1 (show 16 < 2 ^ 31 by decide) with c | c | ⟨s, hs, rfl⟩
  · exact badS (Or.inl c)
  · exact badS (Or.inr c)
  have hO := hC.pfo hs
  have badL : x2 < 0 ∨ nI h.1.1 ≤ x2 → StM B S g ad m kc (fun S g => f_X11_absent N S g (ad 0) (nI s) x2 x3 x4) (fun S g => f_X12_absent N S g (ad 20000) (nI s) x2 x3 x4) := fun hx => by
    refine StM.same hJ (r := NEG) ?_ ?_
    · show b_X11_absent_0 N S g _ _ _ _ _ = _
      unfold b_X11_absent_0
      rw [hC.p3, nn_S, hC.slotAt hs, c2_S, hC.p3, nn_S, hC.logF hx, c2_S, on_S, on_N]
      rfl
    · show b_X12_absent_0 N S g _ _ _ _ _ = _
      unfold b_X12_absent_0
      rw [m_isSlotT hs, c2_S, if_neg z10, m_isCountL nl hx, c2_S, if_pos z00]
      rfl
  rcases pk_ix x2 (show h.1.1 < 2 ^ 31 by omega) with c | c | ⟨l, hl, rfl⟩
  · exact badL (Or.inl c)
  · exact badL (Or.inr c)
  have hA := hC.clo hl
  have hsz := hA.2.2.1
  have hL := hR.lg hl
  have hl6 : l < 6 := by omega
  have badN : x3 < 0 ∨ nI (lsz (h.1.2 l) + 1) ≤ x3 → StM B S g ad m kc (fun S g => f_X11_absent N S g (ad 0) (nI s) (nI l) x3 x4) (fun S g => f_X12_absent N S g (ad 20000) (nI s) (nI l) x3 x4) := fun hx => by
    refine StM.same hJ (r := NEG) ?_ ?_
    · show b_X11_absent_0 N S g _ _ _ _ _ = _
      unfold b_X11_absent_0
      rw [hC.p3, nn_S, hC.slotAt hs, c2_S, hC.p3, nn_S, hC.logAt hl, c2_S, on_S, on_S, c_reachesF hA hx, c2_S, if_pos z00]
      rfl
    · show b_X12_absent_0 N S g _ _ _ _ _ = _
      unfold b_X12_absent_0
      rw [m_isSlotT hs, c2_S, if_neg z10, m_isCountN nl h6 hl hsz hx hR.1 hL, c2_S, if_pos z00]
      rfl
  rcases pk_ix x3 (show lsz (h.1.2 l) + 1 < 2 ^ 31 by omega) with c | c | ⟨n, hn, rfl⟩
  · exact badN (Or.inl c)
  · exact badN (Or.inr c)
  have hn' : n ≤ lsz (h.1.2 l) := by omega
  obtain ⟨g1, m1, ins1, a1, a2, a3, a4⟩ := c_read (N := N) hN hI (b := 200 + 20 * l) (by omega) hA.2.2 (n := n) rfl hn' hC.sc hA.1 hA.2.1.2.2.2.2.2.2.1 hA.2.1.2.1 hA.2.1.2.2.2.2.2.1
  have hA1 := hA.fr a2 (fun r r1 r2 => by omega)
  have hO1 := hO.fr a2 (fun r r1 r2 => by omega)
  have hS1 := hC.sc.fr a2.1
  have p1 : rdR g (ad 0) 1 = some (ad 4) := hC.sc.2.2.2.2.2.1
  have p1' : rdR g1 (ad 0) 1 = some (ad 4) := by rw [a2.P]; exact p1
  have hR1 := hR.fr a2 (fun r hr => by omega)
  obtain ⟨x, u1, u2⟩ := c_lat (N := N) hN x4 hn' hS1 hA1 a3
  by_cases cv : LAT (h.1.2 l) n x4 = NEG
  rotate_left
  · obtain ⟨g2, q1, q2⟩ := m_absentF (N := N) hN hI x4 hs hR1.nl h6 hl hA.2.2 hn' hR1.1 (hR1.lg hl) cv
    refine StM.scr hJ (r := NEG) (g1 := g1) ?_ a2 (fun q hq => by omega) q1 q2 (fun q hq => hq)
    show b_X11_absent_0 N S g _ _ _ _ _ = _
    unfold b_X11_absent_0
    rw [hC.p3, nn_S, hC.slotAt hs, c2_S, hC.p3, nn_S, hC.logAt hl, c2_S, on_S, on_S, c_reachesT hA hn', c2_S, if_neg z10, p1, nn_S, a1, c2_S, p1', nn_S, hA1.1.1.1, nn_S, u1, c2_S, u2, c2_S, if_neg (show ¬ LAT (h.1.2 l) n x4 = (-1 : Int32) from cv)]
    rfl
  obtain ⟨ga, b1, b2, b3⟩ := c_begin (N := N) hI (4 : Int32) (nI n) (0 : Int32) hO1.1
  let gb : Hg := rowI ga (ad (400 + 4 * s)) (upd (ga.1 (ad (400 + 4 * s))) 9 x4)
  have b4 : PfO S gb ad (400 + 4 * s) (wayE 4 (nI n) x4 0 0) := b3.wayK hI _
  have b5 : Fr ad (fun r => r = 400 + 4 * s) g1 gb := b2.tr (Fr.row hI rfl)
  have hAb := hA1.fr b5 (fun r r1 r2 => by omega)
  have hMb := a3.fr b5 (by omega)
  obtain ⟨ad1, S1, g2, k, w, r, c1, c2', c3, c4⟩ := c_showWay (N := N) (B := B) hN (b := 200 + 20 * l) (p := 400 + 4 * s) (by omega) (by omega) (by omega) a4 hC.1.1 (hS1.fr b5.1) hAb hMb b4 (hC.room hs) rfl
  have hM2 := hMb.mv c2'.1 (by omega)
  have hA2 := hAb.mv c2'.1 (fun r r1 r2 => by omega)
  have el : ad1 (200 + 20 * l) = ad (200 + 20 * l) := c2'.1.ad (by omega)
  have el0 : ad1 0 = ad 0 := c2'.1.ad (by omega)
  have c2'' : PfR B (fun r => 2 ≤ r ∧ r ≤ 8 ∨ 400 + 4 * s ≤ r ∧ r < 404 + 4 * s) ad S g (400 + 4 * s) (wayX 4 (h.1.2 l) n x4 0 0) ad1 S1 g2 k w := PfR.frl ((a2.mono (fun r hr => by omega)).tr (b5.mono (fun r hr => by omega))) (PfR.mono c2' (fun r hr => by omega))
  obtain ⟨m1', m2, m3, m4, m5⟩ := c2''
  have hI1 := m2.1
  have hKy := hA2.2.1.2.2.2.2.2.1
  have hks : lks (h.1.2 l) ≤ 400 := hA.2.2.2.2.2.2.1.1.1
  have hal : ∃ lat oth, ALO (h.1.2 l) n x4 lat oth ∧ f_X4_latestOf N S1 g2 (ad1 4) r = some (lat, g2) ∧ f_X2_keyOf N S1 (rowI g2 (ad1 (400 + 4 * s)) (upd (g2.1 (ad1 (400 + 4 * s))) 10 lat)) (ad1 (200 + 20 * l + 1)) r = some (oth, (rowI g2 (ad1 (400 + 4 * s)) (upd (g2.1 (ad1 (400 + 4 * s))) 10 lat))) := by
    rcases c4 with ⟨q, q1, q2, q3⟩ | ⟨q2, q3⟩
    · refine ⟨LAT (h.1.2 l) n (lK (h.1.2 l) q), lK (h.1.2 l) q, Or.inl ⟨q3, rfl, ?_⟩, ?_, ?_⟩
      · have hmem : lK (h.1.2 l) q ∈ KL (h.1.2 l) n := FOLE_mem (WAY x4) 256 _ _ (by rw [show FOLE (WAY x4) 256 (KL (h.1.2 l) n) = [lK (h.1.2 l) q] from q3]; exact List.mem_singleton.mpr rfl)
        unfold KL at hmem
        have := (List.mem_filter.mp hmem).2
        intro e
        rw [e] at this
        simp at this
      · rw [q2, c_latestOf rfl (by omega) c3, hM2.1 q q1]
      · have f1 : Fr ad1 (fun r => r = 400 + 4 * s) g2 (rowI g2 (ad1 (400 + 4 * s)) (upd (g2.1 (ad1 (400 + 4 * s))) 10 (LAT (h.1.2 l) n (lK (h.1.2 l) q)))) := Fr.row hI1 rfl
        have hA3 := hA2.fr f1 (fun r r1 r2 => by omega)
        have hKy3 := hA3.2.1.2.2.2.2.2.1
        exact c_keyOf q2 hA3.1 hKy3.1 hKy3.2.1 hks q1
    · refine ⟨NEG, 0, Or.inr ⟨q3, rfl, rfl⟩, ?_, ?_⟩
      · rw [q2, c_latestOfN]
      · rw [q2, c_keyOfN]
  obtain ⟨lat, oth, o1, o2, o3⟩ := hal
  let gz : Hg := rowI g2 (ad1 (400 + 4 * s)) (upd (upd (g2.1 (ad1 (400 + 4 * s))) 10 lat) 11 oth)
  have fz : Fr ad1 (fun r => r = 400 + 4 * s) g2 gz := Fr.row hI1 rfl
  have m4z : PfO S1 gz ad1 (400 + 4 * s) (wayX 4 (h.1.2 l) n x4 lat oth) := m4.wayL hI1 lat oth
  have m1z : Mv (fun r => 2 ≤ r ∧ r ≤ 8 ∨ 400 + 4 * s ≤ r ∧ r < 404 + 4 * s) ad S g ad1 S1 gz := m1'.tr (Mv.fr (fz.mono (fun r hr => by omega)))
  have hRm := hR.mv m1z (fun r hr => by omega)
  have d6 : ad1 20000 = ad 20000 := m1'.ad (by omega)
  obtain ⟨g3, lat1, oth1, e1, e0, e2, e3, e4⟩ := m_absentT (N := N) hN m2.1 x4 hs hRm.nl h6 hl hA.2.2 hn' hRm.1 (hRm.lg hl) cv
  obtain ⟨rfl, rfl⟩ := o1.uni e0
  have hsc := wayX_sc 4 (h.1.2 l) n x4 lat1 oth1
  have hw : SlWf (wayX 4 (h.1.2 l) n x4 lat1 oth1) := by
    refine ⟨by rw [hsc.2.2]; omega, by rw [hsc.1]; exact FST_len _ _ _, Or.inr (Or.inr (Or.inr (Or.inr (Or.inl ⟨by rw [hsc.2.1]; rfl, by rw [hsc.2.2]⟩))))⟩
  obtain ⟨t1, t2, t3, t4, t5⟩ := slot_fin hJ hs m1z (fun r hr => by omega) m2 m3 (c3.fr fz.1) m4z m5 hw e2 (fun r hr => by omega) e3 e4
  refine ⟨nI (FST (h.1.2 l) n x4).length, ad1, S1, gz, g3, k + 0, w + 0, _, m, kc, ?_, by rw [← d6]; exact e1, t1, t2, t3, by omega, by omega⟩
  have p1b : rdR gb (ad 0) 1 = some (ad 4) := by rw [b5.P]; exact p1'
  have p1c : rdR g2 (ad 0) 1 = some (ad1 4) := by rw [← el0]; exact c3.2.2.2.2.2.1
  have hcnt := m4z.cnt
  rw [hsc.1] at hcnt
  have hp0 : rdR (rowI g2 (ad1 (400 + 4 * s)) (upd (g2.1 (ad1 (400 + 4 * s))) 10 lat1)) (ad (200 + 20 * l)) 0 = some (ad1 (200 + 20 * l + 1)) := by rw [← el]; exact hA2.1.1.1
  show b_X11_absent_0 N S g _ _ _ _ _ = _
  unfold b_X11_absent_0
  rw [hC.p3, nn_S, hC.slotAt hs, c2_S, hC.p3, nn_S, hC.logAt hl, c2_S, on_S, on_S, c_reachesT hA hn', c2_S, if_neg z10, p1, nn_S, a1, c2_S, p1', nn_S, hA1.1.1.1, nn_S, u1, c2_S, u2, c2_S, if_pos (show LAT (h.1.2 l) n x4 = (-1 : Int32) from cv), b1, c2_S, nm_D, show wrI ga (ad (400 + 4 * s)) 9 x4 = gb from wrI_row _ _ _ _, p1b, nn_S, hAb.1.1.1, nn_S, c1, c5_S, p1c, nn_S, o2, c2_S, nm_D, ← m3, wrI_row, hp0, nn_S, o3, c2_S, nm_D, wrI_row, rowI_same, rowI_rowI, show rowI g2 (ad1 (400 + 4 * s)) (upd (upd (g2.1 (ad1 (400 + 4 * s))) 10 lat1) 11 oth1) = gz from rfl, hcnt, tk_S]
