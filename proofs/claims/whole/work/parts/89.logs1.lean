/-! calls on LOGS -/
theorem z00 : nI 0 = (0 : Int32) := rfl
theorem z10 : ¬ nI 1 = (0 : Int32) := by decide
theorem CJ.sc {B : Nat} {S : Hs} {g : Hg} {ad : Nat → Nat} {m : Nat × Nat} {h : AHo} {kc : AKp} (hJ : CJ B S g ad m h kc) : ScP S g ad := hJ.2.1.1
theorem CJ.p3 {B : Nat} {S : Hs} {g : Hg} {ad : Nat → Nat} {m : Nat × Nat} {h : AHo} {kc : AKp} (hJ : CJ B S g ad m h kc) : rdR g (ad 0) 3 = some (ad 100) := hJ.2.1.1.2.2.2.2.2.2.2.1
theorem CJ.inj {B : Nat} {S : Hs} {g : Hg} {ad : Nat → Nat} {m : Nat × Nat} {h : AHo} {kc : AKp} (hJ : CJ B S g ad m h kc) : Inj ad := hJ.1.1.1
theorem CJ.logAt {B N : Nat} {S : Hs} {g : Hg} {ad : Nat → Nat} {m : Nat × Nat} {h : AHo} {kc : AKp} {l : Nat} (hJ : CJ B S g ad m h kc) (hl : l < h.1.1) : f_X1_logAt N S g (ad 100) (nI l) = some (some (ad (200 + 20 * l)), g) := c_logAt hJ.2.2.1.1 hJ.2.2.1.2.1 hJ.2.2.1.2.2.1 hl
theorem CJ.logF {B N : Nat} {S : Hs} {g : Hg} {ad : Nat → Nat} {m : Nat × Nat} {h : AHo} {kc : AKp} {x : Int32} (hJ : CJ B S g ad m h kc) (hx : x < 0 ∨ nI h.1.1 ≤ x) : f_X1_logAt N S g (ad 100) x = some (none, g) := c_logAtF hJ.2.2.1.2.1 hx
theorem CJ.clo {B : Nat} {S : Hs} {g : Hg} {ad : Nat → Nat} {m : Nat × Nat} {h : AHo} {kc : AKp} {l : Nat} (hJ : CJ B S g ad m h kc) (hl : l < h.1.1) : CLO S g ad (200 + 20 * l) (h.1.2 l) := hJ.2.2.1.2.2.1.2.2.2.2 l hl
theorem RJ.lg {S : Hs} {g : Hg} {ad : Nat → Nat} {h : AHo} {kc : AKp} {l : Nat} (hR : RJ S g ad h kc) (hl : l < h.1.1) : RLog g ad 0 l (h.1.2 l) := hR.2.1.1.2 l hl
theorem RJ.nl {S : Hs} {g : Hg} {ad : Nat → Nat} {h : AHo} {kc : AKp} (hR : RJ S g ad h kc) : g.1 (ad 20000) 1 = nI h.1.1 := hR.2.1.1.1
theorem m_isLogT {N : Nat} {S : Hs} {g : Hg} {ad : Nat → Nat} {nl l : Nat} (h1 : g.1 (ad 20000) 1 = nI nl) (h6 : nl ≤ 6) (hl : l < nl) : f_X12_isLog N S g (ad 20000) (nI l) = some (nI 1, g) := by
  show b_X12_isLog_0 N S g (ad 20000) (nI l) = _
  unfold b_X12_isLog_0
  simp (disch := (first | assumption | omega | (apply Inj.ne <;> first | assumption | omega) | fail)) only [nn_S, nm_D, ck_T, c2_S, on_N, on_S, lit, mNEG, nI_add, pk_mul, inb_nI, nI_clamp, wrI_row, wrL_row, rdR_rowI, rdR_rowL, rdI_def, rdL_def, rowI_same, rowI_ne, rowI_rowI, rowL_same, rowL_ne, rowL_1, rowI_21, upd_same, upd_ne, nI_le_T, nI_le_F, nI_lt_T, nI_lt_F, nI_eq_F, nI_NEG, NEG_lt0, nI_p, eq_self, if_true, if_false, h1]
theorem m_isLogF {N : Nat} {S : Hs} {g : Hg} {ad : Nat → Nat} {nl : Nat} {x : Int32} (h1 : g.1 (ad 20000) 1 = nI nl) (hx : x < 0 ∨ nI nl ≤ x) : f_X12_isLog N S g (ad 20000) x = some (nI 0, g) := by
  show b_X12_isLog_0 N S g (ad 20000) x = _
  unfold b_X12_isLog_0
  by_cases c : x < 0
  · rw [if_pos c]; rfl
  · rcases hx with h | h
    · exact absurd h c
    · rw [if_neg c, rdI_def, h1, if_pos h]; rfl
theorem m_many {N : Nat} {S : Hs} {g : Hg} {ad : Nat → Nat} {l : Nat} {A : ALog} (hl : l < 6) (hR : RfP S g ad) (hL : RLog g ad 0 l A) : f_X12_many N S g (ad 20000) (nI l) = some (nI (lsz A), g) := by
  have p0 : rdR _ (ad 20000) 0 = some (ad 20001) := hR.p 0 (by decide)
  have l0 : hpL _ (ad 20001) = 24 := hR.l 0 (by decide) rfl
  have v1 : g.1 (ad 20001) (4 * l + 1) = nI (lsz A) := hL.1.2.1
  show b_X12_many_0 N S g (ad 20000) (nI l) = _
  unfold b_X12_many_0
  simp (disch := (first | assumption | omega | (apply Inj.ne <;> first | assumption | omega) | fail)) only [nn_S, nm_D, ck_T, c2_S, on_N, on_S, lit, mNEG, nI_add, pk_mul, inb_nI, nI_clamp, wrI_row, wrL_row, rdR_rowI, rdR_rowL, rdI_def, rdL_def, rowI_same, rowI_ne, rowI_rowI, rowL_same, rowL_ne, rowL_1, rowI_21, upd_same, upd_ne, nI_le_T, nI_le_F, nI_lt_T, nI_lt_F, nI_eq_F, nI_NEG, NEG_lt0, nI_p, eq_self, if_true, if_false, p0, l0, v1]
theorem m_isCountT {N : Nat} {S : Hs} {g : Hg} {ad : Nat → Nat} {nl l n : Nat} {A : ALog} (h1 : g.1 (ad 20000) 1 = nI nl) (h6 : nl ≤ 6) (hl : l < nl) (hsz : lsz A ≤ 400) (hn : n ≤ lsz A) (hR : RfP S g ad) (hL : RLog g ad 0 l A) : f_X12_isCount N S g (ad 20000) (nI l) (nI n) = some (nI 1, g) := by
  have a1 := m_isLogT (N := N) (S := S) h1 h6 hl
  have a2 := m_many (N := N) (show l < 6 by omega) hR hL
  show b_X12_isCount_0 N S g (ad 20000) (nI l) (nI n) = _
  unfold b_X12_isCount_0
  simp (disch := (first | assumption | omega | (apply Inj.ne <;> first | assumption | omega) | fail)) only [nn_S, nm_D, ck_T, c2_S, on_N, on_S, lit, mNEG, nI_add, pk_mul, inb_nI, nI_clamp, wrI_row, wrL_row, rdR_rowI, rdR_rowL, rdI_def, rdL_def, rowI_same, rowI_ne, rowI_rowI, rowL_same, rowL_ne, rowL_1, rowI_21, upd_same, upd_ne, nI_le_T, nI_le_F, nI_lt_T, nI_lt_F, nI_eq_F, nI_NEG, NEG_lt0, nI_p, eq_self, if_true, if_false, a1, a2]
theorem m_isCountL {N : Nat} {S : Hs} {g : Hg} {ad : Nat → Nat} {nl : Nat} {x y : Int32} (h1 : g.1 (ad 20000) 1 = nI nl) (hx : x < 0 ∨ nI nl ≤ x) : f_X12_isCount N S g (ad 20000) x y = some (nI 0, g) := by
  have a1 := m_isLogF (N := N) (S := S) h1 hx
  show b_X12_isCount_0 N S g (ad 20000) x y = _
  unfold b_X12_isCount_0
  rw [a1, c2_S, if_pos z00]
  rfl
theorem m_isCountN {N : Nat} {S : Hs} {g : Hg} {ad : Nat → Nat} {nl l : Nat} {A : ALog} {y : Int32} (h1 : g.1 (ad 20000) 1 = nI nl) (h6 : nl ≤ 6) (hl : l < nl) (hsz : lsz A ≤ 400) (hy : y < 0 ∨ nI (lsz A + 1) ≤ y) (hR : RfP S g ad) (hL : RLog g ad 0 l A) : f_X12_isCount N S g (ad 20000) (nI l) y = some (nI 0, g) := by
  have a1 := m_isLogT (N := N) (S := S) h1 h6 hl
  have a2 := m_many (N := N) (show l < 6 by omega) hR hL
  show b_X12_isCount_0 N S g (ad 20000) (nI l) y = _
  unfold b_X12_isCount_0
  rw [a1, c2_S, if_neg (show ¬ nI 1 = (0 : Int32) by decide)]
  by_cases c : y < 0
  · rw [if_pos c]; rfl
  · rcases hy with h | h
    · exact absurd h c
    · rw [if_neg c, a2, c2_S, if_pos (ge_gt (show lsz A + 1 < 2 ^ 31 by omega) h).1]; rfl
/-- of the reference's LOGS, only the places of LOG l are others -/
def LgF (ad : Nat → Nat) (l : Nat) (g g1 : Hg) : Prop := (∀ j, j < 4 * l ∨ 4 * l + 4 ≤ j → g1.1 (ad 20001) j = g.1 (ad 20001) j) ∧ (∀ r, 20003 ≤ r → r ≤ 20006 → ∀ j, j < 400 * l ∨ 400 * l + 400 ≤ j → g1.1 (ad r) j = g.1 (ad r) j) ∧ (∀ j, j < 400 * l ∨ 400 * l + 400 ≤ j → g1.2.1 (ad 20004) j = g.2.1 (ad 20004) j) ∧ (∀ r, 20007 ≤ r → r ≤ 20009 → ∀ j, j < 100 * l ∨ 100 * l + 100 ≤ j → g1.1 (ad r) j = g.1 (ad r) j)
theorem RLog.oth {g g1 : Hg} {ad : Nat → Nat} {l i : Nat} {A : ALog} (h : RLog g ad 0 i A) (hsz : lsz A ≤ 400) (hm : lmk A ≤ 100) (hne : i ≠ l) (e : LgF ad l g g1) : RLog g1 ad 0 i A := by
  obtain ⟨e1, e2, e4, e3⟩ := e
  obtain ⟨⟨a1, a2, a3, a4⟩, a5, a6⟩ := h
  refine ⟨⟨?_, ?_, ?_, ?_⟩, fun j hj => ⟨?_, ?_, ?_, ?_⟩, fun k hk => ⟨?_, ?_, ?_⟩⟩
  · exact (e1 (4 * i) (by omega)).trans a1
  · exact (e1 (4 * i + 1) (by omega)).trans a2
  · exact (e1 (4 * i + 2) (by omega)).trans a3
  · exact (e1 (4 * i + 3) (by omega)).trans a4
  · exact (e2 20003 (by omega) (by omega) (400 * i + j) (by omega)).trans (a5 j hj).1
  · exact (e4 (400 * i + j) (by omega)).trans (a5 j hj).2.1
  · exact (e2 20005 (by omega) (by omega) (400 * i + j) (by omega)).trans (a5 j hj).2.2.1
  · exact (e2 20006 (by omega) (by omega) (400 * i + j) (by omega)).trans (a5 j hj).2.2.2
  · exact (e3 20007 (by omega) (by omega) (100 * i + k) (by omega)).trans (a6 k hk).1
  · exact (e3 20008 (by omega) (by omega) (100 * i + k) (by omega)).trans (a6 k hk).2.1
  · exact (e3 20009 (by omega) (by omega) (100 * i + k) (by omega)).trans (a6 k hk).2.2
theorem RJ.log {S : Hs} {g g1 : Hg} {ad : Nat → Nat} {h : AHo} {kc : AKp} {R : Nat → Prop} {l : Nat} {A1 : ALog} (hR : RJ S g ad h kc) (hw : ∀ i, i < h.1.1 → LogWf (h.1.2 i)) (hf : FM ad R g g1) (n : ∀ r, R r → 20001 ≤ r ∧ r ≤ 20009 ∨ 20044 ≤ r) (hA : RLog g1 ad 0 l A1) (ho : LgF ad l g g1) : RJ S g1 ad (setL h l A1) kc := by
  obtain ⟨h1, ⟨⟨a1, a2⟩, b1, c1, d1, e1⟩, h3⟩ := hR
  have e : ∀ r, 20010 ≤ r → r ≤ 20043 → g1.1 (ad r) = g.1 (ad r) ∧ g1.2.1 (ad r) = g.2.1 (ad r) := fun r r1 r2 => ⟨hf.I (fun q => by have := n r q; omega) (by omega), hf.L (fun q => by have := n r q; omega) (by omega)⟩
  have e0 : ∀ k, k ≠ 49 → k ≠ 57 → k ≠ 62 → k ≠ 63 → g1.1 (ad 20000) k = g.1 (ad 20000) k := hf.2
  refine ⟨h1.fr hf.1.1, ⟨⟨(e0 1 (by omega) (by omega) (by omega) (by omega)).trans a1, fun i hi => ?_⟩, ?_, ?_, ?_, ?_⟩, h3.eq (fun r r1 r2 => e r (by omega) (by omega)) (fun k hk => e0 k (by omega) (by omega) (by omega) (by omega))⟩
  · show RLog g1 ad 0 i (va_up h.1.2 l A1 i)
    by_cases c : i = l
    · subst c; rw [va_same]; exact hA
    · rw [va_ne _ _ c]
      have := hw i hi
      exact (a2 i hi).oth this.1 this.2.1 c ho
  · show RSs g1 ad 0 h.2.1
    unfold RSs RSl RSt
    rw [(e 20010 (by omega) (by omega)).1, (e 20011 (by omega) (by omega)).1, (e 20012 (by omega) (by omega)).2, (e 20013 (by omega) (by omega)).1]
    exact b1
  · show RRd g1 ad 0 h.2.2.1.1 h.2.2.1.2
    unfold RRd RHd
    rw [(e 20014 (by omega) (by omega)).1, (e 20015 (by omega) (by omega)).1]
    exact c1
  · show RBl g1 ad 0 _ _ _
    unfold RBl RHd
    rw [(e 20016 (by omega) (by omega)).1, e0 (16 + 0) (by omega) (by omega) (by omega) (by omega)]
    exact d1
  · show RWt g1 ad 0 _
    unfold RWt
    rw [(e 20018 (by omega) (by omega)).1, (e 20019 (by omega) (by omega)).1, (e 20020 (by omega) (by omega)).1, (e 20021 (by omega) (by omega)).1]
    exact e1
theorem CJ.wf {B : Nat} {S : Hs} {g : Hg} {ad : Nat → Nat} {m : Nat × Nat} {h : AHo} {kc : AKp} (hJ : CJ B S g ad m h kc) : ∀ i, i < h.1.1 → LogWf (h.1.2 i) := fun i hi => (hJ.clo hi).2.2
theorem wt_add {S : Hs} {g : Hg} {ad : Nat → Nat} {A A1 : ALog} {key : Int32} {v : Int64} (hA : AddL A key v A1) (hW : LogWf A) (hW1 : LogWf A1) : ∀ b W, W.1 = true → WtWf A W → WtO S g ad b A W → WtO S g ad b A1 W := by
  intro b W hw hF hO
  refine ⟨hO.1, hO.2.1, fun _ => ?_⟩
  obtain ⟨h1, h2⟩ := hO.2.2 hw
  refine ⟨h1, fun q hq => ?_⟩
  rw [h2 q hq]
  have hks := hA.2.2.2.2.2.2.2.2.2.2.1
  have hK := hA.2.2.2.2.2.2.2.2.2.2.2
  by_cases c : q < lks A
  · rw [if_pos c, if_pos (by omega), hK q c]
  · rw [if_neg c]
    by_cases d : q < lks A1
    · rw [if_pos d]
      apply Classical.byContradiction
      intro hne
      obtain ⟨i, i1, i2⟩ := hF.2.2.2.2 (lK A1 q) (fun e => hne e.symm)
      have hp := hF.1
      have hn := hW.2.2.2.2.1.2.1 i (by omega)
      have h3 : lK A1 (lnu A i) = lK A1 q := by rw [hK _ hn.1, hn.2, i2]
      exact hW1.2.2.2.2.1.1.2.1 (lnu A i) q (by omega) d h3
    · rw [if_neg d]
theorem t_add {B N : Nat} (hN : 40000 ≤ N) {S : Hs} {g : Hg} {ad : Nat → Nat} {m : Nat × Nat} {h : AHo} {kc : AKp} (hJ : Jn B S g ad m h kc) (x1 x2 : Int32) (y3 : Int64) : StN B S g ad m kc (fun g => f_X11_add N S g (ad 0) x1 x2 y3) (fun g => f_X12_add N S g (ad 20000) x1 x2 y3) := by
  obtain ⟨hC, hR, hW, hK⟩ := id hJ
  have h6 := hW.1
  have hI := hC.inj
  have nl := hR.nl
  have bad : x1 < 0 ∨ nI h.1.1 ≤ x1 → StN B S g ad m kc (fun g => f_X11_add N S g (ad 0) x1 x2 y3) (fun g => f_X12_add N S g (ad 20000) x1 x2 y3) := fun hx => by
    refine StN.same hJ (r := NEG) ?_ ?_
    · show b_X11_add_0 N S g _ _ _ _ = _
      unfold b_X11_add_0
      rw [hC.p3, nn_S, hC.logF hx, c2_S, on_N]
      rfl
    · show b_X12_add_0 N S g _ _ _ _ = _
      unfold b_X12_add_0
      rw [m_isLogF nl hx, c2_S, if_pos z00]
      rfl
  rcases pk_ix x1 (show h.1.1 < 2 ^ 31 by omega) with c | c | ⟨l, hl, rfl⟩
  · exact bad (Or.inl c)
  · exact bad (Or.inr c)
  · have hA := hC.clo hl
    have hL := hR.lg hl
    have hsz := hA.2.2.1
    have h7 := hA.2.1.1.2
    have hlog := m_isLogT (N := N) (S := S) nl h6 hl
    have hmany := m_many (N := N) (show l < 6 by omega) hR.1 hL
    by_cases cf : lsz (h.1.2 l) = 400
    · rw [cf] at h7 hmany
      refine StN.same hJ (r := NEG) ?_ ?_
      · show b_X11_add_0 N S g _ _ _ _ = _
        unfold b_X11_add_0
        rw [hC.p3, nn_S, hC.logAt hl, c2_S, on_S, rdI_def, h7, if_neg (by decide)]
        rfl
      · show b_X12_add_0 N S g _ _ _ _ = _
        unfold b_X12_add_0
        rw [hlog, c2_S, if_neg z10, hmany, c2_S, if_pos (show nI 400 = (400 : Int32) from rfl)]
        rfl
    · have hlt : lsz (h.1.2 l) < 400 := by omega
      obtain ⟨g1, A1, a1, a2, a3, a4⟩ := c_append (N := N) hN hI (b := 200 + 20 * l) x2 y3 (by omega) hlt hC.sc hA
      have hC1 := hC.log hW hl a2 (fun r hr => by omega) a3 (wt_add a4 hA.2.2 a3.2.2)
      obtain ⟨z1, z2, z3, z4, z5, z6, z7, z8, z9, _⟩ := id a4
      have hW1 : HoW (setL h l A1) := hW.log (by omega) (fun i hi => by rw [z3, upd_ne _ _ (by omega)])
      have hR1 := hR.fr a2 (fun r hr => by omega)
      have hL1 := hR1.lg hl
      have p0 : rdR _ (ad 20000) 0 = some (ad 20001) := hR1.1.p 0 (by decide)
      have l0 : hpL _ (ad 20001) = 24 := hR1.1.l 0 (by decide) rfl
      have p2 : rdR _ (ad 20000) 2 = some (ad 20003) := hR1.1.p 2 (by decide)
      have l2 : hpL _ (ad 20003) = 2400 := hR1.1.l 2 (by decide) rfl
      have p3 : rdR _ (ad 20000) 3 = some (ad 20004) := hR1.1.p 3 (by decide)
      have l3 : hpL _ (ad 20004) = 2400 := hR1.1.l 3 (by decide) rfl
      have p4 : rdR _ (ad 20000) 4 = some (ad 20005) := hR1.1.p 4 (by decide)
      have l4 : hpL _ (ad 20005) = 2400 := hR1.1.l 4 (by decide) rfl
      have p5 : rdR _ (ad 20000) 5 = some (ad 20006) := hR1.1.p 5 (by decide)
      have l5 : hpL _ (ad 20006) = 2400 := hR1.1.l 5 (by decide) rfl
      generalize hsn : lsz (h.1.2 l) = sz at *
      let g2 : Hg := rowI (rowI (rowI (rowL (rowI g1 (ad 20003) (upd (g1.1 (ad 20003)) (400 * l + sz) x2)) (ad 20004) (fun j => if j = 400 * l + sz then y3 else g1.2.1 (ad 20004) j)) (ad 20005) (upd (g1.1 (ad 20005)) (400 * l + sz) (nI 0))) (ad 20006) (upd (g1.1 (ad 20006)) (400 * l + sz) (nI 0))) (ad 20001) (upd (g1.1 (ad 20001)) (4 * l + 1) (nI (sz + 1)))
      have f2 : Fr ad (fun r => 20001 ≤ r ∧ r ≤ 20006) g1 g2 := Fr.rt hI (fr_rlt hI (Fr.rt hI (Fr.rt hI (Fr.row hI (by omega)) (by omega)) (by omega)) (by omega)) (by omega)
      have q1 : g2.1 (ad 20001) = upd (g1.1 (ad 20001)) (4 * l + 1) (nI (sz + 1)) := by simp (disch := (first | assumption | omega | (apply Inj.ne <;> first | assumption | omega) | fail)) only [nn_S, nm_D, ck_T, c2_S, on_N, on_S, lit, mNEG, nI_add, pk_mul, inb_nI, nI_clamp, wrI_row, wrL_row, rdR_rowI, rdR_rowL, rdI_def, rdL_def, rowI_same, rowI_ne, rowI_rowI, rowL_same, rowL_ne, rowL_1, rowI_21, upd_same, upd_ne, nI_le_T, nI_le_F, nI_lt_T, nI_lt_F, nI_eq_F, nI_NEG, NEG_lt0, nI_p, eq_self, if_true, if_false, g2]
      have q3 : g2.1 (ad 20003) = upd (g1.1 (ad 20003)) (400 * l + sz) x2 := by simp (disch := (first | assumption | omega | (apply Inj.ne <;> first | assumption | omega) | fail)) only [nn_S, nm_D, ck_T, c2_S, on_N, on_S, lit, mNEG, nI_add, pk_mul, inb_nI, nI_clamp, wrI_row, wrL_row, rdR_rowI, rdR_rowL, rdI_def, rdL_def, rowI_same, rowI_ne, rowI_rowI, rowL_same, rowL_ne, rowL_1, rowI_21, upd_same, upd_ne, nI_le_T, nI_le_F, nI_lt_T, nI_lt_F, nI_eq_F, nI_NEG, NEG_lt0, nI_p, eq_self, if_true, if_false, g2]
      have q4 : g2.2.1 (ad 20004) = fun j => if j = 400 * l + sz then y3 else g1.2.1 (ad 20004) j := by simp (disch := (first | assumption | omega | (apply Inj.ne <;> first | assumption | omega) | fail)) only [nn_S, nm_D, ck_T, c2_S, on_N, on_S, lit, mNEG, nI_add, pk_mul, inb_nI, nI_clamp, wrI_row, wrL_row, rdR_rowI, rdR_rowL, rdI_def, rdL_def, rowI_same, rowI_ne, rowI_rowI, rowL_same, rowL_ne, rowL_1, rowI_21, upd_same, upd_ne, nI_le_T, nI_le_F, nI_lt_T, nI_lt_F, nI_eq_F, nI_NEG, NEG_lt0, nI_p, eq_self, if_true, if_false, g2]
      have q5 : g2.1 (ad 20005) = upd (g1.1 (ad 20005)) (400 * l + sz) (nI 0) := by simp (disch := (first | assumption | omega | (apply Inj.ne <;> first | assumption | omega) | fail)) only [nn_S, nm_D, ck_T, c2_S, on_N, on_S, lit, mNEG, nI_add, pk_mul, inb_nI, nI_clamp, wrI_row, wrL_row, rdR_rowI, rdR_rowL, rdI_def, rdL_def, rowI_same, rowI_ne, rowI_rowI, rowL_same, rowL_ne, rowL_1, rowI_21, upd_same, upd_ne, nI_le_T, nI_le_F, nI_lt_T, nI_lt_F, nI_eq_F, nI_NEG, NEG_lt0, nI_p, eq_self, if_true, if_false, g2]
      have q6 : g2.1 (ad 20006) = upd (g1.1 (ad 20006)) (400 * l + sz) (nI 0) := by simp (disch := (first | assumption | omega | (apply Inj.ne <;> first | assumption | omega) | fail)) only [nn_S, nm_D, ck_T, c2_S, on_N, on_S, lit, mNEG, nI_add, pk_mul, inb_nI, nI_clamp, wrI_row, wrL_row, rdR_rowI, rdR_rowL, rdI_def, rdL_def, rowI_same, rowI_ne, rowI_rowI, rowL_same, rowL_ne, rowL_1, rowI_21, upd_same, upd_ne, nI_le_T, nI_le_F, nI_lt_T, nI_lt_F, nI_eq_F, nI_NEG, NEG_lt0, nI_p, eq_self, if_true, if_false, g2]
      have hL2 : RLog g2 ad 0 l A1 := by
        obtain ⟨⟨y1, y2, y3', y4⟩, y5, y6⟩ := hL1
        rw [hsn] at y5
        have hh : ∀ b k, hidC A1 b k = hidC (h.1.2 l) b k := by
          intro b k
          induction k with
          | zero => rfl
          | succ k ih => unfold hidC; rw [ih, z9]
        refine ⟨⟨?_, ?_, ?_, ?_⟩, fun i hi => ?_, fun k hk => ?_⟩
        · rw [q1, upd_ne _ _ (by omega), z1]; exact y1
        · rw [q1, upd_same, z2]
        · rw [q1, upd_ne _ _ (by omega), z6, hh]; exact y3'
        · rw [q1, upd_ne _ _ (by omega), z6, hh]; exact y4
        · rw [z2] at hi
          rw [q3, q4, q5, q6, z3, z4, z5]
          by_cases ci : i = sz
          · subst ci
            rw [upd_same, upd_same, upd_same, upd_same, va_same]
            exact ⟨rfl, by simp, rfl, rfl⟩
          · rw [upd_ne _ _ (by omega), upd_ne _ _ (by omega), upd_ne _ _ (by omega), upd_ne _ _ (by omega), va_ne _ _ ci]
            obtain ⟨v1, v2, v3, v4⟩ := y5 i (by omega)
            refine ⟨v1, ?_, v3, v4⟩
            show (if 400 * l + i = 400 * l + sz then y3 else g1.2.1 (ad 20004) (400 * l + i)) = (if i = sz then y3 else lvl (h.1.2 l) i)
            rw [if_neg (by omega), if_neg ci]
            exact v2
        · rw [z6] at hk
          rw [f2.I (by omega), f2.I (by omega), f2.I (by omega), z7, z8, z9]
          exact y6 k hk
      have hF : LgF ad l g1 g2 := by
        refine ⟨fun j hj => ?_, fun r r1 r2 j hj => ?_, fun j hj => ?_, fun r r1 r2 j hj => ?_⟩
        · rw [q1, upd_ne _ _ (by omega)]
        · have : r = 20003 ∨ r = 20004 ∨ r = 20005 ∨ r = 20006 := by omega
          rcases this with rfl | rfl | rfl | rfl
          · rw [q3, upd_ne _ _ (by omega)]
          · simp (disch := (first | assumption | omega | (apply Inj.ne <;> first | assumption | omega) | fail)) only [nn_S, nm_D, ck_T, c2_S, on_N, on_S, lit, mNEG, nI_add, pk_mul, inb_nI, nI_clamp, wrI_row, wrL_row, rdR_rowI, rdR_rowL, rdI_def, rdL_def, rowI_same, rowI_ne, rowI_rowI, rowL_same, rowL_ne, rowL_1, rowI_21, upd_same, upd_ne, nI_le_T, nI_le_F, nI_lt_T, nI_lt_F, nI_eq_F, nI_NEG, NEG_lt0, nI_p, eq_self, if_true, if_false, g2]
          · rw [q5, upd_ne _ _ (by omega)]
          · rw [q6, upd_ne _ _ (by omega)]
        · rw [q4]
          show (if j = 400 * l + sz then y3 else g1.2.1 (ad 20004) j) = _
          rw [if_neg (by omega)]
        · rw [f2.I (by omega)]
      have hR2 := hR1.log (fun i hi => hC.wf i hi) (FM.fr f2 (by omega)) (fun r hr => by omega) hL2 hF
      refine ⟨nI (sz + 1), g1, g2, setL h l A1, ?_, ?_, hC1.fr f2 (fun r hr => by omega), hR2, hW1, hK⟩
      · have e7 : g1.1 (ad (200 + 20 * l)) 7 = nI (sz + 1) := by rw [a3.2.1.1.2, z2]
        show b_X11_add_0 N S g _ _ _ _ = _
        unfold b_X11_add_0
        rw [hC.p3, nn_S, hC.logAt hl, c2_S, on_S, rdI_def, h7, if_pos (show nI sz < (400 : Int32) from nI_lt (b := 400) hlt (by decide)), hC.sc.2.2.2.2.1, nn_S, a1, c2_S, rdI_def, e7]
      · have hlog1 := m_isLogT (N := N) (S := S) hR1.nl h6 hl
        have hmany1 := m_many (N := N) (show l < 6 by omega) hR1.1 hL1
        rw [hsn] at hmany1
        have hmany2 := m_many (N := N) (show l < 6 by omega) hR2.1 hL2
        rw [z2] at hmany2
        have v1 : g1.1 (ad 20001) (4 * l + 1) = nI sz := by have := hL1.1.2.1; rw [hsn] at this; exact this
        show b_X12_add_0 N S g1 _ _ _ _ = _
        unfold b_X12_add_0
        rw [hlog1, c2_S, if_neg (by decide), hmany1, c2_S, if_neg (show ¬ nI sz = (400 : Int32) from fun e => cf ((nI_eq (by omega) (by decide)).mp e)), hmany1, c2_S]
        simp (disch := (first | assumption | omega | (apply Inj.ne <;> first | assumption | omega) | fail)) only [nn_S, nm_D, ck_T, c2_S, on_N, on_S, lit, mNEG, nI_add, pk_mul, inb_nI, nI_clamp, wrI_row, wrL_row, rdR_rowI, rdR_rowL, rdI_def, rdL_def, rowI_same, rowI_ne, rowI_rowI, rowL_same, rowL_ne, rowL_1, rowI_21, upd_same, upd_ne, nI_le_T, nI_le_F, nI_lt_T, nI_lt_F, nI_eq_F, nI_NEG, NEG_lt0, nI_p, eq_self, if_true, if_false, p0, l0, p2, l2, p3, l3, p4, l4, p5, l5, v1]
        rw [show rowI (rowI (rowI (rowL (rowI g1 (ad 20003) (upd (g1.1 (ad 20003)) (400 * l + sz) x2)) (ad 20004) (fun j => if j = 400 * l + sz then y3 else g1.2.1 (ad 20004) j)) (ad 20005) (upd (g1.1 (ad 20005)) (400 * l + sz) (nI 0))) (ad 20006) (upd (g1.1 (ad 20006)) (400 * l + sz) (nI 0))) (ad 20001) (upd (g1.1 (ad 20001)) (4 * l + 1) (nI (sz + 1))) = g2 from rfl, hmany2, c2_S]
