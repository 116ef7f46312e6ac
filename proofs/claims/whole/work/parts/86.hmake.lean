/-! a house grows -/
theorem wrR_1 (g : Hg) (a k : Nat) (v : Option Nat) : (wrR g a k v).1 = g.1 := id rfl
theorem wrR_2 (g : Hg) (a k : Nat) (v : Option Nat) : (wrR g a k v).2.1 = g.2.1 := id rfl
theorem c_nextLog39 {N : Nat} {S : Hs} {g : Hg} {ad : Nat → Nat} (hI : Inj ad) {b nl nbm : Nat} (hnl : nl < 6) (hP : HoP S g ad b) (hC : HoC g ad b nl nbm) {v : Option Nat} (hv : rdR g (ad (b + 1)) nl = v) : b_X1_nextLog_39 N S g (ad b) = some (v, S, rowI g (ad b) (upd (g.1 (ad b)) 1 (nI (nl + 1))), 0, 0) := by
  have l1 := hP.2.1
  unfold b_X1_nextLog_39
  simp (disch := (first | assumption | omega | (apply Inj.ne <;> first | assumption | omega) | fail)) only [nn_S, nm_D, ck_T, c2_S, on_N, on_S, lit, mNEG, nI_add, pk_mul, inb_nI, nI_clamp, wrI_row, wrL_row, rdR_rowI, rdR_rowL, rdI_def, rdL_def, rowI_same, rowI_ne, rowI_rowI, rowL_same, rowL_ne, rowL_1, rowI_21, upd_same, upd_ne, nI_le_T, nI_le_F, nI_lt_T, nI_lt_F, nI_eq_F, nI_NEG, NEG_lt0, nI_p, eq_self, if_true, if_false, hC.1, hP.1.1, l1, hv]
theorem c_nextLogF {N : Nat} {S : Hs} {g : Hg} {ad : Nat → Nat} {b nbm : Nat} (hC : HoC g ad b 6 nbm) : f_X1_nextLog N S g (ad b) = some (none, S, g, 0, 0) := by
  show b_X1_nextLog_0 N S g (ad b) = _
  unfold b_X1_nextLog_0
  rw [rdI_def, hC.1, if_neg (by decide)]
theorem c_nextLog {N B : Nat} {S : Hs} {g : Hg} {ad : Nat → Nat} {b ml nl nbm : Nat} {lg : Nat → ALog} (hnl : nl < 6) (hA : AdOk B ad S) (hB : hpN S + 12000 * (6 - ml) < B) (hP : HoP S g ad b) (hC : HoC g ad b nl nbm) (hL : CLs S g ad b ml nl lg) :
    ∃ ad1 S1 g1 k w ml1, f_X1_nextLog N S g (ad b) = some (some (ad1 (b + 100 + 20 * nl)), S1, g1, k, w) ∧ Mv (fun r => r = b ∨ r = b + 1 ∨ b + 100 + 20 * nl ≤ r ∧ r < b + 120 + 20 * nl) ad S g ad1 S1 g1 ∧ AdOk B ad1 S1 ∧ ad1 b = ad b ∧ HoP S1 g1 ad1 b ∧ HoC g1 ad1 b (nl + 1) nbm ∧ LgP S1 g1 ad1 (b + 100 + 20 * nl) ∧ nl < ml1 ∧ ml ≤ ml1 ∧ CLs S1 g1 ad1 b ml1 nl lg ∧ (hpN S1 = hpN S + k ∧ 4 * k + 12000 * (6 - ml1) ≤ 12000 * (6 - ml) ∧ w + 12000 * (6 - ml1) ≤ 12000 * (6 - ml)) := by
  obtain ⟨h1, h2, h3, h4, h5⟩ := id hL
  have hI := hA.1
  have e := h3 nl hnl
  have l1 := hP.2.1
  by_cases c : nl < ml
  · rw [if_pos c] at e
    have f0 : Fr ad (fun r => r = b) g (rowI g (ad b) (upd (g.1 (ad b)) 1 (nI (nl + 1)))) := Fr.row hI rfl
    refine ⟨ad, S, rowI g (ad b) (upd (g.1 (ad b)) 1 (nI (nl + 1))), 0, 0, ml, ?_, Mv.fr (f0.mono (fun r h => by omega)), hA, rfl, hP.fr rfl, ⟨?_, ?_⟩, (h4 nl c).fr rfl, c, Nat.le_refl _, hL.mv (Mv.fr f0) (fun r h => by omega), rfl, by omega, by omega⟩
    · show b_X1_nextLog_0 N S g (ad b) = _
      unfold b_X1_nextLog_0
      rw [rdI_def, hC.1, if_pos (show nI nl < (6 : Int32) from nI_lt (b := 6) hnl (by decide)), hP.1.1, nn_S, l1, inb_nI hnl (by decide), ck_T, nm_D, nI_clamp (by omega), e, on_S]
      exact c_nextLog39 hI hnl hP hC e
    · simp (disch := (first | assumption | omega | (apply Inj.ne <;> first | assumption | omega) | fail)) only [nn_S, nm_D, ck_T, c2_S, on_N, on_S, lit, mNEG, nI_add, pk_mul, inb_nI, nI_clamp, wrI_row, wrL_row, rdR_rowI, rdR_rowL, rdI_def, rdL_def, rowI_same, rowI_ne, rowI_rowI, rowL_same, rowL_ne, rowL_1, rowI_21, upd_same, upd_ne, nI_le_T, nI_le_F, nI_lt_T, nI_lt_F, nI_eq_F, nI_NEG, NEG_lt0, nI_p, eq_self, if_true, if_false]
    · simp (disch := (first | assumption | omega | (apply Inj.ne <;> first | assumption | omega) | fail)) only [nn_S, nm_D, ck_T, c2_S, on_N, on_S, lit, mNEG, nI_add, pk_mul, inb_nI, nI_clamp, wrI_row, wrL_row, rdR_rowI, rdR_rowL, rdI_def, rdL_def, rowI_same, rowI_ne, rowI_rowI, rowL_same, rowL_ne, rowL_1, rowI_21, upd_same, upd_ne, nI_le_T, nI_le_F, nI_lt_T, nI_lt_F, nI_eq_F, nI_NEG, NEG_lt0, nI_p, eq_self, if_true, if_false]; exact hC.2
  · obtain rfl : ml = nl := by omega
    rw [if_neg c] at e
    obtain ⟨ad1, S1, g1, a1, a2, a3, a4, a5⟩ := c_newLog (g := g) N (b + 100 + 20 * ml) hA (by omega)
    have hI1 := a3.1
    have e1 : ad1 (b + 1) = ad (b + 1) := a2.ad (by omega)
    have eb : ad1 b = ad b := a2.ad (by omega)
    let g2 : Hg := wrR g1 (ad1 (b + 1)) ml (some (ad1 (b + 100 + 20 * ml)))
    have m2 : Mv (fun r => r = b + 1) ad1 S1 g1 ad1 S1 g2 := wrR_mv hI1
    let g3 : Hg := rowI g2 (ad1 b) (upd (g2.1 (ad1 b)) 1 (nI (ml + 1)))
    have f3 : Fr ad1 (fun r => r = b) g2 g3 := Fr.row hI1 rfl
    have mA : Mv (fun r => r = b ∨ r = b + 1 ∨ b + 100 + 20 * ml ≤ r ∧ r < b + 120 + 20 * ml) ad S g ad1 S1 g2 := (a2.mono (fun r h => by omega)).tr (m2.mono (fun r h => by omega))
    have mB : Mv (fun r => r = b + 1 ∨ b + 100 + 20 * ml ≤ r ∧ r < b + 120 + 20 * ml) ad S g ad1 S1 g2 := (a2.mono (fun r h => by omega)).tr (m2.mono (fun r h => by omega))
    have hP1 : HoP S1 g1 ad1 b := hP.mv a2 (fun r r1 r2 => by omega)
    have hP2 : HoP S1 g2 ad1 b := by
      obtain ⟨⟨p0, p2, p3, p4, p5, p6, p8⟩, hl⟩ := hP1
      have en : ∀ k, rdR g2 (ad1 b) k = rdR g1 (ad1 b) k := fun k => by
        show rdR (wrR g1 _ _ _) _ _ = _
        rw [wrR_rd, if_neg (fun h => hI1.ne (show b ≠ b + 1 by omega) h.1)]
      exact ⟨⟨by rw [en]; exact p0, by rw [en]; exact p2, by rw [en]; exact p3, by rw [en]; exact p4, by rw [en]; exact p5, by rw [en]; exact p6, by rw [en]; exact p8⟩, hl⟩
    have hC2 : HoC g2 ad1 b ml nbm := hC.mv mB (by omega)
    have e2 : rdR g2 (ad1 (b + 1)) ml = some (ad1 (b + 100 + 20 * ml)) := by
      show rdR (wrR g1 _ _ _) _ _ = _
      rw [wrR_rd, if_pos ⟨rfl, rfl⟩]
    refine ⟨ad1, S1, g3, 14 + 0, 11902 + 0, ml + 1, ?_, mA.tr (Mv.fr (f3.mono (fun r h => by omega))), a3, eb, hP2.fr rfl, ⟨?_, ?_⟩, ?_, by omega, by omega, ⟨by omega, by omega, fun i hi => ?_, fun i hi => ?_, fun i hi => ?_⟩, ⟨by omega, by omega, by omega⟩⟩
    · have key := c_nextLog39 (N := N) hI1 hnl hP2 hC2 e2
      have l11 : hpL S1 (ad1 (b + 1)) = 6 := hP1.2.1
      rw [e1] at l11
      show b_X1_nextLog_0 N S g (ad b) = _
      unfold b_X1_nextLog_0
      rw [rdI_def, hC.1, if_pos (show nI ml < (6 : Int32) from nI_lt (b := 6) hnl (by decide)), hP.1.1, nn_S, l1, inb_nI hnl (by decide), ck_T, nm_D, nI_clamp (by omega), e, on_N, nn_S, a1, l11, inb_nI hnl (by decide), ck_T, nm_D]
      rw [← e1, ← eb, show wrR g1 (ad1 (b + 1)) ml (some (ad1 (b + 100 + 20 * ml))) = g2 from rfl, key, tk_S]
    · show (rowI g2 _ _).1 _ _ = _
      rw [rowI_same, upd_same]
    · show (rowI g2 _ _).1 _ _ = _
      rw [rowI_same, upd_ne _ _ (by decide)]; exact hC2.2
    · exact (a5.mv m2 (fun r r1 r2 => by omega)).fr f3.1
    · show rdR g2 (ad1 (b + 1)) i = _
      by_cases ci : i = ml
      · rw [ci, e2, if_pos (by omega)]
      · show rdR (wrR g1 _ _ _) _ _ = _
        rw [wrR_rd, if_neg (fun h => ci h.2), a2.R (r := b + 1) (by omega), h3 i hi]
        by_cases ci2 : i < ml
        · rw [if_pos ci2, if_pos (by omega), a2.ad (by omega)]
        · rw [if_neg ci2, if_neg (by omega)]
    · by_cases ci : i = ml
      · rw [ci]; exact (a5.mv m2 (fun r r1 r2 => by omega)).fr f3.1
      · exact ((h4 i (by omega)).mv mB (fun r r1 r2 => by omega)).fr f3.1
    · exact ((h5 i (by omega)).mv mB (fun r r1 r2 => by omega)).fr f3 (fun r r1 r2 => by omega)
/-- BLAME is told: two HEADS are copied -/
theorem c_blame74 {N : Nat} {S : Hs} {g : Hg} {ad : Nat → Nat} (hI : Inj ad) {b p q nl nbm mb : Nat} {h1 h2 : Nat → AHd} {H1 H2 : AHd} (hn : nbm < mb) (hp : p + 4 ≤ b ∨ b + 400 ≤ p ∧ p + 4 ≤ b + 500 ∨ b + 1200 ≤ p) (hq : q + 4 ≤ b ∨ b + 400 ≤ q ∧ q + 4 ≤ b + 500 ∨ b + 1200 ≤ q) (hP : HoP S g ad b) (hC : HoC g ad b nl nbm) (hL : CBl S g ad b mb nbm h1 h2) (hH1 : HdO S g ad p H1) (hH2 : HdO S g ad q H2) :
    ∃ g1, b_X1_tellBlame_74 N S g (ad b) (ad p) (ad q) = some ((), S, g1, 0, 0) ∧ Fr ad (fun r => r = b ∨ b + 600 + 4 * nbm ≤ r ∧ r < b + 604 + 4 * nbm ∨ b + 900 + 4 * nbm ≤ r ∧ r < b + 904 + 4 * nbm) g g1 ∧ HoC g1 ad b nl (nbm + 1) ∧ CBl S g1 ad b mb (nbm + 1) (va_up h1 nbm H1) (va_up h2 nbm H2) := by
  obtain ⟨q1, q2, q3, q4, q5⟩ := hL
  obtain ⟨w1, w2⟩ := q4 nbm hn
  obtain ⟨y1, y2⟩ := q3 nbm (by omega)
  rw [if_pos hn] at y1 y2
  have l5 := hP.2.2.2.2.2.1
  have l6 := hP.2.2.2.2.2.2.1
  have c7 := hC.2
  obtain ⟨g1, a1, a2, a3⟩ := c_headCopy (N := N) hI (b := b + 600 + 4 * nbm) (c := p) (by omega) w1 hH1
  have hP1 := hP.fr a2.1
  have c71 : g1.1 (ad b) 7 = nI nbm := by rw [a2.I (by omega)]; exact c7
  have y21 : rdR g1 (ad (b + 6)) nbm = some (ad (b + 900 + 4 * nbm)) := by rw [a2.P]; exact y2
  obtain ⟨g2, b1, b2, b3⟩ := c_headCopy (N := N) hI (b := b + 900 + 4 * nbm) (c := q) (by omega) (w2.fr a2.1) (hH2.fr a2 (fun r r1 r2 => by omega))
  have c72 : g2.1 (ad b) 7 = nI nbm := by rw [b2.I (by omega)]; exact c71
  have f3 : Fr ad (fun r => r = b) g2 (rowI g2 (ad b) (upd (g2.1 (ad b)) 7 (nI (nbm + 1)))) := Fr.row hI rfl
  have fa : Fr ad (fun r => r = b ∨ b + 600 + 4 * nbm ≤ r ∧ r < b + 604 + 4 * nbm ∨ b + 900 + 4 * nbm ≤ r ∧ r < b + 904 + 4 * nbm) g (rowI g2 (ad b) (upd (g2.1 (ad b)) 7 (nI (nbm + 1)))) := ((a2.mono (fun r h => by omega)).tr (b2.mono (fun r h => by omega))).tr (f3.mono (fun r h => by omega))
  refine ⟨rowI g2 (ad b) (upd (g2.1 (ad b)) 7 (nI (nbm + 1))), ?_, fa, ⟨?_, by rw [rowI_same, upd_same]⟩, by omega, q2, fun k hk => ?_, fun k hk => ?_, fun k hk => ?_⟩
  · unfold b_X1_tellBlame_74
    simp (disch := (first | assumption | omega | (apply Inj.ne <;> first | assumption | omega) | fail)) only [nn_S, nm_D, ck_T, c2_S, on_N, on_S, lit, mNEG, nI_add, pk_mul, inb_nI, nI_clamp, wrI_row, wrL_row, rdR_rowI, rdR_rowL, rdI_def, rdL_def, rowI_same, rowI_ne, rowI_rowI, rowL_same, rowL_ne, rowL_1, rowI_21, upd_same, upd_ne, nI_le_T, nI_le_F, nI_lt_T, nI_lt_F, nI_eq_F, nI_NEG, NEG_lt0, nI_p, eq_self, if_true, if_false, hP.1.2.2.2.2.1, hP1.1.2.2.2.2.2.1, l5, l6, c7, c71, y1, a1, y21, b1, c72]
  · rw [rowI_same, upd_ne _ _ (by decide), b2.I (by omega), a2.I (by omega)]; exact hC.1
  · rw [fa.P, fa.P]; exact q3 k hk
  · exact ⟨(q4 k hk).1.fr fa.1, (q4 k hk).2.fr fa.1⟩
  · by_cases c : k = nbm
    · subst c
      rw [va_same, va_same]
      exact ⟨(a3.fr b2 (fun r r1 r2 => by omega)).fr f3 (fun r r1 r2 => by omega), b3.fr f3 (fun r r1 r2 => by omega)⟩
    · rw [va_ne _ _ c, va_ne _ _ c]
      obtain ⟨z1, z2⟩ := q5 k (by omega)
      exact ⟨z1.fr fa (fun r r1 r2 => by omega), z2.fr fa (fun r r1 r2 => by omega)⟩
theorem c_tellBlameF {N : Nat} {S : Hs} {g : Hg} {ad : Nat → Nat} {b nl : Nat} {o1 o2 : Option Nat} (hC : HoC g ad b nl 60) : f_X1_tellBlame N S g (ad b) o1 o2 = some ((), S, g, 0, 0) := by
  have c7 := hC.2
  show b_X1_tellBlame_0 N S g (ad b) o1 o2 = _
  unfold b_X1_tellBlame_0
  simp (disch := (first | assumption | omega | (apply Inj.ne <;> first | assumption | omega) | fail)) only [nn_S, nm_D, ck_T, c2_S, on_N, on_S, lit, mNEG, nI_add, pk_mul, inb_nI, nI_clamp, wrI_row, wrL_row, rdR_rowI, rdR_rowL, rdI_def, rdL_def, rowI_same, rowI_ne, rowI_rowI, rowL_same, rowL_ne, rowL_1, rowI_21, upd_same, upd_ne, nI_le_T, nI_le_F, nI_lt_T, nI_lt_F, nI_eq_F, nI_NEG, NEG_lt0, nI_p, eq_self, if_true, if_false, c7]
theorem c_tellBlame {N B : Nat} {S : Hs} {g : Hg} {ad : Nat → Nat} {b p q nl nbm mb : Nat} {h1 h2 : Nat → AHd} {H1 H2 : AHd} (hn : nbm < 60) (hp : p + 4 ≤ b ∨ b + 400 ≤ p ∧ p + 4 ≤ b + 500 ∨ b + 1200 ≤ p) (hq : q + 4 ≤ b ∨ b + 400 ≤ q ∧ q + 4 ≤ b + 500 ∨ b + 1200 ≤ q) (hA : AdOk B ad S) (hB : hpN S + 100 * (60 - mb) < B) (hP : HoP S g ad b) (hC : HoC g ad b nl nbm) (hL : CBl S g ad b mb nbm h1 h2) (hH1 : HdO S g ad p H1) (hH2 : HdO S g ad q H2) :
    ∃ ad1 S1 g1 k w mb1, f_X1_tellBlame N S g (ad b) (some (ad p)) (some (ad q)) = some ((), S1, g1, k, w) ∧ Mv (fun r => r = b ∨ r = b + 5 ∨ r = b + 6 ∨ b + 600 + 4 * nbm ≤ r ∧ r < b + 604 + 4 * nbm ∨ b + 900 + 4 * nbm ≤ r ∧ r < b + 904 + 4 * nbm) ad S g ad1 S1 g1 ∧ AdOk B ad1 S1 ∧ ad1 b = ad b ∧ HoP S1 g1 ad1 b ∧ HoC g1 ad1 b nl (nbm + 1) ∧ mb ≤ mb1 ∧ CBl S1 g1 ad1 b mb1 (nbm + 1) (va_up h1 nbm H1) (va_up h2 nbm H2) ∧ (hpN S1 = hpN S + k ∧ 4 * k + 100 * (60 - mb1) ≤ 100 * (60 - mb) ∧ w + 100 * (60 - mb1) ≤ 100 * (60 - mb)) := by
  have hI := hA.1
  obtain ⟨q1, q2, q3, q4, q5⟩ := id hL
  have l5 := hP.2.2.2.2.2.1
  have l6 := hP.2.2.2.2.2.2.1
  have c7 := hC.2
  obtain ⟨y1, y2⟩ := q3 nbm hn
  by_cases c : nbm < mb
  · rw [if_pos c] at y1 y2
    obtain ⟨g1, a1, a2, a3, a4⟩ := c_blame74 (N := N) hI c hp hq hP hC hL hH1 hH2
    refine ⟨ad, S, g1, 0, 0, mb, ?_, Mv.fr (a2.mono (fun r h => by omega)), hA, rfl, hP.fr a2.1, a3, Nat.le_refl _, a4, rfl, by omega, by omega⟩
    show b_X1_tellBlame_0 N S g (ad b) _ _ = _
    unfold b_X1_tellBlame_0
    simp (disch := (first | assumption | omega | (apply Inj.ne <;> first | assumption | omega) | fail)) only [nn_S, nm_D, ck_T, c2_S, on_N, on_S, lit, mNEG, nI_add, pk_mul, inb_nI, nI_clamp, wrI_row, wrL_row, rdR_rowI, rdR_rowL, rdI_def, rdL_def, rowI_same, rowI_ne, rowI_rowI, rowL_same, rowL_ne, rowL_1, rowI_21, upd_same, upd_ne, nI_le_T, nI_le_F, nI_lt_T, nI_lt_F, nI_eq_F, nI_NEG, NEG_lt0, nI_p, eq_self, if_true, if_false, c7, hP.1.2.2.2.2.1, hP.1.2.2.2.2.2.1, l5, l6, y1, y2]
    exact a1
  · obtain rfl : mb = nbm := by omega
    rw [if_neg c] at y1 y2
    obtain ⟨ad1, S1, g1, a1, a2, a3, a4, a5, _⟩ := c_newHead (g := g) N (b + 600 + 4 * mb) hA (by omega)
    have eb : ad1 b = ad b := a2.ad (by omega)
    have e5 : ad1 (b + 5) = ad (b + 5) := a2.ad (by omega)
    let g2 : Hg := wrR g1 (ad1 (b + 5)) mb (some (ad1 (b + 600 + 4 * mb)))
    have m2 : Mv (fun r => r = b + 5) ad1 S1 g1 ad1 S1 g2 := wrR_mv a3.1
    obtain ⟨ad3, S3, g3, b1, b2, b3, b4, b5, _⟩ := c_newHead (g := g2) N (b + 900 + 4 * mb) a3 (by omega)
    have eb3 : ad3 b = ad b := (b2.ad (by omega)).trans eb
    have e6 : ad3 (b + 6) = ad (b + 6) := (b2.ad (by omega)).trans (a2.ad (by omega))
    let g4 : Hg := wrR g3 (ad3 (b + 6)) mb (some (ad3 (b + 900 + 4 * mb)))
    have m4 : Mv (fun r => r = b + 6) ad3 S3 g3 ad3 S3 g4 := wrR_mv b3.1
    have mA : Mv (fun r => r = b + 5 ∨ r = b + 6 ∨ b + 600 + 4 * mb ≤ r ∧ r < b + 604 + 4 * mb ∨ b + 900 + 4 * mb ≤ r ∧ r < b + 904 + 4 * mb) ad S g ad3 S3 g4 := (((a2.mono (fun r h => by omega)).tr (m2.mono (fun r h => by omega))).tr (b2.mono (fun r h => by omega))).tr (m4.mono (fun r h => by omega))
    have hI3 := b3.1
    have hP4 : HoP S3 g4 ad3 b := by
      obtain ⟨⟨p0, p2, p3, p4, p5, p6, p8⟩, l1, l2, l3, l4, l5, l6, l7⟩ := id hP
      have n0 : ¬ (b = b + 5 ∨ b = b + 6 ∨ b + 600 + 4 * mb ≤ b ∧ b < b + 604 + 4 * mb ∨ b + 900 + 4 * mb ≤ b ∧ b < b + 904 + 4 * mb) := by omega
      have er : ∀ k, rdR g4 (ad3 b) k = rdR g (ad b) k := fun k => mA.R n0 k
      have ea : ∀ r, b + 1 ≤ r → r < b + 8 → ad3 r = ad r := fun r r1 r2 => by
        rw [b2.ad (by omega), a2.ad (by omega)]
      have el : ∀ r, b + 1 ≤ r → r < b + 8 → hpL S3 (ad3 r) = hpL S (ad r) := fun r r1 r2 => by
        rw [b2.len (by omega), a2.len (by omega)]
      refine ⟨⟨?_, ?_, ?_, ?_, ?_, ?_, ?_⟩, ?_, ?_, ?_, ?_, ?_, ?_, ?_⟩
      · rw [er, ea _ (by omega) (by omega)]; exact p0
      · rw [er, ea _ (by omega) (by omega)]; exact p2
      · rw [er, ea _ (by omega) (by omega)]; exact p3
      · rw [er, ea _ (by omega) (by omega)]; exact p4
      · rw [er, ea _ (by omega) (by omega)]; exact p5
      · rw [er, ea _ (by omega) (by omega)]; exact p6
      · rw [er, ea _ (by omega) (by omega)]; exact p8
      · rw [el _ (by omega) (by omega)]; exact l1
      · rw [el _ (by omega) (by omega)]; exact l2
      · rw [el _ (by omega) (by omega)]; exact l3
      · rw [el _ (by omega) (by omega)]; exact l4
      · rw [el _ (by omega) (by omega)]; exact l5
      · rw [el _ (by omega) (by omega)]; exact l6
      · rw [el _ (by omega) (by omega)]; exact l7
    have hC4 : HoC g4 ad3 b nl mb := hC.mv mA (by omega)
    have z5 : rdR g4 (ad3 (b + 5)) mb = some (ad3 (b + 600 + 4 * mb)) := by
      rw [m4.R (r := b + 5) (by omega), b2.R (r := b + 5) (by omega), b2.ad (r := b + 600 + 4 * mb) (by omega)]
      show rdR (wrR g1 _ _ _) _ _ = _
      rw [wrR_rd, if_pos ⟨rfl, rfl⟩]
    have z6 : rdR g4 (ad3 (b + 6)) mb = some (ad3 (b + 900 + 4 * mb)) := by
      show rdR (wrR g3 _ _ _) _ _ = _
      rw [wrR_rd, if_pos ⟨rfl, rfl⟩]
    have hL4 : CBl S3 g4 ad3 b (mb + 1) mb h1 h2 := by
      refine ⟨by omega, by omega, fun k hk => ⟨?_, ?_⟩, fun k hk => ?_, fun k hk => ?_⟩
      · by_cases ck : k = mb
        · rw [ck, z5, if_pos (by omega)]
        · rw [m4.R (r := b + 5) (by omega), b2.R (r := b + 5) (by omega)]
          show rdR (wrR g1 _ _ _) _ _ = _
          rw [wrR_rd, if_neg (fun h => ck h.2), a2.R (r := b + 5) (by omega), (q3 k hk).1]
          by_cases c2' : k < mb
          · rw [if_pos c2', if_pos (by omega), b2.ad (by omega), a2.ad (by omega)]
          · rw [if_neg c2', if_neg (by omega)]
      · by_cases ck : k = mb
        · rw [ck, z6, if_pos (by omega)]
        · show rdR (wrR g3 _ _ _) _ _ = _
          rw [wrR_rd, if_neg (fun h => ck h.2), b2.R (r := b + 6) (by omega), m2.R (r := b + 6) (by omega), a2.R (r := b + 6) (by omega), (q3 k hk).2]
          by_cases c2' : k < mb
          · rw [if_pos c2', if_pos (by omega), b2.ad (by omega), a2.ad (by omega)]
          · rw [if_neg c2', if_neg (by omega)]
      · by_cases ck : k = mb
        · rw [ck]
          exact ⟨((a5.mv m2 (fun r r1 r2 => by omega)).mv b2 (fun r r1 r2 => by omega)).mv m4 (fun r r1 r2 => by omega), b5.mv m4 (fun r r1 r2 => by omega)⟩
        · exact ⟨(q4 k (by omega)).1.mv mA (fun r r1 r2 => by omega), (q4 k (by omega)).2.mv mA (fun r r1 r2 => by omega)⟩
      · exact ⟨(q5 k hk).1.mv mA (fun r r1 r2 => by omega), (q5 k hk).2.mv mA (fun r r1 r2 => by omega)⟩
    have ep : ad3 p = ad p := by rw [b2.ad (by omega), a2.ad (by omega)]
    have eq_ : ad3 q = ad q := by rw [b2.ad (by omega), a2.ad (by omega)]
    obtain ⟨g5, d1, d2, d3, d4⟩ := c_blame74 (N := N) hI3 (show mb < mb + 1 by omega) hp hq hP4 hC4 hL4 (hH1.mv mA (fun r r1 r2 => by omega)) (hH2.mv mA (fun r r1 r2 => by omega))
    refine ⟨ad3, S3, g5, 4 + (4 + 0), 31 + (31 + 0), mb + 1, ?_, (mA.mono (fun r h => by omega)).tr (Mv.fr (d2.mono (fun r h => by omega))), b3, eb3, hP4.fr d2.1, d3, by omega, d4, ⟨by omega, by omega, by omega⟩⟩
    have c71 : g1.1 (ad b) 7 = nI mb := by
      have := a2.I (r := b) (by omega)
      rw [eb] at this
      rw [this]; exact c7
    have l51 : hpL S1 (ad (b + 5)) = 60 := by
      have := a2.len (r := b + 5) (by omega)
      rw [e5] at this
      rw [this]; exact l5
    have l63 : hpL S3 (ad (b + 6)) = 60 := by
      have h1 := b2.len (r := b + 6) (by omega)
      have h2 := a2.len (r := b + 6) (by omega)
      rw [e6, h2] at h1
      rw [h1]; exact l6
    have p6g2 : rdR g2 (ad b) 6 = some (ad (b + 6)) := by
      show rdR (wrR g1 _ _ _) _ _ = _
      rw [wrR_rd, if_neg (fun h => a3.1.ne (show b ≠ b + 5 by omega) (by rw [eb]; exact h.1))]
      have := a2.R (r := b) (by omega) 6
      rw [eb] at this
      rw [this]; exact hP.1.2.2.2.2.2.1
    have c72 : g2.1 (ad b) 7 = nI mb := c71
    rw [ep, eq_, eb3] at d1
    have hb42 : b_X1_tellBlame_42 N S g (ad b) (ad p) (ad q) = some ((), S3, g5, 4 + (4 + 0), 31 + (31 + 0)) := by
      unfold b_X1_tellBlame_42
      rw [hP.1.2.2.2.2.1, nn_S, a1]
      simp (disch := (first | assumption | omega | (apply Inj.ne <;> first | assumption | omega) | fail)) only [nn_S, nm_D, ck_T, c2_S, on_N, on_S, lit, mNEG, nI_add, pk_mul, inb_nI, nI_clamp, wrI_row, wrL_row, rdR_rowI, rdR_rowL, rdI_def, rdL_def, rowI_same, rowI_ne, rowI_rowI, rowL_same, rowL_ne, rowL_1, rowI_21, upd_same, upd_ne, nI_le_T, nI_le_F, nI_lt_T, nI_lt_F, nI_eq_F, nI_NEG, NEG_lt0, nI_p, eq_self, if_true, if_false, c7, l51]
      rw [← e5, show wrR g1 (ad1 (b + 5)) mb (some (ad1 (b + 600 + 4 * mb))) = g2 from rfl, p6g2, nn_S, b1]
      simp (disch := (first | assumption | omega | (apply Inj.ne <;> first | assumption | omega) | fail)) only [nn_S, nm_D, ck_T, c2_S, on_N, on_S, lit, mNEG, nI_add, pk_mul, inb_nI, nI_clamp, wrI_row, wrL_row, rdR_rowI, rdR_rowL, rdI_def, rdL_def, rowI_same, rowI_ne, rowI_rowI, rowL_same, rowL_ne, rowL_1, rowI_21, upd_same, upd_ne, nI_le_T, nI_le_F, nI_lt_T, nI_lt_F, nI_eq_F, nI_NEG, NEG_lt0, nI_p, eq_self, if_true, if_false, c72, l63]
      rw [← e6, show wrR g3 (ad3 (b + 6)) mb (some (ad3 (b + 900 + 4 * mb))) = g4 from rfl, d1, tk_S, tk_S]
    show b_X1_tellBlame_0 N S g (ad b) _ _ = _
    unfold b_X1_tellBlame_0
    simp (disch := (first | assumption | omega | (apply Inj.ne <;> first | assumption | omega) | fail)) only [nn_S, nm_D, ck_T, c2_S, on_N, on_S, lit, mNEG, nI_add, pk_mul, inb_nI, nI_clamp, wrI_row, wrL_row, rdR_rowI, rdR_rowL, rdI_def, rdL_def, rowI_same, rowI_ne, rowI_rowI, rowL_same, rowL_ne, rowL_1, rowI_21, upd_same, upd_ne, nI_le_T, nI_le_F, nI_lt_T, nI_lt_F, nI_eq_F, nI_NEG, NEG_lt0, nI_p, eq_self, if_true, if_false, c7, hP.1.2.2.2.2.1, l5, y1]
    exact hb42
