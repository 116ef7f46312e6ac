/-! one LOG more -/
def addH (h : AHo) (A : ALog) : AHo := ((h.1.1 + 1, va_up h.1.2 h.1.1 A), h.2)
theorem HoW.add {h : AHo} (hW : HoW h) (A : ALog) (hl : h.1.1 < 6) : HoW (addH h A) := by
  obtain ⟨w1, w2, w3, w4⟩ := hW
  refine ⟨by show h.1.1 + 1 ≤ 6; omega, w2, fun r hr ht => ?_, fun w hw ht => ?_⟩
  · obtain ⟨l, n, a1, a2, a3⟩ := w3 r hr ht
    refine ⟨l, n, by show l < h.1.1 + 1; omega, ?_, a3⟩
    show n ≤ lsz (va_up h.1.2 h.1.1 A l)
    rw [va_ne _ _ (by omega)]; exact a2
  · obtain ⟨l, a1, a2, a3⟩ := w4 w hw ht
    refine ⟨l, by show l < h.1.1 + 1; omega, a2, ?_⟩
    show WtWf (va_up h.1.2 h.1.1 A l) _
    rw [va_ne _ _ (by omega)]; exact a3
theorem CWt.oth {S : Hs} {g : Hg} {ad : Nat → Nat} {b : Nat} {h : AHo} {lg1 : Nat → ALog} (hL : CWt S g ad b h.1.2 h.2.2.2.2) (hW : HoW h) (e : ∀ l, l < h.1.1 → lg1 l = h.1.2 l) : CWt S g ad b lg1 h.2.2.2.2 := fun w hw => by
  obtain ⟨f1, f2⟩ := hL w hw
  refine ⟨f1, f2.cong (fun ht => ?_)⟩
  obtain ⟨l, l1, l2, l3⟩ := hW.2.2.2 w hw ht
  have el : wlg (h.2.2.2.2 w) = l := by
    have := hW.1
    unfold wlg
    rw [l2, nI_clamp (by omega)]
  rw [el, e l l1]
  exact ⟨rfl, rfl⟩
/-- the class, behind nextLog and the filling of the new LOG -/
theorem CJ.grow {B : Nat} {ad ad1 : Nat → Nat} {S S1 : Hs} {g g1 g2 : Hg} {m : Nat × Nat} {h : AHo} {kc : AKp} {ml1 k w : Nat} {A : ALog} (hC : CJ B S g ad m h kc) (hW : HoW h) (hl : h.1.1 < 6)
    (a2 : Mv (fun r => r = 100 ∨ r = 100 + 1 ∨ 100 + 100 + 20 * h.1.1 ≤ r ∧ r < 100 + 120 + 20 * h.1.1) ad S g ad1 S1 g1) (a3 : AdOk B ad1 S1) (a4 : ad1 100 = ad 100) (a5 : HoP S1 g1 ad1 100) (a6 : HoC g1 ad1 100 (h.1.1 + 1) h.2.2.2.1.1) (a8 : h.1.1 < ml1) (a10 : CLs S1 g1 ad1 100 ml1 h.1.1 h.1.2) (a11 : hpN S1 = hpN S + k ∧ 4 * k + 12000 * (6 - ml1) ≤ 12000 * (6 - m.1) ∧ w + 12000 * (6 - ml1) ≤ 12000 * (6 - m.1))
    (b2 : Fr ad1 (fun r => 200 + 20 * h.1.1 ≤ r ∧ r < 214 + 20 * h.1.1) g1 g2) (b3 : CLO S1 g2 ad1 (200 + 20 * h.1.1) A) :
    CJ B S1 g2 ad1 (ml1, m.2) (addH h A) kc ∧ 4 * k + phi S1 ad1 (ml1, m.2) kc ≤ phi S ad m kc ∧ w + phi S1 ad1 (ml1, m.2) kc ≤ phi S ad m kc ∧ Mv (fun r => 100 ≤ r ∧ r < 1300) ad S g ad1 S1 g2 ∧ ad1 0 = ad 0 ∧ ad1 20000 = ad 20000 := by
  obtain ⟨⟨c0, c1⟩, ⟨c2, c3, c4⟩, ⟨d1, d2, d3, d4, d5, d6, d7⟩, c6⟩ := hC
  have mA : Mv (fun r => r = 100 ∨ r = 101 ∨ 200 + 20 * h.1.1 ≤ r ∧ r < 220 + 20 * h.1.1) ad S g ad1 S1 g2 := (a2.mono (fun r h => by omega)).tr (Mv.fr (b2.mono (fun r h => by omega)))
  have mB := Mv.fr (S := S1) b2
  have hph : phi S1 ad1 (ml1, m.2) kc + 12000 * (6 - m.1) = phi S ad m kc + 12000 * (6 - ml1) := by
    unfold phi phH
    rw [phS_mv mA (fun r r1 r2 => by omega), phK_mv mA (fun r r1 r2 => by omega), show hpL S1 (ad1 23) = hpL S (ad 23) from mA.len (by omega)]
    show 12000 * (6 - ml1) + 100 * (60 - m.2) + phS S ad 100 + (4096 - 2 * hpL S (ad 23)) + phK S ad kc + 12000 * (6 - m.1) = 12000 * (6 - m.1) + 100 * (60 - m.2) + phS S ad 100 + (4096 - 2 * hpL S (ad 23)) + phK S ad kc + 12000 * (6 - ml1)
    omega
  obtain ⟨e1, e2, e3⟩ := a11
  refine ⟨⟨⟨a3, by omega⟩, ⟨?_, c3.mv mA (fun r r1 r2 => by omega), c4.mv mA (fun r r1 r2 => by omega)⟩, ⟨a5.fr b2.1, a6.fr b2 (by omega), ?_, d4.mv mA (fun r h => by omega), d5.mv mA (fun r h => by omega), d6.mv mA (fun r h => by omega), ?_⟩, c6.mv mA (fun r h => by omega)⟩, by omega, by omega, mA.mono (fun r h => by omega), mA.ad (by omega), mA.ad (by omega)⟩
  · exact c2.mv mA (fun r h => by omega) ⟨mA.ad (by omega), mA.ad (by omega), a4⟩
  · obtain ⟨z1, z2, z3, z4, z5⟩ := a10
    refine ⟨a8, z2, fun i hi => by rw [b2.P]; exact z3 i hi, fun i hi => (z4 i hi).fr b2.1, fun i hi => ?_⟩
    show CLO S1 g2 ad1 (100 + 100 + 20 * i) (va_up h.1.2 h.1.1 A i)
    have hi : i < h.1.1 + 1 := hi
    by_cases c : i = h.1.1
    · subst c; rw [va_same]; exact b3
    · rw [va_ne _ _ c]
      exact (z5 i (by omega)).fr b2 (fun r r1 r2 => by omega)
  · exact (d7.mv mA (fun r h => by omega)).oth hW (fun l hl => va_ne _ _ (by omega))
theorem RJ.lgs {S : Hs} {g g1 : Hg} {ad : Nat → Nat} {h : AHo} {kc : AKp} {R : Nat → Prop} {nl1 : Nat} {lg1 : Nat → ALog} (hR : RJ S g ad h kc) (hf : Fr ad R g g1) (n : ∀ r, R r → 20000 ≤ r ∧ r ≤ 20009 ∨ 20044 ≤ r) (e0 : ∀ k, k = 16 ∨ k = 21 ∨ k = 23 ∨ k = 38 → g1.1 (ad 20000) k = g.1 (ad 20000) k) (hL : RLs g1 ad 0 nl1 lg1) : RJ S g1 ad ((nl1, lg1), h.2) kc := by
  obtain ⟨h1, ⟨a0, b1, c1, d1, e1⟩, h3⟩ := hR
  have e : ∀ r, 20010 ≤ r → r ≤ 20043 → g1.1 (ad r) = g.1 (ad r) ∧ g1.2.1 (ad r) = g.2.1 (ad r) := fun r r1 r2 => ⟨hf.I (fun q => by have := n r q; omega), hf.L (fun q => by have := n r q; omega)⟩
  refine ⟨h1.fr hf.1, ⟨hL, ?_, ?_, ?_, ?_⟩, h3.eq (fun r r1 r2 => e r (by omega) (by omega)) (fun k hk => e0 k (by omega))⟩
  · show RSs g1 ad 0 h.2.1
    unfold RSs RSl RSt
    rw [(e 20010 (by omega) (by omega)).1, (e 20011 (by omega) (by omega)).1, (e 20012 (by omega) (by omega)).2, (e 20013 (by omega) (by omega)).1]
    exact b1
  · show RRd g1 ad 0 h.2.2.1.1 h.2.2.1.2
    unfold RRd RHd
    rw [(e 20014 (by omega) (by omega)).1, (e 20015 (by omega) (by omega)).1]
    exact c1
  · show RBl g1 ad 0 _ _ _
    unfold RBl RHd
    rw [(e 20016 (by omega) (by omega)).1, e0 (16 + 0) (by omega)]
    exact d1
  · show RWt g1 ad 0 _
    unfold RWt
    rw [(e 20018 (by omega) (by omega)).1, (e 20019 (by omega) (by omega)).1, (e 20020 (by omega) (by omega)).1, (e 20021 (by omega) (by omega)).1]
    exact e1
theorem tq_open {B N : Nat} (hN : 40000 ≤ N) {S : Hs} {g : Hg} {ad : Nat → Nat} {m : Nat × Nat} {h : AHo} {kc : AKp} (hJ : Jn B S g ad m h kc) (x1 : Int32) : StM B S g ad m kc (fun S g => f_X11_open N S g (ad 0) x1) (fun S g => f_X12_open N S g (ad 20000) x1) := by
  obtain ⟨hC, hR, hW, hK⟩ := id hJ
  have h6 := hW.1
  have hI := hC.inj
  have nl := hR.nl
  have bad : x1 < 0 ∨ nI 4 ≤ x1 → StM B S g ad m kc (fun S g => f_X11_open N S g (ad 0) x1) (fun S g => f_X12_open N S g (ad 20000) x1) := fun hx => by
    refine StM.same hJ (r := NEG) ?_ ?_
    · show b_X11_open_0 N S g _ _ = _
      unfold b_X11_open_0
      by_cases c : x1 < 0
      · rw [if_pos c]; rfl
      · rcases hx with hx | hx
        · exact absurd hx c
        · rw [if_neg c, if_neg (show ¬ x1 < (4 : Int32) from i_nlt (by decide) hx)]; rfl
    · show b_X12_open_0 N S g _ _ = _
      unfold b_X12_open_0
      by_cases c : x1 < 0
      · rw [if_pos c]; rfl
      · rcases hx with hx | hx
        · exact absurd hx c
        · rw [if_neg c, if_pos (show (3 : Int32) < x1 from (ge_gt (m := 3) (by decide) hx).1)]; rfl
  rcases pk_ix x1 (show 4 < 2 ^ 31 by decide) with c | c | ⟨kp, hkp, rfl⟩
  · exact bad (Or.inl c)
  · exact bad (Or.inr c)
  · have cx : ¬ nI kp < (0 : Int32) := nI_pos (by omega)
    have cx4 : nI kp < (4 : Int32) := nI_lt (b := 4) hkp (by decide)
    have cx3 : ¬ (3 : Int32) < nI kp := nI_nlt (a := 3) (by omega) (by decide)
    by_cases cf : h.1.1 = 6
    · rw [cf] at nl
      have hc6 := hC.2.2.1.2.1
      rw [cf] at hc6
      refine StM.same hJ (r := NEG) ?_ ?_
      · show b_X11_open_0 N S g _ _ = _
        unfold b_X11_open_0
        rw [if_neg cx, if_pos cx4, hC.p3, nn_S, c_nextLogF hc6, c5_S, on_N]
        rfl
      · show b_X12_open_0 N S g _ _ = _
        unfold b_X12_open_0
        rw [if_neg cx, if_neg cx3, rdI_def, nl, if_pos (show nI 6 = (6 : Int32) from rfl)]
        rfl
    · have hlt : h.1.1 < 6 := by omega
      have hroom := hC.1.2
      obtain ⟨ad1, S1, g1, k, w, ml1, a1, a2, a3, a4, a5, a6, a7, a8, a9, a10, a11⟩ := c_nextLog (N := N) hlt hC.1.1 (by unfold phi phH at hroom; omega) hC.2.2.1.1 hC.2.2.1.2.1 hC.2.2.1.2.2.1
      obtain ⟨g2, b1, b2, b3⟩ := c_clearLog (N := N) a3.1 (nI kp) a7
      have b2' : Fr ad1 (fun r => 200 + 20 * h.1.1 ≤ r ∧ r < 214 + 20 * h.1.1) g1 g2 := b2.mono (fun r h => by omega)
      obtain ⟨d1, d2, d3, d4, d5, d6⟩ := hC.grow hW hlt a2 a3 a4 a5 a6 a8 a10 a11 b2' b3
      have hI1 := a3.1
      have hR1 := hR.mv d4 (fun r hr => by omega)
      have nl1 := hR1.nl
      have p0 : rdR g2 (ad1 20000) 0 = some (ad1 20001) := hR1.1.p 0 (by decide)
      have l0 : hpL S1 (ad1 20001) = 24 := hR1.1.l 0 (by decide) rfl
      generalize hnl : h.1.1 = q at *
      let g3 : Hg := rowI (rowI g2 (ad1 20001) (upd (upd (upd (upd (g2.1 (ad1 20001)) (4 * q) (nI kp)) (4 * q + 1) (nI 0)) (4 * q + 2) (nI 0)) (4 * q + 3) (nI 0))) (ad1 20000) (upd (g2.1 (ad1 20000)) 1 (nI (q + 1)))
      have f3 : Fr ad1 (fun r => r = 20000 ∨ r = 20001) g2 g3 := Fr.rt hI1 (Fr.row hI1 (by omega)) (by omega)
      have e0 : g3.1 (ad1 20000) = upd (g2.1 (ad1 20000)) 1 (nI (q + 1)) := rowI_same _ _ _
      have e1 : g3.1 (ad1 20001) = upd (upd (upd (upd (g2.1 (ad1 20001)) (4 * q) (nI kp)) (4 * q + 1) (nI 0)) (4 * q + 2) (nI 0)) (4 * q + 3) (nI 0) := by
        show (rowI (rowI g2 _ _) _ _).1 _ = _
        rw [rowI_ne _ _ (hI1.ne (by decide)), rowI_same]
      have hLs : RLs g3 ad1 0 (q + 1) (va_up h.1.2 q (newL (nI kp))) := by
        refine ⟨by rw [e0, upd_same], fun l hl => ?_⟩
        by_cases cl : l = q
        · subst cl
          rw [va_same]
          refine ⟨⟨?_, ?_, ?_, ?_⟩, fun i hi => absurd hi (by show ¬ i < 0; omega), fun i hi => absurd hi (by show ¬ i < 0; omega)⟩
          · rw [e1, upd_ne _ _ (by omega), upd_ne _ _ (by omega), upd_ne _ _ (by omega), upd_same]; rfl
          · rw [e1, upd_ne _ _ (by omega), upd_ne _ _ (by omega), upd_same]; rfl
          · rw [e1, upd_ne _ _ (by omega), upd_same]; rfl
          · rw [e1, upd_same]; rfl
        · rw [va_ne _ _ cl]
          have hwf := hC.wf l (by omega)
          refine (hR1.2.1.1.2 l (by omega)).oth hwf.1 hwf.2.1 (l := q) cl ⟨fun j hj => ?_, fun r r1 r2 j hj => by rw [f3.I (by omega)], fun j hj => by rw [f3.L (by omega)], fun r r1 r2 j hj => by rw [f3.I (by omega)]⟩
          rw [e1, upd_ne _ _ (by omega), upd_ne _ _ (by omega), upd_ne _ _ (by omega), upd_ne _ _ (by omega)]
      have hR3 := hR1.lgs f3 (fun r hr => by omega) (fun k hk => by rw [e0, upd_ne _ _ (by omega)]) hLs
      have hadd : ((q + 1, va_up h.1.2 q (newL (nI kp))), h.2) = addH h (newL (nI kp)) := by
        unfold addH
        rw [hnl]
      rw [hadd] at hR3
      have c1 : g2.1 (ad1 100) 1 = nI (q + 1) := by
        rw [b2'.I (by omega)]; exact a6.1
      refine ⟨nI q, ad1, S1, g2, g3, k + 0, w + 0, addH h (newL (nI kp)), (ml1, m.2), kc, ?_, ?_, ⟨d1.fr f3 (fun r hr => by omega), hR3, hW.add _ (by omega), hK⟩, d5, d6, by omega, by omega⟩
      · have p3 : rdR g2 (ad 0) 3 = some (ad1 100) := by
          have := d1.p3
          rw [d5] at this
          exact this
        show b_X11_open_0 N S g _ _ = _
        unfold b_X11_open_0
        rw [if_neg cx, if_pos cx4, hC.p3, nn_S, a1, c5_S, on_S, show f_X3_clear N S1 g1 (ad1 (100 + 100 + 20 * q)) (nI kp) = _ from b1, c2_S, p3, nn_S, rdI_def, c1, show (1 : Int32) = nI 1 from rfl, nI_p, tk_S]
      · rw [← d6]
        show b_X12_open_0 N S1 g2 _ _ = _
        unfold b_X12_open_0
        rw [if_neg cx, if_neg cx3]
        simp (disch := (first | assumption | omega | (apply Inj.ne <;> first | assumption | omega) | fail)) only [nn_S, nm_D, ck_T, c2_S, on_N, on_S, lit, mNEG, nI_add, pk_mul, inb_nI, nI_clamp, wrI_row, wrL_row, rdR_rowI, rdR_rowL, rdI_def, rdL_def, rowI_same, rowI_ne, rowI_rowI, rowL_same, rowL_ne, rowL_1, rowI_21, upd_same, upd_ne, nI_le_T, nI_le_F, nI_lt_T, nI_lt_F, nI_eq_F, nI_NEG, NEG_lt0, nI_p, eq_self, if_true, if_false, nl1, p0, l0]
        rfl
