/-! talk -/
def TL (h : AHo) (a b : Nat) : Int32 × AHo :=
  if (h.2.2.1.1 a).2.1.2.2 ≠ (h.2.2.1.1 b).2.1.2.2 then (NEG, h)
  else if AGR h (h.2.2.1.1 a) (h.2.2.1.1 b) = false then (nI 0, incT (incT (blmH h (h.2.2.1.1 a) (h.2.2.1.1 b)) a) b)
  else if (h.2.2.1.1 a).2.1.1 ≤ (h.2.2.1.1 b).2.1.1 then (if (h.2.2.1.1 b).2.1.1 ≤ (h.2.2.1.1 a).2.1.1 then (nI 1, h) else (nI 1, setH h a (h.2.2.1.1 b)))
  else (nI 1, setH h b (h.2.2.1.1 a))
theorem TL_w {h : AHo} {a b : Nat} (hW : HoW h) (ha : a < 12) (hb : b < 12) : HoW (TL h a b).2 := by
  unfold TL
  split
  · exact hW
  · split
    · exact ((hW.bl _ _).inc a).inc b
    · split
      · split
        · exact hW
        · exact hW.hd (hW.2.2.1 b hb)
      · exact hW.hd (hW.2.2.1 a ha)
theorem c_talk {B N : Nat} (hN : 40000 ≤ N) {S : Hs} {g : Hg} {ad : Nat → Nat} {m : Nat × Nat} {h : AHo} {kc : AKp} {a b : Nat} (hC : CJ B S g ad m h kc) (hW : HoW h) (ha : a < 12) (hb : b < 12) (hab : a ≠ b) (hta : (h.2.2.1.1 a).1 = true) (htb : (h.2.2.1.1 b).1 = true) :
    ∃ ad1 S1 g1 k w m1, f_X11_talk N S g (ad 0) (nI a) (nI b) = some ((TL h a b).1, S1, g1, k, w) ∧ Mv (fun q => 0 < q ∧ q < 20000) ad S g ad1 S1 g1 ∧ CJ B S1 g1 ad1 m1 (TL h a b).2 kc ∧ 4 * k + phi S1 ad1 m1 kc ≤ phi S ad m kc ∧ w + phi S1 ad1 m1 kc ≤ phi S ad m kc := by
  have h6 := hW.1
  have hHa := hC.hdo ha
  have hHb := hC.hdo hb
  have hla : HdL h (h.2.2.1.1 a) := (hW.2.2.1 a ha).l hta h6 (fun i hi => (hC.wf i hi).1)
  have hlb : HdL h (h.2.2.1.1 b) := (hW.2.2.1 b hb).l htb h6 (fun i hi => (hC.wf i hi).1)
  have u6 : g.1 (ad (500 + 4 * a)) 6 = (h.2.2.1.1 a).2.1.2.2 := hHa.2.1.2.2.2
  have w6 : g.1 (ad (500 + 4 * b)) 6 = (h.2.2.1.1 b).2.1.2.2 := hHb.2.1.2.2.2
  have cab : ¬ nI a = nI b := fun e => hab ((nI_eq (by omega) (by omega)).mp e)
  have pre : ∀ v, (if (h.2.2.1.1 a).2.1.2.2 = (h.2.2.1.1 b).2.1.2.2 then c5 (f_X11_agree N S g (ad 0) (ad (500 + 4 * a)) (ad (500 + 4 * b))) (fun x_12 S_13 g_11 => if x_12 = 0 then nn (rdR g_11 (ad 0) 3) (fun a_25 => c5 (f_X1_tellBlame N S_13 g_11 a_25 (some (ad (500 + 4 * a))) (some (ad (500 + 4 * b)))) (fun u_27 S_28 g_26 => nn (rdR g_26 (ad 0) 3) (fun a_33 => nn (rdR g_26 a_33 4) (fun a_34 => ck (inb (nI a) (hpL S_28 a_34)) (ck (inb (nI a) (hpL S_28 a_34)) (nm (wrI g_26 a_34 (nI a).toNatClampNeg ((rdI g_26 a_34 (nI a).toNatClampNeg) + (1 : Int32))) (fun g_35 => nn (rdR g_35 (ad 0) 3) (fun a_36 => nn (rdR g_35 a_36 4) (fun a_37 => ck (inb (nI b) (hpL S_28 a_37)) (ck (inb (nI b) (hpL S_28 a_37)) (nm (wrI g_35 a_37 (nI b).toNatClampNeg ((rdI g_35 a_37 (nI b).toNatClampNeg) + (1 : Int32))) (fun g_38 => some ((0 : Int32), S_28, g_38, 0, 0))))))))))))) else (if (rdI g_11 (ad (500 + 4 * a)) 4) ≤ (rdI g_11 (ad (500 + 4 * b)) 4) then (if (rdI g_11 (ad (500 + 4 * b)) 4) ≤ (rdI g_11 (ad (500 + 4 * a)) 4) then some ((1 : Int32), S_13, g_11, 0, 0) else c2 (f_X0_copy N S_13 g_11 (ad (500 + 4 * a)) (ad (500 + 4 * b))) (fun u_22 g_21 => some ((1 : Int32), S_13, g_21, 0, 0))) else c2 (f_X0_copy N S_13 g_11 (ad (500 + 4 * b)) (ad (500 + 4 * a))) (fun u_24 g_23 => some ((1 : Int32), S_13, g_23, 0, 0)))) else some ((-1 : Int32), S, g, 0, 0)) = v → f_X11_talk N S g (ad 0) (nI a) (nI b) = v := fun v hv => by
    show b_X11_talk_0 N S g _ _ _ = _
    unfold b_X11_talk_0
    rw [hC.p3, nn_S, hC.headT ha hta, c2_S, hC.p3, nn_S, hC.headT hb htb, c2_S, if_neg cab, on_S, on_S, rdI_def, u6, rdI_def, w6]
    exact hv
  by_cases ck' : (h.2.2.1.1 a).2.1.2.2 = (h.2.2.1.1 b).2.1.2.2
  rotate_left
  · have hT : TL h a b = (NEG, h) := if_pos ck'
    rw [hT]
    refine ⟨ad, S, g, 0, 0, m, pre _ ?_, Mv.rf, hC, by omega, by omega⟩
    rw [if_neg ck']
    rfl
  have hno : ¬ ((h.2.2.1.1 a).2.1.2.2 ≠ (h.2.2.1.1 b).2.1.2.2) := fun e => e ck'
  obtain ⟨ad1, S1, g2, k1, w1, b1, b2, b3, b4, b5⟩ := c_agree (N := N) hN (p := 500 + 4 * a) (q := 500 + 4 * b) hC h6 (by omega) (by omega) hHa hHb hla hlb
  have m1 : Mv (fun q => 0 < q ∧ q < 20000) ad S g ad1 S1 g2 := b2.mono (fun q hq => by omega)
  have e0 : ad1 0 = ad 0 := b2.ad (by omega)
  have ea : ad1 (500 + 4 * a) = ad (500 + 4 * a) := b2.ad (by omega)
  have eb : ad1 (500 + 4 * b) = ad (500 + 4 * b) := b2.ad (by omega)
  have hHa1 := hHa.mv b2 (fun r r1 r2 => by omega)
  have hHb1 := hHb.mv b2 (fun r r1 r2 => by omega)
  have p3a : rdR g2 (ad 0) 3 = some (ad1 100) := by rw [← e0]; exact b3.p3
  have u4 : g2.1 (ad1 (500 + 4 * a)) 4 = (h.2.2.1.1 a).2.1.1 := hHa1.2.1.2.1
  have w4 : g2.1 (ad1 (500 + 4 * b)) 4 = (h.2.2.1.1 b).2.1.1 := hHb1.2.1.2.1
  rw [ea] at u4
  rw [eb] at w4
  cases hag : AGR h (h.2.2.1.1 a) (h.2.2.1.1 b) with
  | false =>
    have hT : TL h a b = (nI 0, incT (incT (blmH h (h.2.2.1.1 a) (h.2.2.1.1 b)) a) b) := by
      unfold TL
      rw [if_neg hno, if_pos hag]
    rw [hT]
    rw [hag] at b1
    obtain ⟨ad2, S2, g3, k2, w2, m2, d1, d2, d3, d4, d5, d6⟩ := c_tell (N := N) b3 (p := 500 + 4 * a) (q := 500 + 4 * b) (by omega) (by omega) hHa1 hHb1
    have e0' : ad2 0 = ad 0 := (d2.ad (by omega)).trans e0
    obtain ⟨g4, i1, i2, i3⟩ := c_inc (r := a) d4 ha
    obtain ⟨g5, j1, j2, j3⟩ := c_inc (r := b) i3 hb
    rw [ea, eb] at d1
    rw [e0'] at i1 j1
    refine ⟨ad2, S2, g5, k1 + (k2 + 0), w1 + (w2 + 0), m2, pre _ ?_, ((m1.tr (d2.mono (fun q hq => by omega))).tr (Mv.fr (i2.mono (fun q hq => by omega)))).tr (Mv.fr (j2.mono (fun q hq => by omega))), j3, by omega, by omega⟩
    rw [if_pos ck', b1, c5_S, if_pos (show bI false = (0 : Int32) from rfl), p3a, nn_S, d1, c5_S, i1, j1, tk_S, tk_S]
    rfl
  | true =>
    rw [hag] at b1
    by_cases c1 : (h.2.2.1.1 a).2.1.1 ≤ (h.2.2.1.1 b).2.1.1
    · by_cases c2' : (h.2.2.1.1 b).2.1.1 ≤ (h.2.2.1.1 a).2.1.1
      · have hT : TL h a b = (nI 1, h) := by
          unfold TL
          rw [if_neg hno, if_neg (by rw [hag]; decide), if_pos c1, if_pos c2']
        rw [hT]
        refine ⟨ad1, S1, g2, k1 + 0, w1 + 0, m, pre _ ?_, m1, b3, by omega, by omega⟩
        rw [if_pos ck', b1, c5_S, if_neg (show ¬ bI true = (0 : Int32) from z10), rdI_def, rdI_def, u4, w4, if_pos c1, if_pos c2', tk_S]
        rfl
      · have hT : TL h a b = (nI 1, setH h a (h.2.2.1.1 b)) := by
          unfold TL
          rw [if_neg hno, if_neg (by rw [hag]; decide), if_pos c1, if_neg c2']
        rw [hT]
        obtain ⟨g3, d1, d2, d3⟩ := c_cpH (N := N) b3 ha (p := 500 + 4 * b) (by omega) hHb1
        rw [ea, eb] at d1
        refine ⟨ad1, S1, g3, k1 + 0, w1 + 0, m, pre _ ?_, m1.tr (Mv.fr (d2.mono (fun q hq => by omega))), d3, by omega, by omega⟩
        rw [if_pos ck', b1, c5_S, if_neg (show ¬ bI true = (0 : Int32) from z10), rdI_def, rdI_def, u4, w4, if_pos c1, if_neg c2', d1, c2_S, tk_S]
        rfl
    · have hT : TL h a b = (nI 1, setH h b (h.2.2.1.1 a)) := by
        unfold TL
        rw [if_neg hno, if_neg (by rw [hag]; decide), if_neg c1]
      rw [hT]
      obtain ⟨g3, d1, d2, d3⟩ := c_cpH (N := N) b3 hb (p := 500 + 4 * a) (by omega) hHa1
      rw [ea, eb] at d1
      refine ⟨ad1, S1, g3, k1 + 0, w1 + 0, m, pre _ ?_, m1.tr (Mv.fr (d2.mono (fun q hq => by omega))), d3, by omega, by omega⟩
      rw [if_pos ck', b1, c5_S, if_neg (show ¬ bI true = (0 : Int32) from z10), rdI_def, rdI_def, u4, w4, if_neg c1, d1, c2_S, tk_S]
      rfl
theorem m_cpR {N : Nat} (hN : 40000 ≤ N) {S : Hs} {g : Hg} {ad : Nat → Nat} (hI : Inj ad) {h : AHo} {kc : AKp} {r s : Nat} (hR : RJ S g ad h kc) (hr : r < 12) (hs : s < 12) (hne : r ≠ s) (ht : (h.2.2.1.1 r).1 = (h.2.2.1.1 s).1) : ∃ g1, f_X12_copy N S g (ad 20014) (nI (28 * s)) (ad 20014) (nI (28 * r)) (0 : Int32) = some ((), g1) ∧ Fr ad (fun q => q = 20014) g g1 ∧ RJ S g1 ad (setH h r (h.2.2.1.1 s)) kc := by
  have l13 : hpL _ (ad 20014) = 336 := hR.1.l 13 (by decide) rfl
  obtain ⟨g1, a1, a2, a3, a4, a5⟩ := m_copy (N := N) (S := S) hN hI (ra := 20014) (p := 28 * s) (rb := 20014) (q := 28 * r) false (by omega) (by omega) (by omega) (by omega) (by omega) (hR.rd hs)
  exact ⟨g1, a1, a2, hR.hd hr (FM.fr a2 (by omega)) (fun q hq => by omega) a3 (a5 rfl) a4 (by rw [a2.I (by omega), hR.has hr, ht]) (fun j hj => by rw [a2.I (by omega)])⟩
theorem m_talk {N : Nat} (hN : 40000 ≤ N) {S : Hs} {g : Hg} {ad : Nat → Nat} (hI : Inj ad) {h : AHo} {kc : AKp} {a b : Nat} (hR : RJ S g ad h kc) (hW : HoW h) (hwf : ∀ i, i < h.1.1 → LogWf (h.1.2 i)) (n60 : h.2.2.2.1.1 ≤ 60) (ha : a < 12) (hb : b < 12) (hab : a ≠ b) (hta : (h.2.2.1.1 a).1 = true) (htb : (h.2.2.1.1 b).1 = true) :
    ∃ g1, f_X12_talk N S g (ad 20000) (nI a) (nI b) = some ((TL h a b).1, g1) ∧ Fr ad (fun q => 20000 ≤ q) g g1 ∧ RJ S g1 ad (TL h a b).2 kc := by
  have h6 := hW.1
  have hla : HdL h (h.2.2.1.1 a) := (hW.2.2.1 a ha).l hta h6 (fun i hi => (hwf i hi).1)
  have hlb : HdL h (h.2.2.1.1 b) := (hW.2.2.1 b hb).l htb h6 (fun i hi => (hwf i hi).1)
  have p13 : rdR _ (ad 20000) 13 = some (ad 20014) := hR.1.p 13 (by decide)
  have l13 : hpL _ (ad 20014) = 336 := hR.1.l 13 (by decide) rfl
  have p14 : rdR _ (ad 20000) 14 = some (ad 20015) := hR.1.p 14 (by decide)
  have l14 : hpL _ (ad 20015) = 12 := hR.1.l 14 (by decide) rfl
  have va := hR.has ha
  have vb := hR.has hb
  rw [hta] at va
  rw [htb] at vb
  have u6 : g.1 (ad 20014) (28 * a + 2) = (h.2.2.1.1 a).2.1.2.2 := (hR.rd ha).1.2.2
  have w6 : g.1 (ad 20014) (28 * b + 2) = (h.2.2.1.1 b).2.1.2.2 := (hR.rd hb).1.2.2
  have cab : ¬ nI a = nI b := fun e => hab ((nI_eq (by omega) (by omega)).mp e)
  have e1 : ∀ v, (if (h.2.2.1.1 a).2.1.2.2 = (h.2.2.1.1 b).2.1.2.2 then c2 (f_X12_agree N S g (ad 20000) (ad 20014) (nI (28 * a)) (ad 20014) (nI (28 * b))) (fun x_20 g_19 => if x_20 = 0 then nn (rdR g_19 (ad 20000) 13) (fun a_36 => nn (rdR g_19 (ad 20000) 13) (fun a_37 => c2 (f_X12_blame N S g_19 (ad 20000) a_36 (nI (28 * a)) a_37 (nI (28 * b))) (fun u_39 g_38 => nn (rdR g_38 (ad 20000) 13) (fun a_40 => ck (inb (nI (28 * a) + (3 : Int32)) (hpL S a_40)) (ck (inb (nI (28 * a) + (3 : Int32)) (hpL S a_40)) (nm (wrI g_38 a_40 (nI (28 * a) + (3 : Int32)).toNatClampNeg ((rdI g_38 a_40 (nI (28 * a) + (3 : Int32)).toNatClampNeg) + (1 : Int32))) (fun g_41 => nn (rdR g_41 (ad 20000) 13) (fun a_42 => ck (inb (nI (28 * b) + (3 : Int32)) (hpL S a_42)) (ck (inb (nI (28 * b) + (3 : Int32)) (hpL S a_42)) (nm (wrI g_41 a_42 (nI (28 * b) + (3 : Int32)).toNatClampNeg ((rdI g_41 a_42 (nI (28 * b) + (3 : Int32)).toNatClampNeg) + (1 : Int32))) (fun g_43 => some ((0 : Int32), g_43)))))))))))) else nn (rdR g_19 (ad 20000) 13) (fun a_22 => ck (inb (nI (28 * a)) (hpL S a_22)) (nn (rdR g_19 (ad 20000) 13) (fun a_23 => ck (inb (nI (28 * b)) (hpL S a_23)) (if (rdI g_19 a_23 (nI (28 * b)).toNatClampNeg) ≤ (rdI g_19 a_22 (nI (28 * a)).toNatClampNeg) then nn (rdR g_19 (ad 20000) 13) (fun a_25 => ck (inb (nI (28 * b)) (hpL S a_25)) (nn (rdR g_19 (ad 20000) 13) (fun a_26 => ck (inb (nI (28 * a)) (hpL S a_26)) (if (rdI g_19 a_26 (nI (28 * a)).toNatClampNeg) ≤ (rdI g_19 a_25 (nI (28 * b)).toNatClampNeg) then some ((1 : Int32), g_19) else nn (rdR g_19 (ad 20000) 13) (fun a_28 => nn (rdR g_19 (ad 20000) 13) (fun a_29 => c2 (f_X12_copy N S g_19 a_28 (nI (28 * a)) a_29 (nI (28 * b)) (0 : Int32)) (fun u_31 g_30 => some ((1 : Int32), g_30)))))))) else nn (rdR g_19 (ad 20000) 13) (fun a_32 => nn (rdR g_19 (ad 20000) 13) (fun a_33 => c2 (f_X12_copy N S g_19 a_32 (nI (28 * b)) a_33 (nI (28 * a)) (0 : Int32)) (fun u_35 g_34 => some ((1 : Int32), g_34))))))))) else some ((-1 : Int32), g)) = v → f_X12_talk N S g (ad 20000) (nI a) (nI b) = v := fun v hv => by
    show b_X12_talk_0 N S g _ _ _ = _
    unfold b_X12_talk_0
    rw [m_isReaderT ha, c2_S, if_neg z10, m_isReaderT hb, c2_S, if_neg z10, if_neg cab, p14, nn_S, l14, inb_nI ha (by decide), ck_T, nI_clamp (show a < 2 ^ 31 by omega), rdI_def, va, if_neg (show ¬ bI true = (0 : Int32) from z10), nn_S, l14, inb_nI hb (by decide), ck_T, nI_clamp (show b < 2 ^ 31 by omega), rdI_def, vb, if_neg (show ¬ bI true = (0 : Int32) from z10), nm_D, nm_D, e28, e28, p13, nn_S, show nI (28 * a) + (2 : Int32) = nI (28 * a + 2) from nI_add _ 2, show nI (28 * b) + (2 : Int32) = nI (28 * b + 2) from nI_add _ 2, l13, inb_nI (show 28 * a + 2 < 336 by omega) (by decide), ck_T, nn_S, l13, inb_nI (show 28 * b + 2 < 336 by omega) (by decide), ck_T, nI_clamp (show 28 * a + 2 < 2 ^ 31 by omega), nI_clamp (show 28 * b + 2 < 2 ^ 31 by omega), rdI_def, u6, rdI_def, w6, nn_S, nn_S]
    exact hv
  by_cases ck' : (h.2.2.1.1 a).2.1.2.2 = (h.2.2.1.1 b).2.1.2.2
  rotate_left
  · have hT : TL h a b = (NEG, h) := if_pos ck'
    rw [hT]
    refine ⟨g, e1 _ ?_, Fr.rf, hR⟩
    rw [if_neg ck']
    rfl
  have hno : ¬ ((h.2.2.1.1 a).2.1.2.2 ≠ (h.2.2.1.1 b).2.1.2.2) := fun e => e ck'
  obtain ⟨g2, b1, b2⟩ := m_agree (N := N) hN hI (h := h) (ro := 20014) (po := 28 * a) (ry := 20014) (py := 28 * b) h6 (fun i hi => (hwf i hi).1) (Or.inl rfl) (Or.inl rfl) (by omega) (by omega) (by omega) (by omega) hR.1 (fun l hl => hR.lg hl) (hR.rd ha) (hR.rd hb) hla hlb
  have hR2 := hR.fm b2 (fun r hr => by unfold RAG at hr; omega)
  have m1 : Fr ad (fun q => 20000 ≤ q) g g2 := b2.1.mono (fun q hq => by rcases hq with hq | hq; unfold RAG at hq; omega; omega)
  have p13a : rdR _ (ad 20000) 13 = some (ad 20014) := hR2.1.p 13 (by decide)
  have u4 : g2.1 (ad 20014) (28 * a) = (h.2.2.1.1 a).2.1.1 := (hR2.rd ha).1.1
  have w4 : g2.1 (ad 20014) (28 * b) = (h.2.2.1.1 b).2.1.1 := (hR2.rd hb).1.1
  cases hag : AGR h (h.2.2.1.1 a) (h.2.2.1.1 b) with
  | false =>
    have hT : TL h a b = (nI 0, incT (incT (blmH h (h.2.2.1.1 a) (h.2.2.1.1 b)) a) b) := by
      unfold TL
      rw [if_neg hno, if_pos hag]
    rw [hT]
    rw [hag] at b1
    obtain ⟨g3, d1, d2, d3⟩ := m_tell (N := N) hN hI (ra := 20014) (p := 28 * a) (rb := 20014) (q := 28 * b) hR2 n60 (Or.inl rfl) (Or.inl rfl) (by omega) (by omega) (by omega) (by omega) (hR2.rd ha) (hR2.rd hb)
    obtain ⟨g4, i1, i2, i3⟩ := m_inc hI (r := a) d3 ha
    obtain ⟨g5, j1, j2, j3⟩ := m_inc hI (r := b) i3 hb
    refine ⟨g5, e1 _ ?_, ((m1.tr (d2.mono (fun q hq => by omega))).tr (i2.mono (fun q hq => by omega))).tr (j2.mono (fun q hq => by omega)), j3⟩
    rw [if_pos ck', b1, c2_S, if_pos (show bI false = (0 : Int32) from rfl), p13a, nn_S, nn_S, d1, c2_S, i1, j1]
    rfl
  | true =>
    rw [hag] at b1
    have red : ∀ v, (if (h.2.2.1.1 b).2.1.1 ≤ (h.2.2.1.1 a).2.1.1 then (if (h.2.2.1.1 a).2.1.1 ≤ (h.2.2.1.1 b).2.1.1 then some ((1 : Int32), g2) else c2 (f_X12_copy N S g2 (ad 20014) (nI (28 * a)) (ad 20014) (nI (28 * b)) (0 : Int32)) (fun u_31 g_30 => some ((1 : Int32), g_30))) else c2 (f_X12_copy N S g2 (ad 20014) (nI (28 * b)) (ad 20014) (nI (28 * a)) (0 : Int32)) (fun u_35 g_34 => some ((1 : Int32), g_34))) = v → f_X12_talk N S g (ad 20000) (nI a) (nI b) = v := fun v hv => by
      refine e1 _ ?_
      rw [if_pos ck', b1, c2_S, if_neg (show ¬ bI true = (0 : Int32) from z10)]
      simp (disch := (first | assumption | omega | (apply Inj.ne <;> first | assumption | omega) | fail)) only [nn_S, nm_D, ck_T, c2_S, on_N, on_S, lit, mNEG, nI_add, pk_mul, inb_nI, nI_clamp, wrI_row, wrL_row, rdR_rowI, rdR_rowL, rdI_def, rdL_def, rowI_same, rowI_ne, rowI_rowI, rowL_same, rowL_ne, rowL_1, rowI_21, upd_same, upd_ne, nI_le_T, nI_le_F, nI_lt_T, nI_lt_F, nI_eq_F, nI_NEG, NEG_lt0, nI_p, eq_self, if_true, if_false, p13a, l13, u4, w4]
      exact hv
    by_cases c1 : (h.2.2.1.1 a).2.1.1 ≤ (h.2.2.1.1 b).2.1.1
    · by_cases c2' : (h.2.2.1.1 b).2.1.1 ≤ (h.2.2.1.1 a).2.1.1
      · have hT : TL h a b = (nI 1, h) := by
          unfold TL
          rw [if_neg hno, if_neg (by rw [hag]; decide), if_pos c1, if_pos c2']
        rw [hT]
        refine ⟨g2, red _ ?_, m1, hR2⟩
        rw [if_pos c2', if_pos c1]
        rfl
      · have hT : TL h a b = (nI 1, setH h a (h.2.2.1.1 b)) := by
          unfold TL
          rw [if_neg hno, if_neg (by rw [hag]; decide), if_pos c1, if_neg c2']
        rw [hT]
        obtain ⟨g3, d1, d2, d3⟩ := m_cpR (N := N) hN hI hR2 ha hb hab (hta.trans htb.symm)
        refine ⟨g3, red _ ?_, m1.tr (d2.mono (fun q hq => by omega)), d3⟩
        rw [if_neg c2', d1, c2_S]
        rfl
    · have hT : TL h a b = (nI 1, setH h b (h.2.2.1.1 a)) := by
        unfold TL
        rw [if_neg hno, if_neg (by rw [hag]; decide), if_neg c1]
      rw [hT]
      obtain ⟨g3, d1, d2, d3⟩ := m_cpR (N := N) hN hI hR2 hb ha (fun e => hab e.symm) (htb.trans hta.symm)
      refine ⟨g3, red _ ?_, m1.tr (d2.mono (fun q hq => by omega)), d3⟩
      rw [if_pos (Int32.le_of_lt (Int32.not_le.mp c1)), if_neg c1, d1, c2_S]
      rfl
theorem t_talk {B N : Nat} (hN : 40000 ≤ N) {S : Hs} {g : Hg} {ad : Nat → Nat} {m : Nat × Nat} {h : AHo} {kc : AKp} (hJ : Jn B S g ad m h kc) (x1 : Int32) (x2 : Int32) : StM B S g ad m kc (fun S g => f_X11_talk N S g (ad 0) x1 x2) (fun S g => f_X12_talk N S g (ad 20000) x1 x2) := by
  obtain ⟨hC, hR, hW, hK⟩ := id hJ
  have h6 := hW.1
  have hI := hC.inj
  have nl := hR.nl
  have p14 : rdR _ (ad 20000) 14 = some (ad 20015) := hR.1.p 14 (by decide)
  have l14 : hpL _ (ad 20015) = 12 := hR.1.l 14 (by decide) rfl
  have cls : ∀ y1 y2 : Int32, (y1 = y2 ∨ f_X1_headOf N S g (ad 100) y1 = some (none, g) ∨ f_X1_headOf N S g (ad 100) y2 = some (none, g)) → f_X11_talk N S g (ad 0) y1 y2 = some (NEG, S, g, 0, 0) := fun y1 y2 hx => by
    obtain ⟨o1, ho1⟩ := hC.headO N y1
    obtain ⟨o2, ho2⟩ := hC.headO N y2
    show b_X11_talk_0 N S g _ _ _ = _
    unfold b_X11_talk_0
    rw [hC.p3, nn_S, ho1, c2_S, hC.p3, nn_S, ho2, c2_S]
    by_cases c : y1 = y2
    · rw [if_pos c]; rfl
    · rw [if_neg c]
      rcases hx with hx | hx | hx
      · exact absurd hx c
      · rw [hx] at ho1
        injection ho1 with e
        injection e with e1 e2
        subst e1
        rfl
      · rw [hx] at ho2
        injection ho2 with e
        injection e with e1 e2
        subst e1
        cases o1 with
        | none => rfl
        | some z => rfl
  rcases rd_cases h.2.2.1.1 x1 with c | ⟨a, ha, rfl, hta⟩ | ⟨a, ha, rfl, hta⟩
  · refine StM.same hJ (r := NEG) (cls _ _ (Or.inr (Or.inl (c_headOfF c)))) ?_
    show b_X12_talk_0 N S g _ _ _ = _
    unfold b_X12_talk_0
    rw [m_isReaderF c, c2_S, if_pos z00]
    rfl
  · have va := hR.has ha
    rw [hta] at va
    refine StM.same hJ (r := NEG) (cls _ _ (Or.inr (Or.inl (hC.headN ha hta)))) ?_
    show b_X12_talk_0 N S g _ _ _ = _
    unfold b_X12_talk_0
    rw [m_isReaderT ha, c2_S, if_neg z10]
    rcases pk_ix x2 (show 12 < 2 ^ 31 by decide) with c | c | ⟨b, hb, rfl⟩
    · rw [m_isReaderF (Or.inl c), c2_S, if_pos z00]; rfl
    · rw [m_isReaderF (Or.inr c), c2_S, if_pos z00]; rfl
    · rw [m_isReaderT hb, c2_S, if_neg z10]
      by_cases c : nI a = nI b
      · rw [if_pos c]; rfl
      · rw [if_neg c, p14, nn_S, l14, inb_nI ha (by decide), ck_T, nI_clamp (by omega), rdI_def, va, if_pos (show bI false = (0 : Int32) from rfl)]; rfl
  have va := hR.has ha
  rw [hta] at va
  rcases rd_cases h.2.2.1.1 x2 with c | ⟨b, hb, rfl, htb⟩ | ⟨b, hb, rfl, htb⟩
  · refine StM.same hJ (r := NEG) (cls _ _ (Or.inr (Or.inr (c_headOfF c)))) ?_
    show b_X12_talk_0 N S g _ _ _ = _
    unfold b_X12_talk_0
    rw [m_isReaderT ha, c2_S, if_neg z10, m_isReaderF c, c2_S, if_pos z00]
    rfl
  · have vb := hR.has hb
    rw [htb] at vb
    refine StM.same hJ (r := NEG) (cls _ _ (Or.inr (Or.inr (hC.headN hb htb)))) ?_
    show b_X12_talk_0 N S g _ _ _ = _
    unfold b_X12_talk_0
    rw [m_isReaderT ha, c2_S, if_neg z10, m_isReaderT hb, c2_S, if_neg z10]
    by_cases c : nI a = nI b
    · rw [if_pos c]; rfl
    · rw [if_neg c, p14, nn_S, l14, inb_nI ha (by decide), ck_T, nI_clamp (show a < 2 ^ 31 by omega), rdI_def, va, if_neg (show ¬ bI true = (0 : Int32) from z10), nn_S, l14, inb_nI hb (by decide), ck_T, nI_clamp (show b < 2 ^ 31 by omega), rdI_def, vb, if_pos (show bI false = (0 : Int32) from rfl)]; rfl
  by_cases hab : a = b
  · subst hab
    refine StM.same hJ (r := NEG) (cls _ _ (Or.inl rfl)) ?_
    show b_X12_talk_0 N S g _ _ _ = _
    unfold b_X12_talk_0
    rw [m_isReaderT ha, c2_S, if_neg z10, m_isReaderT ha, c2_S, if_neg z10, if_pos rfl]
    rfl
  obtain ⟨ad1, S1, g1, k, w, m1, a1, a2, a3, a4, a5⟩ := c_talk (N := N) hN hC hW ha hb hab hta htb
  have e0 : ad1 0 = ad 0 := a2.ad (by omega)
  have e2 : ad1 20000 = ad 20000 := a2.ad (by omega)
  have hR1 := hR.mv a2 (fun q hq => by omega)
  obtain ⟨g2, b1, b2, b3⟩ := m_talk (N := N) hN a3.inj hR1 hW hC.wf hC.nb60 ha hb hab hta htb
  rw [e2] at b1
  exact ⟨_, ad1, S1, g1, g2, k, w, _, m1, kc, a1, b1, ⟨a3.fr b2 (fun q hq => by omega), b3, TL_w hW ha hb, hK⟩, e0, e2, a4, a5⟩
