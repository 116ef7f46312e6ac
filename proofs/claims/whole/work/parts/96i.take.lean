/-! take, talk -/
def incT (h : AHo) (r : Nat) : AHo := setT h (upd h.2.2.1.2 r (h.2.2.1.2 r + 1))
theorem HoW.inc {h : AHo} (hW : HoW h) (r : Nat) : HoW (incT h r) := hW
theorem CJ.t4 {B : Nat} {S : Hs} {g : Hg} {ad : Nat → Nat} {m : Nat × Nat} {h : AHo} {kc : AKp} (hC : CJ B S g ad m h kc) : rdR g (ad 100) 4 = some (ad 104) ∧ hpL S (ad 104) = 12 ∧ ∀ r, r < 12 → g.1 (ad 104) r = h.2.2.1.2 r := ⟨hC.2.2.1.1.1.2.2.2.1, hC.2.2.1.1.2.2.2.2.1, fun r hr => (hC.2.2.1.2.2.2.2.1 r hr).2.2⟩
/-- a time more in BLAME, in the class -/
theorem c_inc {B : Nat} {S : Hs} {g : Hg} {ad : Nat → Nat} {m : Nat × Nat} {h : AHo} {kc : AKp} {r : Nat} (hC : CJ B S g ad m h kc) (hr : r < 12) : ∃ g1, (∀ {ρ : Type} (k : Hg → Option (ρ × Hs × Hg × Nat × Nat)), nn (rdR g (ad 0) 3) (fun a_43 => nn (rdR g a_43 4) (fun a_44 => ck (inb (nI r) (hpL S a_44)) (ck (inb (nI r) (hpL S a_44)) (nm (wrI g a_44 (nI r).toNatClampNeg ((rdI g a_44 (nI r).toNatClampNeg) + (1 : Int32))) k)))) = k g1) ∧ Fr ad (fun q => q = 104) g g1 ∧ CJ B S g1 ad m (incT h r) kc := by
  obtain ⟨q4, ql, vt⟩ := hC.t4
  have v := vt r hr
  refine ⟨rowI g (ad 104) (upd (g.1 (ad 104)) r (h.2.2.1.2 r + 1)), fun k => ?_, Fr.row hC.inj rfl, hC.tm (h.2.2.1.2 r + 1) hr⟩
  rw [hC.p3, nn_S, q4, nn_S, ql, inb_nI hr (by decide), ck_T, ck_T, nI_clamp (by omega), nm_D, wrI_row, rdI_def, v]
theorem m_inc {S : Hs} {g : Hg} {ad : Nat → Nat} (hI : Inj ad) {h : AHo} {kc : AKp} {r : Nat} (hR : RJ S g ad h kc) (hr : r < 12) : ∃ g1, (∀ {ρ : Type} (k : Hg → Option (ρ × Hg)), nn (rdR g (ad 20000) 13) (fun a_28 => ck (inb (nI (28 * r) + (3 : Int32)) (hpL S a_28)) (ck (inb (nI (28 * r) + (3 : Int32)) (hpL S a_28)) (nm (wrI g a_28 (nI (28 * r) + (3 : Int32)).toNatClampNeg ((rdI g a_28 (nI (28 * r) + (3 : Int32)).toNatClampNeg) + (1 : Int32))) k))) = k g1) ∧ Fr ad (fun q => q = 20014) g g1 ∧ RJ S g1 ad (incT h r) kc := by
  have p13 : rdR _ (ad 20000) 13 = some (ad 20014) := hR.1.p 13 (by decide)
  have l13 : hpL _ (ad 20014) = 336 := hR.1.l 13 (by decide) rfl
  have v := hR.tm hr
  refine ⟨rowI g (ad 20014) (upd (g.1 (ad 20014)) (28 * r + 3) (h.2.2.1.2 r + 1)), fun k => ?_, Fr.row hI rfl, hR.tm' hI (h.2.2.1.2 r + 1) hr⟩
  rw [p13, nn_S, show nI (28 * r) + (3 : Int32) = nI (28 * r + 3) from nI_add _ 3, l13, inb_nI (by omega) (by decide), ck_T, ck_T, nI_clamp (by omega), nm_D, wrI_row, rdI_def, v]
def TK (h : AHo) (r : Nat) (H : AHd) : Int32 × AHo :=
  if (h.2.2.1.1 r).1 = false ∨ (h.2.2.1.1 r).2.1.2.2 ≠ H.2.1.2.2 then (nI 1, setH h r H)
  else if AGR h (h.2.2.1.1 r) H = false then (nI 0, incT (blmH h (h.2.2.1.1 r) H) r)
  else if H.2.1.1 ≤ (h.2.2.1.1 r).2.1.1 then (nI 1, h) else (nI 1, setH h r H)
theorem TK_w {h : AHo} {r : Nat} {H : AHd} (hW : HoW h) (hH : HdW h H) : HoW (TK h r H).2 := by
  unfold TK
  split
  · exact hW.hd hH
  · split
    · exact (hW.bl _ _).inc r
    · split
      · exact hW
      · exact hW.hd hH
theorem c_cpH {B N : Nat} {S : Hs} {g : Hg} {ad : Nat → Nat} {m : Nat × Nat} {h : AHo} {kc : AKp} {r p : Nat} {H : AHd} (hC : CJ B S g ad m h kc) (hr : r < 12) (hp : 504 + 4 * r ≤ p ∨ p + 4 ≤ 500 + 4 * r) (hH : HdO S g ad p H) : ∃ g1, f_X0_copy N S g (ad (500 + 4 * r)) (ad p) = some ((), g1) ∧ Fr ad (fun q => 500 + 4 * r ≤ q ∧ q < 504 + 4 * r) g g1 ∧ CJ B S g1 ad m (setH h r H) kc := by
  obtain ⟨g1, a1, a2, a3⟩ := c_headCopy (N := N) hC.inj (b := 500 + 4 * r) (c := p) (by omega) (hC.hdo hr).1 hH
  have a2' : Fr ad (fun q => 500 + 4 * r ≤ q ∧ q < 504 + 4 * r) g g1 := a2.mono (fun q hq => by omega)
  exact ⟨g1, a1, a2', hC.hd hr a2' (fun q hq => hq) a3⟩
theorem c_take81 {B N : Nat} {S : Hs} {g : Hg} {ad : Nat → Nat} {m : Nat × Nat} {h : AHo} {kc : AKp} {r : Nat} {H : AHd} (hC : CJ B S g ad m h kc) (hr : r < 12) (hH : HdO S g ad 16 H) : ∃ g1, b_X11_take_81 N S g (ad 0) (nI r) = some (nI 1, S, g1, 0, 0) ∧ Fr ad (fun q => 500 + 4 * r ≤ q ∧ q < 504 + 4 * r) g g1 ∧ CJ B S g1 ad m (setH h r H) kc := by
  obtain ⟨g1, a1, a2, a3⟩ := c_cpH (N := N) hC hr (by omega) hH
  refine ⟨g1, ?_, a2, a3⟩
  have p33 : rdR g (ad 100) 3 = some (ad 103) := hC.2.2.1.1.1.2.2.1
  have l33 : hpL S (ad 103) = 12 := hC.2.2.1.1.2.2.2.1
  have pr : rdR g (ad 103) r = some (ad (500 + 4 * r)) := (hC.2.2.1.2.2.2.2.1 r hr).1
  have p4 : rdR g (ad 0) 4 = some (ad 16) := hC.sc.2.2.2.2.2.2.2.2.1
  unfold b_X11_take_81
  rw [hC.p3, nn_S, p33, nn_S, l33, inb_nI hr (by decide), ck_T, nI_clamp (by omega), pr, nn_S, p4, nn_S, a1, c2_S]
  rfl
theorem c_take {B N : Nat} (hN : 40000 ≤ N) {S : Hs} {g : Hg} {ad : Nat → Nat} {m : Nat × Nat} {h : AHo} {kc : AKp} {r l n : Nat} (hC : CJ B S g ad m h kc) (hW : HoW h) (hr : r < 12) (hl : l < h.1.1) (hn : n ≤ lsz (h.1.2 l)) :
    ∃ ad1 S1 g1 k w m1, f_X11_take N S g (ad 0) (nI r) (nI l) (nI n) = some ((TK h r (HEADA (h.1.2 l) (nI l) n)).1, S1, g1, k, w) ∧ Mv (fun q => 0 < q ∧ q < 20000) ad S g ad1 S1 g1 ∧ CJ B S1 g1 ad1 m1 (TK h r (HEADA (h.1.2 l) (nI l) n)).2 kc ∧ 4 * k + phi S1 ad1 m1 kc ≤ phi S ad m kc ∧ w + phi S1 ad1 m1 kc ≤ phi S ad m kc := by
  have h6 := hW.1
  have hI := hC.inj
  have hA := hC.clo hl
  have hsz := hA.2.2.1
  obtain ⟨g1, a1, a2, a3, a4⟩ := c_makeHead (N := N) hN hI (b := 200 + 20 * l) (x := nI n) (nI l) rfl (by omega) hn hC.sc hA hC.2.1.2.1
  have hC1 := hC.log hW hl a2 (fun r hr => by omega) a4 (fun b W _ _ h => h)
  rw [setL_id] at hC1
  have m0 : Mv (fun q => 0 < q ∧ q < 20000) ad S g ad S g1 := Mv.fr (a2.mono (fun q hq => by omega))
  generalize hHd : HEADA (h.1.2 l) (nI l) n = H at *
  have hHt : H.1 = true := by rw [← hHd]; rfl
  have hHl : HdL h H := by
    have hw : HdW h H := fun _ => ⟨l, n, hl, hn, by rw [← hHd]; rfl, by rw [← hHd]; rfl⟩
    exact hw.l hHt h6 (fun i hi => (hC.wf i hi).1)
  have p2 : rdR g (ad 0) 2 = some (ad 9) := hC.sc.2.2.2.2.2.2.1
  have p4 : rdR g (ad 0) 4 = some (ad 16) := hC.sc.2.2.2.2.2.2.2.2.1
  have p4' : rdR g1 (ad 0) 4 = some (ad 16) := by rw [a2.P]; exact p4
  have cr0 : ¬ nI r < (0 : Int32) := nI_pos (by omega)
  have cr12 : ¬ (12 : Int32) ≤ nI r := nI_ge (b := 12) hr (by decide)
  have pre : ∀ v, c2 (f_X1_headOf N S g1 (ad 100) (nI r)) (fun o_16 g_15 => on o_16 (b_X11_take_81 N S g_15 (ad 0) (nI r)) (fun a_17 => nn (rdR g_15 (ad 0) 4) (fun a_18 => if (rdI g_15 a_17 6) = (rdI g_15 a_18 6) then nn (rdR g_15 (ad 0) 4) (fun a_20 => c5 (f_X11_agree N S g_15 (ad 0) a_17 a_20) (fun x_22 S_23 g_21 => if x_22 = 0 then nn (rdR g_21 (ad 0) 3) (fun a_34 => nn (rdR g_21 (ad 0) 4) (fun a_35 => c5 (f_X1_tellBlame N S_23 g_21 a_34 (some a_17) (some a_35)) (fun u_37 S_38 g_36 => nn (rdR g_36 (ad 0) 3) (fun a_43 => nn (rdR g_36 a_43 4) (fun a_44 => ck (inb (nI r) (hpL S_38 a_44)) (ck (inb (nI r) (hpL S_38 a_44)) (nm (wrI g_36 a_44 (nI r).toNatClampNeg ((rdI g_36 a_44 (nI r).toNatClampNeg) + (1 : Int32))) (fun g_45 => some ((0 : Int32), S_38, g_45, 0, 0))))))))) else nn (rdR g_21 (ad 0) 4) (fun a_29 => if (rdI g_21 a_29 4) ≤ (rdI g_21 a_17 4) then some ((1 : Int32), S_23, g_21, 0, 0) else nn (rdR g_21 (ad 0) 4) (fun a_31 => c2 (f_X0_copy N S_23 g_21 a_17 a_31) (fun u_33 g_32 => some ((1 : Int32), S_23, g_32, 0, 0)))))) else b_X11_take_81 N S g_15 (ad 0) (nI r)))) = v → f_X11_take N S g (ad 0) (nI r) (nI l) (nI n) = v := fun v hv => by
    show b_X11_take_0 N S g _ _ _ _ = _
    unfold b_X11_take_0
    rw [hC.p3, nn_S, hC.logAt hl, c2_S, if_neg cr0, if_neg cr12, on_S, c_reachesT hA hn, c2_S, if_neg z10, p2, nn_S, p4, nn_S, a1, c2_S, hC1.p3, nn_S]
    exact hv
  cases ht : (h.2.2.1.1 r).1 with
  | false =>
    have hT : TK h r H = (nI 1, setH h r H) := if_pos (Or.inl ht)
    rw [hT]
    obtain ⟨g2, b1, b2, b3⟩ := c_take81 (N := N) hC1 hr a3
    refine ⟨ad, S, g2, 0, 0, m, pre _ ?_, m0.tr (Mv.fr (b2.mono (fun q hq => by omega))), b3, by omega, by omega⟩
    rw [hC1.headN hr ht, c2_S, on_N]
    exact b1
  | true =>
    have hH0 := hC1.hdo hr
    have hH0l : HdL h (h.2.2.1.1 r) := (hW.2.2.1 r hr).l ht h6 (fun i hi => (hC.wf i hi).1)
    have u6 : g1.1 (ad (500 + 4 * r)) 6 = (h.2.2.1.1 r).2.1.2.2 := hH0.2.1.2.2.2
    have w6 : g1.1 (ad 16) 6 = H.2.1.2.2 := a3.2.1.2.2.2
    by_cases ck' : (h.2.2.1.1 r).2.1.2.2 = H.2.1.2.2
    rotate_left
    · have hT : TK h r H = (nI 1, setH h r H) := if_pos (Or.inr ck')
      rw [hT]
      obtain ⟨g2, b1, b2, b3⟩ := c_take81 (N := N) hC1 hr a3
      refine ⟨ad, S, g2, 0, 0, m, pre _ ?_, m0.tr (Mv.fr (b2.mono (fun q hq => by omega))), b3, by omega, by omega⟩
      rw [hC1.headT hr ht, c2_S, on_S, p4', nn_S, rdI_def, u6, rdI_def, w6, if_neg ck']
      exact b1
    have hno : ¬ ((h.2.2.1.1 r).1 = false ∨ (h.2.2.1.1 r).2.1.2.2 ≠ H.2.1.2.2) := fun hc => hc.elim (fun e => by rw [ht] at e; exact absurd e (by decide)) (fun e => e ck')
    obtain ⟨ad1, S1, g2, k1, w1, b1, b2, b3, b4, b5⟩ := c_agree (N := N) hN (p := 500 + 4 * r) (q := 16) hC1 h6 (by omega) (by omega) hH0 a3 hH0l hHl
    have m1 : Mv (fun q => 0 < q ∧ q < 20000) ad S g ad1 S1 g2 := m0.tr (b2.mono (fun q hq => by omega))
    have e0 : ad1 0 = ad 0 := b2.ad (by omega)
    have er : ad1 (500 + 4 * r) = ad (500 + 4 * r) := b2.ad (by omega)
    have e16 : ad1 16 = ad 16 := b2.ad (by omega)
    have hH0a := hH0.mv b2 (fun r r1 r2 => by omega)
    have hHa := a3.mv b2 (fun r r1 r2 => by omega)
    have p4a : rdR g2 (ad 0) 4 = some (ad1 16) := by rw [← e0]; exact b3.sc.2.2.2.2.2.2.2.2.1
    have p3a : rdR g2 (ad 0) 3 = some (ad1 100) := by rw [← e0]; exact b3.p3
    cases hag : AGR h (h.2.2.1.1 r) H with
    | false =>
      have hT : TK h r H = (nI 0, incT (blmH h (h.2.2.1.1 r) H) r) := by
        unfold TK
        rw [if_neg hno, if_pos hag]
      rw [hT]
      rw [hag] at b1
      obtain ⟨ad2, S2, g3, k2, w2, m2, d1, d2, d3, d4, d5, d6⟩ := c_tell (N := N) b3 (p := 500 + 4 * r) (q := 16) (by omega) (by omega) hH0a hHa
      have e0' : ad2 0 = ad 0 := (d2.ad (by omega)).trans e0
      obtain ⟨g4, i1, i2, i3⟩ := c_inc (r := r) d4 hr
      refine ⟨ad2, S2, g4, k1 + (k2 + 0), w1 + (w2 + 0), m2, pre _ ?_, (m1.tr (d2.mono (fun q hq => by omega))).tr (Mv.fr (i2.mono (fun q hq => by omega))), i3, by omega, by omega⟩
      rw [hC1.headT hr ht, c2_S, on_S, p4', nn_S, rdI_def, u6, rdI_def, w6, if_pos ck', nn_S, b1, c5_S, if_pos (show bI false = (0 : Int32) from rfl), p3a, nn_S, p4a, nn_S, ← er, d1, c5_S]
      rw [e0'] at i1
      rw [i1, tk_S, tk_S]
      rfl
    | true =>
      have u4 : g2.1 (ad1 (500 + 4 * r)) 4 = (h.2.2.1.1 r).2.1.1 := hH0a.2.1.2.1
      have w4 : g2.1 (ad1 16) 4 = H.2.1.1 := hHa.2.1.2.1
      rw [hag] at b1
      by_cases cn : H.2.1.1 ≤ (h.2.2.1.1 r).2.1.1
      · have hT : TK h r H = (nI 1, h) := by
          unfold TK
          rw [if_neg hno, if_neg (by rw [hag]; decide), if_pos cn]
        rw [hT]
        refine ⟨ad1, S1, g2, k1 + 0, w1 + 0, m, pre _ ?_, m1, b3, by omega, by omega⟩
        rw [hC1.headT hr ht, c2_S, on_S, p4', nn_S, rdI_def, u6, rdI_def, w6, if_pos ck', nn_S, b1, c5_S, if_neg (show ¬ bI true = (0 : Int32) from z10), p4a, nn_S, ← er, rdI_def, w4, rdI_def, u4, if_pos cn, tk_S]
        rfl
      · have hT : TK h r H = (nI 1, setH h r H) := by
          unfold TK
          rw [if_neg hno, if_neg (by rw [hag]; decide), if_neg cn]
        rw [hT]
        obtain ⟨g3, d1, d2, d3⟩ := c_cpH (N := N) b3 hr (p := 16) (by omega) hHa
        refine ⟨ad1, S1, g3, k1 + 0, w1 + 0, m, pre _ ?_, m1.tr (Mv.fr (d2.mono (fun q hq => by omega))), d3, by omega, by omega⟩
        rw [hC1.headT hr ht, c2_S, on_S, p4', nn_S, rdI_def, u6, rdI_def, w6, if_pos ck', nn_S, b1, c5_S, if_neg (show ¬ bI true = (0 : Int32) from z10), p4a, nn_S, ← er, rdI_def, w4, rdI_def, u4, if_neg cn, nn_S, d1, c2_S, tk_S]
        rfl
theorem m_take129 {N : Nat} (hN : 40000 ≤ N) {S : Hs} {g : Hg} {ad : Nat → Nat} (hI : Inj ad) {h : AHo} {kc : AKp} {r : Nat} {H : AHd} (hR : RJ S g ad h kc) (hr : r < 12) (hH : RHd g ad 20060 0 H) (ht : H.1 = true) : ∃ g1, b_X12_take_129 N S g (ad 20000) (nI r) (nI (28 * r)) = some (nI 1, g1) ∧ Fr ad (fun q => q = 20014 ∨ q = 20015) g g1 ∧ RJ S g1 ad (setH h r H) kc := by
  have p13 : rdR _ (ad 20000) 13 = some (ad 20014) := hR.1.p 13 (by decide)
  have l13 : hpL _ (ad 20014) = 336 := hR.1.l 13 (by decide) rfl
  have l14 : hpL _ (ad 20015) = 12 := hR.1.l 14 (by decide) rfl
  have p59 : rdR _ (ad 20000) 59 = some (ad 20060) := hR.1.p 59 (by decide)
  have l59 : hpL _ (ad 20060) = 28 := hR.1.l 59 (by decide) rfl
  obtain ⟨g1, a1, a2, a3, a4, a5⟩ := m_copy (N := N) (S := S) hN hI (ra := 20060) (p := 0) (rb := 20014) (q := 28 * r) false (by omega) (by omega) (by omega) (by omega) (by omega) hH
  have p14 : rdR _ (ad 20000) 14 = some (ad 20015) := (hR.1.fr a2.1).p 14 (by decide)
  let g2 : Hg := rowI g1 (ad 20015) (upd (g1.1 (ad 20015)) r (nI 1))
  have f2 : Fr ad (fun q => q = 20015) g1 g2 := Fr.row hI rfl
  have e2 : g2.1 (ad 20015) = upd (g1.1 (ad 20015)) r (nI 1) := rowI_same _ _ _
  have fA : Fr ad (fun q => q = 20014 ∨ q = 20015) g g2 := (a2.mono (fun q hq => by omega)).tr (f2.mono (fun q hq => by omega))
  have e14 : g2.1 (ad 20014) = g1.1 (ad 20014) := f2.I (by omega)
  refine ⟨g2, ?_, fA, hR.hd hr (FM.fr fA (by omega)) (fun q hq => by omega) (a3.fr f2 (by omega)) (by rw [e14]; exact a5 rfl) (fun j hj => by rw [e14]; exact a4 j hj) (by rw [e2, upd_same, ht]; rfl) (fun j hj => by rw [e2, upd_ne _ _ hj, a2.I (by omega)])⟩
  unfold b_X12_take_129
  rw [p59, nn_S, p13, nn_S, show f_X12_copy N S g (ad 20060) (0 : Int32) (ad 20014) (nI (28 * r)) (0 : Int32) = _ from a1, c2_S, p14, nn_S, l14, inb_nI hr (by decide), ck_T, nI_clamp (by omega), nm_D, wrI_row]
  rfl
theorem e28 (w : Nat) : (28 : Int32) * nI w = nI (28 * w) := pk_mul 28 w
theorem m_take {N : Nat} (hN : 40000 ≤ N) {S : Hs} {g : Hg} {ad : Nat → Nat} (hI : Inj ad) {h : AHo} {kc : AKp} {r l n : Nat} (hR : RJ S g ad h kc) (hW : HoW h) (hwf : ∀ i, i < h.1.1 → LogWf (h.1.2 i)) (n60 : h.2.2.2.1.1 ≤ 60) (hr : r < 12) (hl : l < h.1.1) (hn : n ≤ lsz (h.1.2 l)) :
    ∃ g1, f_X12_take N S g (ad 20000) (nI r) (nI l) (nI n) = some ((TK h r (HEADA (h.1.2 l) (nI l) n)).1, g1) ∧ Fr ad (fun q => 20000 ≤ q) g g1 ∧ RJ S g1 ad (TK h r (HEADA (h.1.2 l) (nI l) n)).2 kc := by
  have h6 := hW.1
  have hsz := (hwf l hl).1
  obtain ⟨g1, a1, a2, a3⟩ := m_head (N := N) hN hI (show l < 6 by omega) (hwf l hl) hn hR.1 (hR.lg hl)
  have hR1 := hR.fm a2 (fun r hr => by omega)
  have m0 : Fr ad (fun q => 20000 ≤ q) g g1 := a2.1.mono (fun q hq => by omega)
  generalize hHd : HEADA (h.1.2 l) (nI l) n = H at *
  have hHt : H.1 = true := by rw [← hHd]; rfl
  have hHl : HdL h H := by
    have hw : HdW h H := fun _ => ⟨l, n, hl, hn, by rw [← hHd]; rfl, by rw [← hHd]; rfl⟩
    exact hw.l hHt h6 (fun i hi => (hwf i hi).1)
  have p59 : rdR _ (ad 20000) 59 = some (ad 20060) := hR.1.p 59 (by decide)
  have l59 : hpL _ (ad 20060) = 28 := hR.1.l 59 (by decide) rfl
  have p59' : rdR _ (ad 20000) 59 = some (ad 20060) := hR1.1.p 59 (by decide)
  have p13' : rdR _ (ad 20000) 13 = some (ad 20014) := hR1.1.p 13 (by decide)
  have l13 : hpL _ (ad 20014) = 336 := hR1.1.l 13 (by decide) rfl
  have p14' : rdR _ (ad 20000) 14 = some (ad 20015) := hR1.1.p 14 (by decide)
  have l14 : hpL _ (ad 20015) = 12 := hR1.1.l 14 (by decide) rfl
  have vh := hR1.has hr
  have hH0 := hR1.rd hr
  have v2 : g1.1 (ad 20014) (28 * r + 2) = (h.2.2.1.1 r).2.1.2.2 := hH0.1.2.2
  have y2 : g1.1 (ad 20060) 2 = H.2.1.2.2 := by have := a3.1.2.2; rw [Nat.zero_add] at this; exact this
  have e1 : f_X12_take N S g (ad 20000) (nI r) (nI l) (nI n) = if bI (h.2.2.1.1 r).1 = (0 : Int32) then b_X12_take_129 N S g1 (ad 20000) (nI r) (nI (28 * r)) else (if (h.2.2.1.1 r).2.1.2.2 = H.2.1.2.2 then c2 (f_X12_agree N S g1 (ad 20000) (ad 20014) (nI (28 * r)) (ad 20060) (0 : Int32)) (fun x_19 g_18 => if x_19 = 0 then nn (rdR g_18 (ad 20000) 13) (fun a_24 => nn (rdR g_18 (ad 20000) 59) (fun a_25 => c2 (f_X12_blame N S g_18 (ad 20000) a_24 (nI (28 * r)) a_25 (0 : Int32)) (fun u_27 g_26 => nn (rdR g_26 (ad 20000) 13) (fun a_28 => ck (inb (nI (28 * r) + (3 : Int32)) (hpL S a_28)) (ck (inb (nI (28 * r) + (3 : Int32)) (hpL S a_28)) (nm (wrI g_26 a_28 (nI (28 * r) + (3 : Int32)).toNatClampNeg ((rdI g_26 a_28 (nI (28 * r) + (3 : Int32)).toNatClampNeg) + (1 : Int32))) (fun g_29 => some ((0 : Int32), g_29)))))))) else nn (rdR g_18 (ad 20000) 59) (fun a_21 => ck (inb (0 : Int32) (hpL S a_21)) (nn (rdR g_18 (ad 20000) 13) (fun a_22 => ck (inb (nI (28 * r)) (hpL S a_22)) (if (rdI g_18 a_22 (28 * r)) < (rdI g_18 a_21 (0 : Int32).toNatClampNeg) then b_X12_take_129 N S g_18 (ad 20000) (nI r) (nI (28 * r)) else some ((1 : Int32), g_18)))))) else b_X12_take_129 N S g1 (ad 20000) (nI r) (nI (28 * r))) := by
    show b_X12_take_0 N S g _ _ _ _ = _
    unfold b_X12_take_0
    rw [m_isReaderT hr, c2_S, if_neg z10, m_isCountT hR.nl h6 hl hsz hn hR.1 (hR.lg hl), c2_S, if_neg z10, p59, nn_S, show f_X12_head N S g (ad 20000) (nI l) (nI n) (ad 20060) (0 : Int32) = _ from a1, c2_S, nm_D, e28, p14', nn_S, l14, inb_nI hr (by decide), ck_T, nI_clamp (show r < 2 ^ 31 by omega), rdI_def, vh, p13', nn_S, show nI (28 * r) + (2 : Int32) = nI (28 * r + 2) from nI_add _ 2, l13, inb_nI (show 28 * r + 2 < 336 by omega) (by decide), ck_T, p59', nn_S, l59, show inb (2 : Int32) 28 = true by decide, ck_T, nI_clamp (show 28 * r + 2 < 2 ^ 31 by omega), show (2 : Int32).toNatClampNeg = 2 by decide, rdI_def, v2, rdI_def, y2, nn_S, nn_S, nI_clamp (show 28 * r < 2 ^ 31 by omega)]
  rw [e1]
  cases ht : (h.2.2.1.1 r).1 with
  | false =>
    have hT : TK h r H = (nI 1, setH h r H) := if_pos (Or.inl ht)
    rw [hT, if_pos (show bI false = (0 : Int32) from rfl)]
    obtain ⟨g2, b1, b2, b3⟩ := m_take129 (N := N) hN hI hR1 hr a3 hHt
    exact ⟨g2, b1, m0.tr (b2.mono (fun q hq => by omega)), b3⟩
  | true =>
    rw [if_neg (show ¬ bI true = (0 : Int32) from z10)]
    have hH0l : HdL h (h.2.2.1.1 r) := (hW.2.2.1 r hr).l ht h6 (fun i hi => (hwf i hi).1)
    by_cases ck' : (h.2.2.1.1 r).2.1.2.2 = H.2.1.2.2
    rotate_left
    · have hT : TK h r H = (nI 1, setH h r H) := if_pos (Or.inr ck')
      rw [hT, if_neg ck']
      obtain ⟨g2, b1, b2, b3⟩ := m_take129 (N := N) hN hI hR1 hr a3 hHt
      exact ⟨g2, b1, m0.tr (b2.mono (fun q hq => by omega)), b3⟩
    rw [if_pos ck']
    have hno : ¬ ((h.2.2.1.1 r).1 = false ∨ (h.2.2.1.1 r).2.1.2.2 ≠ H.2.1.2.2) := fun hc => hc.elim (fun e => by rw [ht] at e; exact absurd e (by decide)) (fun e => e ck')
    obtain ⟨g2, b1, b2⟩ := m_agree (N := N) hN hI (h := h) (ro := 20014) (po := 28 * r) (ry := 20060) (py := 0) h6 (fun i hi => (hwf i hi).1) (Or.inl rfl) (Or.inr rfl) (by omega) (by omega) (by omega) (by omega) hR1.1 (fun l hl => hR1.lg hl) hH0 a3 hH0l hHl
    have hR2 := hR1.fm b2 (fun r hr => by unfold RAG at hr; omega)
    have m1 : Fr ad (fun q => 20000 ≤ q) g g2 := m0.tr (b2.1.mono (fun q hq => by rcases hq with hq | hq; unfold RAG at hq; omega; omega))
    have hH0a := hR2.rd hr
    have hHa := a3.fm b2 (by unfold RAG; omega) (by omega)
    have p13a : rdR _ (ad 20000) 13 = some (ad 20014) := hR2.1.p 13 (by decide)
    have p59a : rdR _ (ad 20000) 59 = some (ad 20060) := hR2.1.p 59 (by decide)
    rw [show f_X12_agree N S g1 (ad 20000) (ad 20014) (nI (28 * r)) (ad 20060) (0 : Int32) = _ from b1, c2_S]
    cases hag : AGR h (h.2.2.1.1 r) H with
    | false =>
      have hT : TK h r H = (nI 0, incT (blmH h (h.2.2.1.1 r) H) r) := by
        unfold TK
        rw [if_neg hno, if_pos hag]
      rw [hT, if_pos (show bI false = (0 : Int32) from rfl)]
      obtain ⟨g3, d1, d2, d3⟩ := m_tell (N := N) hN hI (ra := 20014) (p := 28 * r) (rb := 20060) (q := 0) hR2 n60 (Or.inl rfl) (Or.inr rfl) (by omega) (by omega) (by omega) (by omega) hH0a hHa
      obtain ⟨g4, i1, i2, i3⟩ := m_inc hI (r := r) d3 hr
      refine ⟨g4, ?_, (m1.tr (d2.mono (fun q hq => by omega))).tr (i2.mono (fun q hq => by omega)), i3⟩
      rw [p13a, nn_S, p59a, nn_S, show f_X12_blame N S g2 (ad 20000) (ad 20014) (nI (28 * r)) (ad 20060) (0 : Int32) = _ from d1, c2_S, i1]
      rfl
    | true =>
      have u4 : g2.1 (ad 20014) (28 * r) = (h.2.2.1.1 r).2.1.1 := hH0a.1.1
      have w4 : g2.1 (ad 20060) 0 = H.2.1.1 := hHa.1.1
      rw [if_neg (show ¬ bI true = (0 : Int32) from z10), p59a, nn_S, l59, show inb (0 : Int32) 28 = true by decide, ck_T, p13a, nn_S, l13, inb_nI (by omega) (by decide), ck_T, show (0 : Int32).toNatClampNeg = 0 by decide, rdI_def, u4, rdI_def, w4]
      by_cases cn : H.2.1.1 ≤ (h.2.2.1.1 r).2.1.1
      · have hT : TK h r H = (nI 1, h) := by
          unfold TK
          rw [if_neg hno, if_neg (by rw [hag]; decide), if_pos cn]
        rw [hT, if_neg (Int32.not_lt.mpr cn)]
        exact ⟨g2, rfl, m1, hR2⟩
      · have hT : TK h r H = (nI 1, setH h r H) := by
          unfold TK
          rw [if_neg hno, if_neg (by rw [hag]; decide), if_neg cn]
        rw [hT, if_pos (Int32.not_le.mp cn)]
        obtain ⟨g3, d1, d2, d3⟩ := m_take129 (N := N) hN hI hR2 hr hHa hHt
        exact ⟨g3, d1, m1.tr (d2.mono (fun q hq => by omega)), d3⟩
theorem t_take {B N : Nat} (hN : 40000 ≤ N) {S : Hs} {g : Hg} {ad : Nat → Nat} {m : Nat × Nat} {h : AHo} {kc : AKp} (hJ : Jn B S g ad m h kc) (x1 : Int32) (x2 : Int32) (x3 : Int32) : StM B S g ad m kc (fun S g => f_X11_take N S g (ad 0) x1 x2 x3) (fun S g => f_X12_take N S g (ad 20000) x1 x2 x3) := by
  obtain ⟨hC, hR, hW, hK⟩ := id hJ
  have h6 := hW.1
  have hI := hC.inj
  have nl := hR.nl
  have badR : x1 < 0 ∨ nI 12 ≤ x1 → StM B S g ad m kc (fun S g => f_X11_take N S g (ad 0) x1 x2 x3) (fun S g => f_X12_take N S g (ad 20000) x1 x2 x3) := fun hx => by
    obtain ⟨o, ho⟩ := hC.logO N h6 x2
    refine StM.same hJ (r := NEG) ?_ ?_
    · show b_X11_take_0 N S g _ _ _ _ = _
      unfold b_X11_take_0
      rw [hC.p3, nn_S, ho, c2_S]
      by_cases c : x1 < 0
      · rw [if_pos c]; rfl
      · rw [if_neg c, if_pos (show (12 : Int32) ≤ x1 from hx.resolve_left c)]; rfl
    · show b_X12_take_0 N S g _ _ _ _ = _
      unfold b_X12_take_0
      rw [m_isReaderF hx, c2_S, if_pos z00]
      rfl
  rcases pk_ix x1 (show 12 < 2 ^ 31 by decide) with c | c | ⟨r, hr, rfl⟩
  · exact badR (Or.inl c)
  · exact badR (Or.inr c)
  have cr0 : ¬ nI r < (0 : Int32) := nI_pos (by omega)
  have cr12 : ¬ (12 : Int32) ≤ nI r := nI_ge (b := 12) hr (by decide)
  have badL : x2 < 0 ∨ nI h.1.1 ≤ x2 → StM B S g ad m kc (fun S g => f_X11_take N S g (ad 0) (nI r) x2 x3) (fun S g => f_X12_take N S g (ad 20000) (nI r) x2 x3) := fun hx => by
    refine StM.same hJ (r := NEG) ?_ ?_
    · show b_X11_take_0 N S g _ _ _ _ = _
      unfold b_X11_take_0
      rw [hC.p3, nn_S, hC.logF hx, c2_S, if_neg cr0, if_neg cr12, on_N]
      rfl
    · show b_X12_take_0 N S g _ _ _ _ = _
      unfold b_X12_take_0
      rw [m_isReaderT hr, c2_S, if_neg z10, m_isCountL nl hx, c2_S, if_pos z00]
      rfl
  rcases pk_ix x2 (show h.1.1 < 2 ^ 31 by omega) with c | c | ⟨l, hl, rfl⟩
  · exact badL (Or.inl c)
  · exact badL (Or.inr c)
  have hA := hC.clo hl
  have hsz := hA.2.2.1
  have badN : x3 < 0 ∨ nI (lsz (h.1.2 l) + 1) ≤ x3 → StM B S g ad m kc (fun S g => f_X11_take N S g (ad 0) (nI r) (nI l) x3) (fun S g => f_X12_take N S g (ad 20000) (nI r) (nI l) x3) := fun hx => by
    refine StM.same hJ (r := NEG) ?_ ?_
    · show b_X11_take_0 N S g _ _ _ _ = _
      unfold b_X11_take_0
      rw [hC.p3, nn_S, hC.logAt hl, c2_S, if_neg cr0, if_neg cr12, on_S, c_reachesF hA hx, c2_S, if_pos z00]
      rfl
    · show b_X12_take_0 N S g _ _ _ _ = _
      unfold b_X12_take_0
      rw [m_isReaderT hr, c2_S, if_neg z10, m_isCountN nl h6 hl hsz hx hR.1 (hR.lg hl), c2_S, if_pos z00]
      rfl
  rcases pk_ix x3 (show lsz (h.1.2 l) + 1 < 2 ^ 31 by omega) with c | c | ⟨n, hn, rfl⟩
  · exact badN (Or.inl c)
  · exact badN (Or.inr c)
  have hn' : n ≤ lsz (h.1.2 l) := by omega
  obtain ⟨ad1, S1, g1, k, w, m1, a1, a2, a3, a4, a5⟩ := c_take (N := N) hN (r := r) hC hW hr hl hn'
  have e0 : ad1 0 = ad 0 := a2.ad (by omega)
  have e2 : ad1 20000 = ad 20000 := a2.ad (by omega)
  have hR1 := hR.mv a2 (fun q hq => by omega)
  obtain ⟨g2, b1, b2, b3⟩ := m_take (N := N) hN a3.inj (r := r) hR1 hW hC.wf hC.nb60 hr hl hn'
  rw [e2] at b1
  exact ⟨_, ad1, S1, g1, g2, k, w, _, m1, kc, a1, b1, ⟨a3.fr b2 (fun q hq => by omega), b3, TK_w hW (fun _ => ⟨l, n, hl, hn', rfl, rfl⟩), hK⟩, e0, e2, a4, a5⟩
