theorem c_place {N : Nat} {S : Hs} {g : Hg} {j : Nat} (hj : j < 8) : f_X11_isPlaceInSum N S g (nI j) = some (nI 1, g) := by
  show b_X11_isPlaceInSum_0 N S g (nI j) = _
  unfold b_X11_isPlaceInSum_0
  simp (disch := (first | assumption | omega | (apply Inj.ne <;> first | assumption | omega) | fail)) only [nn_S, nm_D, ck_T, c2_S, on_N, on_S, lit, mNEG, nI_add, pk_mul, inb_nI, nI_clamp, wrI_row, wrL_row, rdR_rowI, rdR_rowL, rdI_def, rdL_def, rowI_same, rowI_ne, rowI_rowI, rowL_same, rowL_ne, rowL_1, rowI_21, upd_same, upd_ne, nI_le_T, nI_le_F, nI_lt_T, nI_lt_F, nI_eq_F, nI_NEG, NEG_lt0, nI_p, eq_self, if_true, if_false]
theorem i_nlt {x : Int32} {m : Nat} (hm : m < 2 ^ 31) (h : nI m ≤ x) : ¬ x < nI m := by
  intro c
  have h1 := Int32.le_iff_toInt_le.mp h
  have h2 := Int32.lt_iff_toInt_lt.mp c
  omega
theorem c_placeF {N : Nat} {S : Hs} {g : Hg} {x : Int32} (h : x < 0 ∨ nI 8 ≤ x) : f_X11_isPlaceInSum N S g x = some (nI 0, g) := by
  show b_X11_isPlaceInSum_0 N S g x = _
  unfold b_X11_isPlaceInSum_0
  by_cases c : x < 0
  · rw [if_pos c]; rfl
  · rcases h with h | h
    · exact absurd h c
    · rw [if_neg c]
      first
      | (rw [if_neg (show ¬ x < (8 : Int32) from i_nlt (by decide) h)]; rfl)
      | (rw [if_pos (show (8 : Int32) ≤ x from h)]; rfl)
theorem setL_id (h : AHo) (l : Nat) : setL h l (h.1.2 l) = h := by
  unfold setL
  rw [va_id]
theorem tq_head {B N : Nat} (hN : 40000 ≤ N) {S : Hs} {g : Hg} {ad : Nat → Nat} {m : Nat × Nat} {h : AHo} {kc : AKp} (hJ : Jn B S g ad m h kc) (x1 : Int32) (x2 : Int32) (x3 : Int32) (x4 : Int32) : StN B S g ad m kc (fun g => f_X11_head N S g (ad 0) x1 x2 x3 x4) (fun g => f_X12_head_ N S g (ad 20000) x1 x2 x3 x4) := by
  obtain ⟨hC, hR, hW, hK⟩ := id hJ
  have h6 := hW.1
  have hI := hC.inj
  have nl := hR.nl
  have bad : x1 < 0 ∨ nI h.1.1 ≤ x1 → StN B S g ad m kc (fun g => f_X11_head N S g (ad 0) x1 x2 x3 x4) (fun g => f_X12_head_ N S g (ad 20000) x1 x2 x3 x4) := fun hx => by
    refine StN.same hJ (r := nI 0) ?_ ?_
    · show b_X11_head_0 N S g _ _ _ _ _ = _
      unfold b_X11_head_0
      rw [hC.p3, nn_S, hC.logF hx, c2_S, on_N]
      rfl
    · show b_X12_head__0 N S g _ _ _ _ _ = _
      unfold b_X12_head__0
      rw [m_isCountL nl hx, c2_S, if_pos z00]
      rfl
  rcases pk_ix x1 (show h.1.1 < 2 ^ 31 by omega) with c | c | ⟨l, hl, rfl⟩
  · exact bad (Or.inl c)
  · exact bad (Or.inr c)
  · have hA := hC.clo hl
    have hsz := hA.2.2.1
    have hL := hR.lg hl
    have bad2 : x2 < 0 ∨ nI (lsz (h.1.2 l) + 1) ≤ x2 → StN B S g ad m kc (fun g => f_X11_head N S g (ad 0) (nI l) x2 x3 x4) (fun g => f_X12_head_ N S g (ad 20000) (nI l) x2 x3 x4) := fun hx => by
      refine StN.same hJ (r := nI 0) ?_ ?_
      · show b_X11_head_0 N S g _ _ _ _ _ = _
        unfold b_X11_head_0
        rw [hC.p3, nn_S, hC.logAt hl, c2_S, on_S, c_reachesF hA hx, c2_S, if_pos z00]
        rfl
      · show b_X12_head__0 N S g _ _ _ _ _ = _
        unfold b_X12_head__0
        rw [m_isCountN nl h6 hl hsz hx hR.1 hL, c2_S, if_pos z00]
        rfl
    rcases pk_ix x2 (show lsz (h.1.2 l) + 1 < 2 ^ 31 by omega) with c | c | ⟨n, hn, rfl⟩
    · exact bad2 (Or.inl c)
    · exact bad2 (Or.inr c)
    · have hn' : n ≤ lsz (h.1.2 l) := by omega
      have hcnt := m_isCountT (N := N) nl h6 hl hsz hn' hR.1 hL
      have bad3 : x4 < 0 ∨ nI 8 ≤ x4 → StN B S g ad m kc (fun g => f_X11_head N S g (ad 0) (nI l) (nI n) x3 x4) (fun g => f_X12_head_ N S g (ad 20000) (nI l) (nI n) x3 x4) := fun hx => by
        refine StN.same hJ (r := nI 0) ?_ ?_
        · show b_X11_head_0 N S g _ _ _ _ _ = _
          unfold b_X11_head_0
          rw [hC.p3, nn_S, hC.logAt hl, c2_S, on_S, c_reachesT hA hn', c2_S, if_neg z10, c_placeF hx, c2_S, if_pos z00]
          rfl
        · show b_X12_head__0 N S g _ _ _ _ _ = _
          unfold b_X12_head__0
          rw [hcnt, c2_S, if_neg z10]
          by_cases d1 : x3 < 0
          · rw [if_pos d1]; rfl
          · rw [if_neg d1]
            by_cases d2 : (2 : Int32) < x3
            · rw [if_pos d2]; rfl
            · rw [if_neg d2]
              by_cases d3 : x4 < 0
              · rw [if_pos d3]; rfl
              · rcases hx with hx | hx
                · exact absurd hx d3
                · have := (ge_gt (m := 7) (by decide) hx).1
                  rw [if_neg d3, if_neg (show ¬ x4 ≤ (7 : Int32) from fun q => Int32.lt_irrefl (Int32.lt_of_lt_of_le this q))]; rfl
      rcases pk_ix x4 (show 8 < 2 ^ 31 by decide) with c | c | ⟨j, hj, rfl⟩
      · exact bad3 (Or.inl c)
      · exact bad3 (Or.inr c)
      · have hcl : ∀ r g1, (nm x3 (fun x_11 =>
            if x_11 = 0 then nn (rdR g (ad 0) 2) (fun a_12 => nn (rdR g (ad 0) 4) (fun a_13 => nn (rdR g a_13 0) (fun a_14 => c2 (f_X8_topOf N S g a_12 (ad (200 + 20 * l)) (nI n) a_14) (fun u_16 g_15 => nn (rdR g_15 (ad 0) 4) (fun a_17 => nn (rdR g_15 a_17 0) (fun a_18 => ck (inb (nI j) (hpL S a_18)) (some ((rdI g_15 a_18 (nI j).toNatClampNeg), g_15)))))))) else
            if x_11 = 1 then nn (rdR g (ad 0) 2) (fun a_19 => nn (rdR g (ad 0) 4) (fun a_20 => nn (rdR g a_20 1) (fun a_21 => c2 (f_X8_treeOf N S g a_19 (ad (200 + 20 * l)) (nI n) a_21) (fun u_23 g_22 => nn (rdR g_22 (ad 0) 4) (fun a_24 => nn (rdR g_22 a_24 1) (fun a_25 => ck (inb (nI j) (hpL S a_25)) (some ((rdI g_22 a_25 (nI j).toNatClampNeg), g_22)))))))) else
            if x_11 = 2 then nn (rdR g (ad 0) 2) (fun a_26 => nn (rdR g (ad 0) 4) (fun a_27 => c2 (f_X8_makeHead N S g a_26 (ad (200 + 20 * l)) (nI l) (nI n) a_27) (fun u_29 g_28 => nn (rdR g_28 (ad 0) 4) (fun a_30 => nn (rdR g_28 a_30 2) (fun a_31 => ck (inb (nI j) (hpL S a_31)) (some ((rdI g_28 a_31 (nI j).toNatClampNeg), g_28))))))) else
            some ((0 : Int32), g)) = some (r, g1)) → f_X11_head N S g (ad 0) (nI l) (nI n) x3 (nI j) = some (r, g1) := fun r g1 e => by
          show b_X11_head_0 N S g _ _ _ _ _ = _
          unfold b_X11_head_0
          rw [hC.p3, nn_S, hC.logAt hl, c2_S, on_S, c_reachesT hA hn', c2_S, if_neg z10, c_place hj, c2_S, if_neg z10]
          exact e
        have p2 : rdR g (ad 0) 2 = some (ad 9) := hC.sc.2.2.2.2.2.2.1
        have p4 : rdR g (ad 0) 4 = some (ad 16) := hC.sc.2.2.2.2.2.2.2.2.1
        obtain ⟨hp0, hp1, hp2, hl0, hl1, hl2⟩ := hC.2.1.2.1
        have hl0 : hpL S (ad 17) = 8 := hl0
        have hl1 : hpL S (ad 18) = 8 := hl1
        have hl2 : hpL S (ad 19) = 8 := hl2
        -- what the reference answers at a state that class scratch has changed
        have href : ∀ (w : Nat) (g1 : Hg) (v : Nat → Int32), w ≤ 2 → RJ S g1 ad h kc → (∀ g2, RHd g2 ad 20060 0 (HEADA (h.1.2 l) (nI l) n) → eq8 (seg (g2.1 (ad 20060)) (4 + 8 * w)) v) → ∃ g2, f_X12_head_ N S g1 (ad 20000) (nI l) (nI n) (nI w) (nI j) = some (v j, g2) ∧ FM ad (fun r => 20044 ≤ r ∧ r ≤ 20060) g1 g2 := by
          intro w g1 v hw hR1 hv
          obtain ⟨g2, b1, b2, b3⟩ := m_head hN hI (show l < 6 by omega) hA.2.2 hn' hR1.1 (hR1.lg hl)
          refine ⟨g2, ?_, b2⟩
          have p59 : rdR _ (ad 20000) 59 = some (ad 20060) := hR1.1.p 59 (by decide)
          have l59 : hpL _ (ad 20060) = 28 := hR1.1.l 59 (by decide) rfl
          have p592 : rdR _ (ad 20000) 59 = some (ad 20060) := (hR1.1.fr b2.1.1).p 59 (by decide)
          have ev : g2.1 (ad 20060) (4 + 8 * w + j) = v j := hv g2 b3 j hj
          show b_X12_head__0 N S g1 _ _ _ _ _ = _
          unfold b_X12_head__0
          rw [m_isCountT (N := N) hR1.nl h6 hl hsz hn' hR1.1 (hR1.lg hl), c2_S, if_neg z10, if_neg (nI_pos (by omega)), if_neg (show ¬ (2 : Int32) < nI w from nI_nlt (a := 2) hw (by decide)), if_neg (nI_pos (by omega)), if_pos (show nI j ≤ (7 : Int32) from nI_le (b := 7) (by omega) (by decide))]
          simp (disch := (first | assumption | omega | (apply Inj.ne <;> first | assumption | omega) | fail)) only [nn_S, nm_D, ck_T, c2_S, on_N, on_S, lit, mNEG, nI_add, pk_mul, inb_nI, nI_clamp, wrI_row, wrL_row, rdR_rowI, rdR_rowL, rdI_def, rdL_def, rowI_same, rowI_ne, rowI_rowI, rowL_same, rowL_ne, rowL_1, rowI_21, upd_same, upd_ne, nI_le_T, nI_le_F, nI_lt_T, nI_lt_F, nI_eq_F, nI_NEG, NEG_lt0, nI_p, eq_self, if_true, if_false, p59, b1, p592, l59, ev]
        by_cases c0 : x3 = 0
        · subst c0
          obtain ⟨g1, a1, a2, a3⟩ := c_topOf (N := N) hN hI (b := 200 + 20 * l) (t := 17) (x := nI n) rfl (by omega) (by decide) hl0 hn' hC.sc hA
          have hR1 := hR.fr a2 (fun r hr => by omega)
          obtain ⟨g2, b1, b2⟩ := href 0 g1 (TOPA (h.1.2 l) n) (by decide) hR1 (fun g2 hd => hd.2.1)
          refine StN.scr hJ (r := TOPA (h.1.2 l) n j) (hcl _ _ ?_) a2 (fun q hq => by omega) b1 b2 (fun q hq => by omega)
          rw [nm_D, if_pos rfl, p2, nn_S, p4, nn_S, hp0, nn_S, a1, c2_S, a2.P, p4, nn_S, a2.P, hp0, nn_S, show hpL S (ad (16 + 1)) = 8 from hl0, inb_nI hj (by decide), ck_T, nI_clamp (by omega), rdI_def, show g1.1 (ad (16 + 1)) j = TOPA (h.1.2 l) n j from a3 j hj]
        · by_cases c1 : x3 = 1
          · subst c1
            obtain ⟨g1, a1, a2, a3, a4⟩ := c_treeOf (N := N) hN hI (b := 200 + 20 * l) (t := 18) (x := nI n) rfl (by omega) (by decide) (by omega) hl1 hn' hC.sc hA
            have hR1 := hR.fr a2 (fun r hr => by omega)
            obtain ⟨g2, b1, b2⟩ := href 1 g1 (TREEA (h.1.2 l) n) (by decide) hR1 (fun g2 hd => hd.2.2.1)
            have hC1 := hC.log hW hl a2 (fun r hr => by omega) a4 (fun b W _ _ h => h)
            rw [setL_id] at hC1
            refine ⟨TREEA (h.1.2 l) n j, g1, g2, h, hcl _ _ ?_, b1, hC1.fr b2.1 (fun r hr => Or.inr (hr.elim (fun h => by omega) (fun h => by omega))), hR1.fm b2 (fun r hr => by omega), hW, hK⟩
            rw [nm_D, if_neg c0, if_pos rfl, p2, nn_S, p4, nn_S, hp1, nn_S, a1, c2_S, a2.P, p4, nn_S, a2.P, hp1, nn_S, show hpL S (ad (16 + 2)) = 8 from hl1, inb_nI hj (by decide), ck_T, nI_clamp (by omega), rdI_def, show g1.1 (ad (16 + 2)) j = TREEA (h.1.2 l) n j from a3 j hj]
          · by_cases c2' : x3 = 2
            · subst c2'
              obtain ⟨g1, a1, a2, a3, a4⟩ := c_makeHead (N := N) hN hI (b := 200 + 20 * l) (x := nI n) (nI l) rfl (by omega) hn' hC.sc hA hC.2.1.2.1
              have hR1 := hR.fr a2 (fun r hr => by omega)
              obtain ⟨g2, b1, b2⟩ := href 2 g1 (HEADA (h.1.2 l) (nI l) n).2.2.2.2 (by decide) hR1 (fun g2 hd => hd.2.2.2)
              have hC1 := hC.log hW hl a2 (fun r hr => by omega) a4 (fun b W _ _ h => h)
              rw [setL_id] at hC1
              refine ⟨(HEADA (h.1.2 l) (nI l) n).2.2.2.2 j, g1, g2, h, hcl _ _ ?_, b1, hC1.fr b2.1 (fun r hr => Or.inr (hr.elim (fun h => by omega) (fun h => by omega))), hR1.fm b2 (fun r hr => by omega), hW, hK⟩
              rw [nm_D, if_neg c0, if_neg c1, if_pos rfl, p2, nn_S, p4, nn_S, a1, c2_S, a2.P, p4, nn_S, a2.P, hp2, nn_S, show hpL S (ad (16 + 3)) = 8 from hl2, inb_nI hj (by decide), ck_T, nI_clamp (by omega), rdI_def, a3.2.2.2.2 j hj]
            · refine StN.same hJ (r := nI 0) (hcl _ _ ?_) ?_
              · rw [nm_D, if_neg c0, if_neg c1, if_neg c2']
                rfl
              · show b_X12_head__0 N S g _ _ _ _ _ = _
                unfold b_X12_head__0
                rw [hcnt, c2_S, if_neg z10]
                by_cases d1 : x3 < 0
                · rw [if_pos d1]; rfl
                · rcases pk_ix x3 (show 3 < 2 ^ 31 by decide) with e | e | ⟨w, w1, w2⟩
                  · exact absurd e d1
                  · rw [if_neg d1, if_pos (show (2 : Int32) < x3 from (ge_gt (m := 2) (by decide) e).1)]; rfl
                  · exfalso
                    have : w = 0 ∨ w = 1 ∨ w = 2 := by omega
                    rcases this with rfl | rfl | rfl
                    · exact c0 w2
                    · exact c1 w2
                    · exact c2' w2
