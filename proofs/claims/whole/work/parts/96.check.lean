/-! check -/
theorem CJ.headT {B N : Nat} {S : Hs} {g : Hg} {ad : Nat → Nat} {m : Nat × Nat} {h : AHo} {kc : AKp} {r : Nat} (hJ : CJ B S g ad m h kc) (hr : r < 12) (ht : (h.2.2.1.1 r).1 = true) : f_X1_headOf N S g (ad 100) (nI r) = some (some (ad (500 + 4 * r)), g) := c_headOfT hJ.2.2.1.1 hJ.2.2.1.2.2.2.2.1 hr ht
theorem CJ.headN {B N : Nat} {S : Hs} {g : Hg} {ad : Nat → Nat} {m : Nat × Nat} {h : AHo} {kc : AKp} {r : Nat} (hJ : CJ B S g ad m h kc) (hr : r < 12) (ht : (h.2.2.1.1 r).1 = false) : f_X1_headOf N S g (ad 100) (nI r) = some (none, g) := c_headOfN hJ.2.2.1.1 hJ.2.2.1.2.2.2.2.1 hr ht
theorem CJ.hdo {B : Nat} {S : Hs} {g : Hg} {ad : Nat → Nat} {m : Nat × Nat} {h : AHo} {kc : AKp} {r : Nat} (hJ : CJ B S g ad m h kc) (hr : r < 12) : HdO S g ad (500 + 4 * r) (h.2.2.1.1 r) := (hJ.2.2.1.2.2.2.2.1 r hr).2.1
theorem RJ.rd {S : Hs} {g : Hg} {ad : Nat → Nat} {h : AHo} {kc : AKp} {r : Nat} (hR : RJ S g ad h kc) (hr : r < 12) : RHd g ad 20014 (28 * r) (h.2.2.1.1 r) := (hR.2.1.2.2.1 r hr).1
theorem RJ.tm {S : Hs} {g : Hg} {ad : Nat → Nat} {h : AHo} {kc : AKp} {r : Nat} (hR : RJ S g ad h kc) (hr : r < 12) : g.1 (ad 20014) (28 * r + 3) = h.2.2.1.2 r := (hR.2.1.2.2.1 r hr).2.1
theorem RJ.has {S : Hs} {g : Hg} {ad : Nat → Nat} {h : AHo} {kc : AKp} {r : Nat} (hR : RJ S g ad h kc) (hr : r < 12) : g.1 (ad 20015) r = bI (h.2.2.1.1 r).1 := (hR.2.1.2.2.1 r hr).2.2
theorem m_isReaderT {N : Nat} {S : Hs} {g : Hg} {a r : Nat} (hr : r < 12) : f_X12_isReader N S g a (nI r) = some (nI 1, g) := by
  show b_X12_isReader_0 N S g (nI r) = _
  unfold b_X12_isReader_0
  simp (disch := (first | assumption | omega | (apply Inj.ne <;> first | assumption | omega) | fail)) only [nn_S, nm_D, ck_T, c2_S, on_N, on_S, lit, mNEG, nI_add, pk_mul, inb_nI, nI_clamp, wrI_row, wrL_row, rdR_rowI, rdR_rowL, rdI_def, rdL_def, rowI_same, rowI_ne, rowI_rowI, rowL_same, rowL_ne, rowL_1, rowI_21, upd_same, upd_ne, nI_le_T, nI_le_F, nI_lt_T, nI_lt_F, nI_eq_F, nI_NEG, NEG_lt0, nI_p, eq_self, if_true, if_false]
theorem m_isReaderF {N : Nat} {S : Hs} {g : Hg} {a : Nat} {x : Int32} (hx : x < 0 ∨ nI 12 ≤ x) : f_X12_isReader N S g a x = some (nI 0, g) := by
  show b_X12_isReader_0 N S g x = _
  unfold b_X12_isReader_0
  by_cases c : x < 0
  · rw [if_pos c]; rfl
  · rw [if_neg c, if_pos (show (12 : Int32) ≤ x from hx.resolve_left c)]; rfl
theorem rd_cases (hd : Nat → AHd) (x : Int32) : (x < 0 ∨ nI 12 ≤ x) ∨ (∃ r, r < 12 ∧ x = nI r ∧ (hd r).1 = false) ∨ (∃ r, r < 12 ∧ x = nI r ∧ (hd r).1 = true) := by
  rcases pk_ix x (show 12 < 2 ^ 31 by decide) with c | c | ⟨r, hr, e⟩
  · exact Or.inl (Or.inl c)
  · exact Or.inl (Or.inr c)
  · cases ht : (hd r).1 with
    | false => exact Or.inr (Or.inl ⟨r, hr, e, ht⟩)
    | true => exact Or.inr (Or.inr ⟨r, hr, e, ht⟩)
theorem CJ.headO {B : Nat} {S : Hs} {g : Hg} {ad : Nat → Nat} {m : Nat × Nat} {h : AHo} {kc : AKp} (N : Nat) (hJ : CJ B S g ad m h kc) (x : Int32) : ∃ o, f_X1_headOf N S g (ad 100) x = some (o, g) := by
  rcases rd_cases h.2.2.1.1 x with c | ⟨r, hr, rfl, ht⟩ | ⟨r, hr, rfl, ht⟩
  · exact ⟨_, c_headOfF c⟩
  · exact ⟨_, hJ.headN hr ht⟩
  · exact ⟨_, hJ.headT hr ht⟩
theorem c_if (b : Bool) (g : Hg) : (if bI b = (0 : Int32) then some ((0 : Int32), g) else some ((1 : Int32), g)) = some (bI b, g) := by
  cases b
  · rw [if_pos (show bI false = (0 : Int32) from rfl)]; rfl
  · rw [if_neg (show ¬ bI true = (0 : Int32) from z10)]; rfl
theorem m_check229 {N : Nat} {S : Hs} (b : Bool) (g : Hg) : b_X12_check_229 N S g (bI b) = some (bI b, g) := c_if b g
theorem RSl.cgn {g : Hg} {ad : Nat → Nat} {s : Nat} {X : ASl} (h : RSl g ad 0 s X) : g.1 (ad 20010) (8 * s) = X.1.1 ∧ g.1 (ad 20010) (8 * s + 2) = X.1.2.1 ∧ g.1 (ad 20010) (8 * s + 3) = X.1.2.2.1 := ⟨h.2.1.1, h.2.1.2.1, h.2.1.2.2.1⟩
theorem t_check {B N : Nat} (hN : 40000 ≤ N) {S : Hs} {g : Hg} {ad : Nat → Nat} {m : Nat × Nat} {h : AHo} {kc : AKp} (hJ : Jn B S g ad m h kc) (x1 : Int32) (x2 : Int32) (x3 : Int32) : StN B S g ad m kc (fun g => f_X11_check N S g (ad 0) x1 x2 x3) (fun g => f_X12_check N S g (ad 20000) x1 x2 x3) := by
  obtain ⟨hC, hR, hW, hK⟩ := id hJ
  have h6 := hW.1
  have hI := hC.inj
  have nl := hR.nl
  have badS : x1 < 0 ∨ nI 16 ≤ x1 → StN B S g ad m kc (fun g => f_X11_check N S g (ad 0) x1 x2 x3) (fun g => f_X12_check N S g (ad 20000) x1 x2 x3) := fun hx => by
    obtain ⟨o, ho⟩ := hC.headO N x2
    refine StN.same hJ (r := NEG) ?_ ?_
    · show b_X11_check_0 N S g _ _ _ _ = _
      unfold b_X11_check_0
      rw [hC.p3, nn_S, c_slotAtF hx, c2_S, hC.p3, nn_S, ho, c2_S, on_N]
      rfl
    · show b_X12_check_0 N S g _ _ _ _ = _
      unfold b_X12_check_0
      rw [m_isSlotF hx, c2_S, if_pos z00]
      rfl
  rcases pk_ix x1 (show 16 < 2 ^ 31 by decide) with c | c | ⟨s, hs, rfl⟩
  · exact badS (Or.inl c)
  · exact badS (Or.inr c)
  have hO := hC.pfo hs
  have hX := hR.sl hs
  have hw := hW.2.1 s hs
  have is := m_isSlotT (N := N) (S := S) (g := g) (a := ad 20000) hs
  have p9 : rdR _ (ad 20000) 9 = some (ad 20010) := hR.1.p 9 (by decide)
  have l9 : hpL _ (ad 20010) = 128 := hR.1.l 9 (by decide) rfl
  have l13 : hpL _ (ad 20014) = 336 := hR.1.l 13 (by decide) rfl
  have p14 : rdR _ (ad 20000) 14 = some (ad 20015) := hR.1.p 14 (by decide)
  have l14 : hpL _ (ad 20015) = 12 := hR.1.l 14 (by decide) rfl
  have v0 := hX.cgn.1
  have v5 : g.1 (ad (400 + 4 * s)) 5 = (h.2.1 s).1.1 := hO.2.1.1.2.2.1
  have p2 : rdR g (ad 0) 2 = some (ad 9) := hC.sc.2.2.2.2.2.2.1
  by_cases k0 : (h.2.1 s).1.1 = nI 0
  · obtain ⟨o, ho⟩ := hC.headO N x2
    refine StN.same hJ (r := NEG) ?_ ?_
    · show b_X11_check_0 N S g _ _ _ _ = _
      unfold b_X11_check_0
      rw [hC.p3, nn_S, hC.slotAt hs, c2_S, hC.p3, nn_S, ho, c2_S, on_S, rdI_def, v5, if_pos (show (h.2.1 s).1.1 = (0 : Int32) from k0)]
      rfl
    · show b_X12_check_0 N S g _ _ _ _ = _
      unfold b_X12_check_0
      rw [m_isSlotT hs, c2_S, if_neg z10, p9, nn_S, e8, l9, inb_nI (show 8 * s < 128 by omega) (by decide), ck_T, rdI_def, nI_clamp (show 8 * s < 2 ^ 31 by omega), v0, if_pos (show (h.2.1 s).1.1 = (0 : Int32) from k0)]
      rfl
  have k0' : ((h.2.1 s).1.1 = nI 0) = False := eq_false k0
  rcases rd_cases h.2.2.1.1 x2 with c | ⟨r, hr, rfl, ht⟩ | ⟨r, hr, rfl, ht⟩
  · refine StN.same hJ (r := NEG) ?_ ?_
    · show b_X11_check_0 N S g _ _ _ _ = _
      unfold b_X11_check_0
      rw [hC.p3, nn_S, hC.slotAt hs, c2_S, hC.p3, nn_S, c_headOfF c, c2_S, on_S, rdI_def, v5, if_neg (show ¬ (h.2.1 s).1.1 = (0 : Int32) from k0), on_N]
      rfl
    · have ir := m_isReaderF (N := N) (S := S) (g := g) (a := ad 20000) c
      show b_X12_check_0 N S g _ _ _ _ = _
      unfold b_X12_check_0
      rw [m_isSlotT hs, c2_S, if_neg z10, p9, nn_S, e8, l9, inb_nI (show 8 * s < 128 by omega) (by decide), ck_T, rdI_def, nI_clamp (show 8 * s < 2 ^ 31 by omega), v0, if_neg (show ¬ (h.2.1 s).1.1 = (0 : Int32) from k0), ir, c2_S, if_pos z00]
      rfl
  · have hh := hR.has hr
    rw [ht] at hh
    refine StN.same hJ (r := NEG) ?_ ?_
    · show b_X11_check_0 N S g _ _ _ _ = _
      unfold b_X11_check_0
      rw [hC.p3, nn_S, hC.slotAt hs, c2_S, hC.p3, nn_S, hC.headN hr ht, c2_S, on_S, rdI_def, v5, if_neg (show ¬ (h.2.1 s).1.1 = (0 : Int32) from k0), on_N]
      rfl
    · have ir := m_isReaderT (N := N) (S := S) (g := g) (a := ad 20000) hr
      show b_X12_check_0 N S g _ _ _ _ = _
      unfold b_X12_check_0
      rw [m_isSlotT hs, c2_S, if_neg z10, p9, nn_S, e8, l9, inb_nI (show 8 * s < 128 by omega) (by decide), ck_T, rdI_def, nI_clamp (show 8 * s < 2 ^ 31 by omega), v0, if_neg (show ¬ (h.2.1 s).1.1 = (0 : Int32) from k0), m_isReaderT hr, c2_S, if_neg z10, p14, nn_S, l14, inb_nI (show r < 12 by omega) (by decide), ck_T, rdI_def, nI_clamp (show r < 2 ^ 31 by omega), hh, if_pos (show bI false = (0 : Int32) from rfl)]
      rfl
  have hH := hC.hdo hr
  have hcl : ∀ k, (if (h.2.1 s).1.1 = (2 : Int32) then nn (rdR g (ad 0) 3) (fun a_11 => c2 (f_X1_headOf N S g a_11 x3) (fun o_13 g_12 => on o_13 (some ((-1 : Int32), g_12)) (fun a_14 => nn (rdR g_12 (ad 0) 2) (fun a_15 => c2 (f_X8_isGrowth N S g_12 a_15 (ad (400 + 4 * s)) (ad (500 + 4 * r)) a_14) (fun x_17 g_16 => if x_17 = 0 then some ((0 : Int32), g_16) else some ((1 : Int32), g_16)))))) else nn (rdR g (ad 0) 2) (fun a_20 => c2 (f_X8_isRight N S g a_20 (ad (400 + 4 * s)) (ad (500 + 4 * r))) (fun x_22 g_21 => if x_22 = 0 then some ((0 : Int32), g_21) else some ((1 : Int32), g_21)))) = k → f_X11_check N S g (ad 0) (nI s) (nI r) x3 = k := fun k hk => by
    show b_X11_check_0 N S g _ _ _ _ = _
    unfold b_X11_check_0
    rw [hC.p3, nn_S, hC.slotAt hs, c2_S, hC.p3, nn_S, hC.headT hr ht, c2_S, on_S, rdI_def, v5, if_neg (show ¬ (h.2.1 s).1.1 = (0 : Int32) from k0), on_S]
    exact hk
  by_cases k2 : (h.2.1 s).1.1 = nI 2
  · rcases hw.2.2 with q | q | ⟨q1, q2, q3, a, n, q4, q5, q6, q7, q8⟩ | q | q | q
    · exact absurd (q.1.symm.trans k2) (by decide)
    · exact absurd (q.1.symm.trans k2) (by decide)
    rotate_left
    · exact absurd (q.1.symm.trans k2) (by decide)
    · exact absurd (q.1.symm.trans k2) (by decide)
    · exact absurd (q.1.symm.trans k2) (by decide)
    have hh := hR.has hr
    rw [ht] at hh
    have ir := m_isReaderT (N := N) (S := S) (g := g) (a := ad 20000) hr
    rcases rd_cases h.2.2.1.1 x3 with c | ⟨r3, hr3, rfl, ht3⟩ | ⟨r3, hr3, rfl, ht3⟩
    · have ir3 := m_isReaderF (N := N) (S := S) (g := g) (a := ad 20000) c
      refine StN.same hJ (r := NEG) (hcl _ ?_) ?_
      · rw [if_pos (show (h.2.1 s).1.1 = (2 : Int32) from k2), hC.p3, nn_S, c_headOfF c, c2_S, on_N]
        rfl
      · show b_X12_check_0 N S g _ _ _ _ = _
        unfold b_X12_check_0
        rw [m_isSlotT hs, c2_S, if_neg z10, p9, nn_S, e8, l9, inb_nI (show 8 * s < 128 by omega) (by decide), ck_T, rdI_def, nI_clamp (show 8 * s < 2 ^ 31 by omega), v0, if_neg (show ¬ (h.2.1 s).1.1 = (0 : Int32) from k0), m_isReaderT hr, c2_S, if_neg z10, p14, nn_S, l14, inb_nI (show r < 12 by omega) (by decide), ck_T, rdI_def, nI_clamp (show r < 2 ^ 31 by omega), hh, if_neg (show ¬ bI true = (0 : Int32) from z10), p9, nn_S, l9, inb_nI (show 8 * s < 128 by omega) (by decide), ck_T, nm_D, rdI_def, v0, if_pos (show (h.2.1 s).1.1 = (2 : Int32) from k2), ir3, c2_S, if_pos z00]
        rfl
    · have ir3 := m_isReaderT (N := N) (S := S) (g := g) (a := ad 20000) hr3
      have hh3 := hR.has hr3
      rw [ht3] at hh3
      refine StN.same hJ (r := NEG) (hcl _ ?_) ?_
      · rw [if_pos (show (h.2.1 s).1.1 = (2 : Int32) from k2), hC.p3, nn_S, hC.headN hr3 ht3, c2_S, on_N]
        rfl
      · show b_X12_check_0 N S g _ _ _ _ = _
        unfold b_X12_check_0
        rw [m_isSlotT hs, c2_S, if_neg z10, p9, nn_S, e8, l9, inb_nI (show 8 * s < 128 by omega) (by decide), ck_T, rdI_def, nI_clamp (show 8 * s < 2 ^ 31 by omega), v0, if_neg (show ¬ (h.2.1 s).1.1 = (0 : Int32) from k0), m_isReaderT hr, c2_S, if_neg z10, p14, nn_S, l14, inb_nI (show r < 12 by omega) (by decide), ck_T, rdI_def, nI_clamp (show r < 2 ^ 31 by omega), hh, if_neg (show ¬ bI true = (0 : Int32) from z10), p9, nn_S, l9, inb_nI (show 8 * s < 128 by omega) (by decide), ck_T, nm_D, rdI_def, v0, if_pos (show (h.2.1 s).1.1 = (2 : Int32) from k2), ir3, c2_S, if_neg z10, p14, nn_S, l14, inb_nI (show r3 < 12 by omega) (by decide), ck_T, rdI_def, nI_clamp (show r3 < 2 ^ 31 by omega), hh3, if_pos (show bI false = (0 : Int32) from rfl)]
        rfl
    · have hH3 := hC.hdo hr3
      obtain ⟨g1, a1, a2⟩ := c_isGrowth (N := N) hN hI (p := 400 + 4 * s) (h1 := 500 + 4 * r) (h2 := 500 + 4 * r3) (m := a) (n := n) (by omega) (by omega) (by omega) ⟨q7, q6⟩ q4 q5 (by omega) hw.2.1 hC.sc hO hH hH3
      have hR1 := hR.fr a2 (fun r hr => by omega)
      have hX1 := hR1.sl hs
      have is1 := m_isSlotT (N := N) (S := S) (g := g1) (a := ad 20000) hs
      have ir1 := m_isReaderT (N := N) (S := S) (g := g1) (a := ad 20000) hr
      have ir3 := m_isReaderT (N := N) (S := S) (g := g1) (a := ad 20000) hr3
      have hh1 := hR1.has hr
      rw [ht] at hh1
      have hh3 := hR1.has hr3
      rw [ht3] at hh3
      have p9' : rdR _ (ad 20000) 9 = some (ad 20010) := hR1.1.p 9 (by decide)
      have p13' : rdR _ (ad 20000) 13 = some (ad 20014) := hR1.1.p 13 (by decide)
      have p14' : rdR _ (ad 20000) 14 = some (ad 20015) := hR1.1.p 14 (by decide)
      have w0 := hX1.cgn.1
      have w2 := hX1.cgn.2.1
      have w3 := hX1.cgn.2.2
      have y1 := (hR1.rd hr).1.1
      have y3 := (hR1.rd hr3).1.1
      obtain ⟨g2, b1, b2⟩ := m_isGrownRight (N := N) hN hI (p := 28 * r) (q := 28 * r3) hs ⟨q7, q6⟩ q4 q5 (by omega) hw.2.1 (by omega) (by omega) hR1.1 hX1 (hR1.rd hr) (hR1.rd hr3)
      have hF : f_X11_check N S g (ad 0) (nI s) (nI r) (nI r3) = some (bI (GROWB (h.2.1 s) a n (h.2.2.1.1 r) (h.2.2.1.1 r3)), g1) := hcl _ (by
        rw [if_pos (show (h.2.1 s).1.1 = (2 : Int32) from k2), hC.p3, nn_S, hC.headT hr3 ht3, c2_S, on_S, p2, nn_S, a1, c2_S]
        exact c_if _ _)
      have hG : ∀ k, (if (h.2.2.1.1 r).2.1.1 = nI a then (if (h.2.2.1.1 r3).2.1.1 = nI n then b_X12_check_126 N S g1 (ad 20000) (nI s) (nI r) (nI r3) (nI 1) else b_X12_check_125 N S g1 (ad 20000) (nI s) (nI r) (nI r3)) else b_X12_check_125 N S g1 (ad 20000) (nI s) (nI r) (nI r3)) = k → f_X12_check N S g1 (ad 20000) (nI s) (nI r) (nI r3) = k := fun k hk => by
        show b_X12_check_0 N S g1 _ _ _ _ = _
        unfold b_X12_check_0
        rw [m_isSlotT hs, c2_S, if_neg z10, p9', nn_S, e8, l9, inb_nI (show 8 * s < 128 by omega) (by decide), ck_T, rdI_def, nI_clamp (show 8 * s < 2 ^ 31 by omega), w0, if_neg (show ¬ (h.2.1 s).1.1 = (0 : Int32) from k0), m_isReaderT hr, c2_S, if_neg z10, p14', nn_S, l14, inb_nI (show r < 12 by omega) (by decide), ck_T, rdI_def, nI_clamp (show r < 2 ^ 31 by omega), hh1, if_neg (show ¬ bI true = (0 : Int32) from z10), p9', nn_S, l9, inb_nI (show 8 * s < 128 by omega) (by decide), ck_T, nm_D, rdI_def, w0, if_pos (show (h.2.1 s).1.1 = (2 : Int32) from k2), ir3, c2_S, if_neg z10, p14', nn_S, l14, inb_nI (show r3 < 12 by omega) (by decide), ck_T, rdI_def, nI_clamp (show r3 < 2 ^ 31 by omega), hh3, if_neg (show ¬ bI true = (0 : Int32) from z10)]
        simp (disch := (first | assumption | omega | (apply Inj.ne <;> first | assumption | omega) | fail)) only [nn_S, nm_D, ck_T, c2_S, on_N, on_S, lit, mNEG, nI_add, pk_mul, inb_nI, nI_clamp, wrI_row, wrL_row, rdR_rowI, rdR_rowL, rdI_def, rdL_def, rowI_same, rowI_ne, rowI_rowI, rowL_same, rowL_ne, rowL_1, rowI_21, upd_same, upd_ne, nI_le_T, nI_le_F, nI_lt_T, nI_lt_F, nI_eq_F, nI_NEG, NEG_lt0, nI_p, eq_self, if_true, if_false, p9', l9, p13', l13, w2, w3, q6, q7, y1, y3]
        exact hk
      have h125 : b_X12_check_125 N S g1 (ad 20000) (nI s) (nI r) (nI r3) = some (nI 0, g1) := by
        unfold b_X12_check_125 b_X12_check_126
        simp (disch := (first | assumption | omega | (apply Inj.ne <;> first | assumption | omega) | fail)) only [nn_S, nm_D, ck_T, c2_S, on_N, on_S, lit, mNEG, nI_add, pk_mul, inb_nI, nI_clamp, wrI_row, wrL_row, rdR_rowI, rdR_rowL, rdI_def, rdL_def, rowI_same, rowI_ne, rowI_rowI, rowL_same, rowL_ne, rowL_1, rowI_21, upd_same, upd_ne, nI_le_T, nI_le_F, nI_lt_T, nI_lt_F, nI_eq_F, nI_NEG, NEG_lt0, nI_p, eq_self, if_true, if_false]
      by_cases e1 : (h.2.2.1.1 r).2.1.1 = nI a
      · by_cases e2 : (h.2.2.1.1 r3).2.1.1 = nI n
        · have hv : GROWB (h.2.1 s) a n (h.2.2.1.1 r) (h.2.2.1.1 r3) = (sameB (TOPX (layX (h.2.1 s).2.2.2 0 a 0 T40)) (h.2.2.1.1 r).2.2.1 && sameB (TOPX (layX (h.2.1 s).2.2.2 a n (nb 0 a) (layX (h.2.1 s).2.2.2 0 a 0 T40))) (h.2.2.1.1 r3).2.2.1) := by
            unfold GROWB
            rw [decide_eq_true e1, decide_eq_true e2, Bool.true_and, Bool.true_and]
          rw [← hv] at b1
          refine StN.scr hJ hF a2 (fun q hq => by omega) (hG _ ?_) b2 (fun q hq => hq.1)
          rw [if_pos e1, if_pos e2]
          unfold b_X12_check_126
          rw [if_neg z10, p13', nn_S, nn_S, show (28 : Int32) * nI r = nI (28 * r) from pk_mul 28 r, show (28 : Int32) * nI r3 = nI (28 * r3) from pk_mul 28 r3, b1, c2_S]
          exact c_if _ _
        · have hv : GROWB (h.2.1 s) a n (h.2.2.1.1 r) (h.2.2.1.1 r3) = false := by
            unfold GROWB
            rw [decide_eq_false e2, Bool.false_and, Bool.and_false]
          rw [hv] at hF
          refine StN.scr (Q := fun _ => False) hJ hF a2 (fun q hq => by omega) (hG _ ?_) FM.rf (fun q hq => hq.elim)
          rw [if_pos e1, if_neg e2, h125]; rfl
      · have hv : GROWB (h.2.1 s) a n (h.2.2.1.1 r) (h.2.2.1.1 r3) = false := by
          unfold GROWB
          rw [decide_eq_false e1, Bool.false_and]
        rw [hv] at hF
        refine StN.scr (Q := fun _ => False) hJ hF a2 (fun q hq => by omega) (hG _ ?_) FM.rf (fun q hq => hq.elim)
        rw [if_neg e1, h125]; rfl
  -- the other kinds
  have hcR : ∀ b g1, f_X8_isRight N S g (ad 9) (ad (400 + 4 * s)) (ad (500 + 4 * r)) = some (bI b, g1) → f_X11_check N S g (ad 0) (nI s) (nI r) x3 = some (bI b, g1) := fun b g1 e => hcl _ (by
    rw [if_neg (show ¬ (h.2.1 s).1.1 = (2 : Int32) from k2), p2, nn_S, e, c2_S]
    exact c_if _ _)
  have k2' : ((h.2.1 s).1.1 = nI 2) = False := eq_false k2
  have hgR : ∀ (g1 : Hg) (R : Nat → Prop), Fr ad R g g1 → (∀ q, R q → q < 100) → ∀ k, (if (h.2.2.1.1 r).2.1.1 = (h.2.1 s).1.2.1 then (if (h.2.1 s).1.1 = nI 1 then b_X12_check_200 N S g1 (ad 20000) (nI s) (nI r) else if (h.2.1 s).1.1 = nI 5 then b_X12_check_200 N S g1 (ad 20000) (nI s) (nI r) else c2 (f_X12_isWayRight N S g1 (ad 20000) (nI s) (ad 20014) (nI (28 * r))) (fun x_21 g_20 => b_X12_check_229 N S g_20 x_21)) else some (nI 0, g1)) = k → f_X12_check N S g1 (ad 20000) (nI s) (nI r) x3 = k := fun g1 R hf hn k hk => by
    have hR1 := hR.fr hf (fun r hr => by have := hn r hr; omega)
    have hX1 := hR1.sl hs
    have is1 := m_isSlotT (N := N) (S := S) (g := g1) (a := ad 20000) hs
    have ir1 := m_isReaderT (N := N) (S := S) (g := g1) (a := ad 20000) hr
    have hh1 := hR1.has hr
    rw [ht] at hh1
    have p9' : rdR _ (ad 20000) 9 = some (ad 20010) := hR1.1.p 9 (by decide)
    have p13' : rdR _ (ad 20000) 13 = some (ad 20014) := hR1.1.p 13 (by decide)
    have p14' : rdR _ (ad 20000) 14 = some (ad 20015) := hR1.1.p 14 (by decide)
    have w0 := hX1.cgn.1
    have w2 := hX1.cgn.2.1
    have y1 := (hR1.rd hr).1.1
    show b_X12_check_0 N S g1 _ _ _ _ = _
    unfold b_X12_check_0
    rw [m_isSlotT hs, c2_S, if_neg z10, p9', nn_S, e8, l9, inb_nI (show 8 * s < 128 by omega) (by decide), ck_T, rdI_def, nI_clamp (show 8 * s < 2 ^ 31 by omega), w0, if_neg (show ¬ (h.2.1 s).1.1 = (0 : Int32) from k0), m_isReaderT hr, c2_S, if_neg z10, p14', nn_S, l14, inb_nI (show r < 12 by omega) (by decide), ck_T, rdI_def, nI_clamp (show r < 2 ^ 31 by omega), hh1, if_neg (show ¬ bI true = (0 : Int32) from z10), p9', nn_S, l9, inb_nI (show 8 * s < 128 by omega) (by decide), ck_T, nm_D, rdI_def, w0, if_neg (show ¬ (h.2.1 s).1.1 = (2 : Int32) from k2)]
    simp (disch := (first | assumption | omega | (apply Inj.ne <;> first | assumption | omega) | fail)) only [nn_S, nm_D, ck_T, c2_S, on_N, on_S, lit, mNEG, nI_add, pk_mul, inb_nI, nI_clamp, wrI_row, wrL_row, rdR_rowI, rdR_rowL, rdI_def, rdL_def, rowI_same, rowI_ne, rowI_rowI, rowL_same, rowL_ne, rowL_1, rowI_21, upd_same, upd_ne, nI_le_T, nI_le_F, nI_lt_T, nI_lt_F, nI_eq_F, nI_NEG, NEG_lt0, nI_p, eq_self, if_true, if_false, p9', l9, p13', l13, w2, y1]
    exact hk
  by_cases en : (h.2.2.1.1 r).2.1.1 = (h.2.1 s).1.2.1
  rotate_left
  · refine StN.same hJ (r := nI 0) (hcR false g (c_isRightN en hO hH)) (hgR g (fun _ => False) Fr.rf (fun q hq => hq.elim) _ ?_)
    rw [if_neg en]
  have h200 : ∀ (a n : Nat) (b : Bool) (g1 g2 : Hg), rdR g1 (ad 20000) 13 = some (ad 20014) → f_X12_isSpanRight N S g1 (ad 20000) (nI s) (ad 20014) (nI (28 * r)) = some (bI b, g2) → b_X12_check_200 N S g1 (ad 20000) (nI s) (nI r) = some (bI b, g2) := fun a n b g1 g2 e1 e2 => by
    unfold b_X12_check_200
    rw [e1, nn_S, show (28 : Int32) * nI r = nI (28 * r) from pk_mul 28 r, e2, c2_S]
    exact m_check229 _ _
  rcases hw.2.2 with q | ⟨q1, q2, a, n, q3, q4, q5, q6, q7⟩ | q | ⟨q1, q2, q3⟩ | ⟨q1, q2⟩ | ⟨q1, q2, a, n, q3, q4, q5, q6, q7, q8⟩
  · exact absurd q.1 k0
  · obtain ⟨g1, a1, a2⟩ := c_isRightE (N := N) hN hI (p := 400 + 4 * s) (h := 500 + 4 * r) (a := a) (n_ := n) (Or.inl q1) en (by omega) (by omega) ⟨q6, q5⟩ hw.1 (by omega) q4 (by rw [q2]; omega) hw.2.1 hC.sc hO hH
    have hR1 := hR.fr a2 (fun r hr => by omega)
    obtain ⟨g2, b1, b2⟩ := m_isSpanRight (N := N) hN hI (p := 28 * r) hs (Or.inl ⟨q1, q2⟩) ⟨q6, q5⟩ hw.1 (by omega) q4 (by rw [q2]; omega) hw.2.1 (by omega) hR1.1 (hR1.sl hs) (hR1.rd hr)
    refine StN.scr hJ (hcR _ _ a1) a2 (fun q hq => by omega) (hgR g1 _ a2 (fun q hq => by omega) _ ?_) b2 (fun q hq => hq.1)
    rw [if_pos en, if_pos q1]
    exact h200 a n _ g1 g2 (hR1.1.p 13 (by decide)) b1
  · exact absurd q.1 k2
  · obtain ⟨g1, a1, a2⟩ := c_isRightH (N := N) hN hI (p := 400 + 4 * s) (h := 500 + 4 * r) q1 en (by omega) (by omega) hw.2.1 hC.sc hO hH
    have hR1 := hR.fr a2 (fun r hr => by omega)
    obtain ⟨g2, b1, b2⟩ := m_isWayH (N := N) hN hI (p := 28 * r) q1 q3 hs hw.2.1 (by omega) hR1.1 (hR1.sl hs) (hR1.rd hr)
    refine StN.scr hJ (hcR _ _ a1) a2 (fun q hq => by omega) (hgR g1 _ a2 (fun q hq => by omega) _ ?_) b2 (fun q hq => hq.1)
    rw [if_pos en, if_neg (by rw [q1]; decide), if_neg (by rw [q1]; decide), b1, c2_S]
    exact m_check229 _ _
  · obtain ⟨g1, a1, a2⟩ := c_isRightA (N := N) hN hI (p := 400 + 4 * s) (h := 500 + 4 * r) q1 en (by omega) (by omega) hw.2.1 hC.sc hO hH
    have hR1 := hR.fr a2 (fun r hr => by omega)
    obtain ⟨g2, b1, b2⟩ := m_isWayA (N := N) hN hI (p := 28 * r) q1 hs hw.2.1 (by omega) hR1.1 (hR1.sl hs) (hR1.rd hr)
    refine StN.scr hJ (hcR _ _ a1) a2 (fun q hq => by omega) (hgR g1 _ a2 (fun q hq => by omega) _ ?_) b2 (fun q hq => hq.1)
    rw [if_pos en, if_neg (by rw [q1]; decide), if_neg (by rw [q1]; decide), b1, c2_S]
    exact m_check229 _ _
  · obtain ⟨g1, a1, a2⟩ := c_isRightE (N := N) hN hI (p := 400 + 4 * s) (h := 500 + 4 * r) (a := a) (n_ := n) (Or.inr q1) en (by omega) (by omega) ⟨q6, q5⟩ hw.1 q3 q4 (by omega) hw.2.1 hC.sc hO hH
    have hR1 := hR.fr a2 (fun r hr => by omega)
    obtain ⟨g2, b1, b2⟩ := m_isSpanRight (N := N) hN hI (p := 28 * r) hs (Or.inr ⟨q1, q7⟩) ⟨q6, q5⟩ hw.1 q3 q4 (by omega) hw.2.1 (by omega) hR1.1 (hR1.sl hs) (hR1.rd hr)
    refine StN.scr hJ (hcR _ _ a1) a2 (fun q hq => by omega) (hgR g1 _ a2 (fun q hq => by omega) _ ?_) b2 (fun q hq => hq.1)
    rw [if_pos en, if_neg (by rw [q1]; decide), if_pos q1]
    exact h200 a n _ g1 g2 (hR1.1.p 13 (by decide)) b1
