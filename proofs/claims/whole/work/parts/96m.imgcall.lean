/-! image, back: the calls -/
theorem cpR_P (ad : Nat → Nat) (so do_ : Nat) (e : Nat × Nat) (g : Hg) (a k : Nat) : rdR (cpR ad so do_ e g) a k = rdR g a k := by
  unfold cpR
  split
  · rfl
  · split <;> rfl
theorem cpFL_22 : ∀ e, e ∈ cpFL → e.1 < 22 := by decide
theorem cpFL_nd : (cpFL.map (fun e => e.1)).Nodup := by decide
theorem m_image {N : Nat} (hN : 40000 ≤ N) {S : Hs} {g : Hg} {ad : Nat → Nat} (hI : Inj ad) {h : AHo} {kc : AKp} (hR : RJ S g ad h kc) (hW : HoW h) (hwf : ∀ i, i < h.1.1 → LogWf (h.1.2 i)) (n60 : h.2.2.2.1.1 ≤ 60) (wc : ∀ i, i < 8 → (h.2.2.2.2 i).1 = true → (h.2.2.2.2 i).2.2.1.2 ≤ 400) :
    ∃ g1, f_X12_image N S g (ad 20000) = some (nI 1, g1) ∧ Fr ad (fun q => 20000 ≤ q) g g1 ∧ ∀ (m1 : Nat × Nat) (od : Nat → Nat → Nat), RJ S g1 ad h (some (m1, cpH h od)) := by
  let g3 : Hg := rowI g (ad 20000) (upd (upd (upd (g.1 (ad 20000)) 21 (nI 1)) 23 (g.1 (ad 20000) 1)) 38 (g.1 (ad 20000) 16))
  have f3 : Fr ad (fun r => r = 20000) g g3 := Fr.row hI rfl
  have e3 : g3.1 (ad 20000) = upd (upd (upd (g.1 (ad 20000)) 21 (nI 1)) 23 (g.1 (ad 20000) 1)) 38 (g.1 (ad 20000) 16) := rowI_same _ _ _
  have hR3 : RfP S g3 ad := hR.1.fr f3.1
  have hI' := hI
  have i0 : ∀ g, f_X12_ints N S g (ad 20001) (ad 20023) = some ((), cpR ad 20001 20023 (0, 0) g) := fun g => m_ints (k := 0) hN hI g (Or.inl rfl) (hR.1.l 0 (by decide) rfl) (hR.1.l 22 (by decide) rfl) (by decide)
  have i2 : ∀ g, f_X12_ints N S g (ad 20003) (ad 20025) = some ((), cpR ad 20001 20023 (2, 0) g) := fun g => m_ints (k := 2) hN hI g (Or.inl rfl) (hR.1.l 2 (by decide) rfl) (hR.1.l 24 (by decide) rfl) (by decide)
  have i3 : ∀ g, f_X12_longs N S g (ad 20004) (ad 20026) = some ((), cpR ad 20001 20023 (3, 1) g) := fun g => m_longs (k := 3) hN hI g (Or.inl rfl) (hR.1.l 3 (by decide) rfl) (hR.1.l 25 (by decide) rfl) (by decide)
  have i4 : ∀ g, f_X12_truths N S g (ad 20005) (ad 20027) = some ((), cpR ad 20001 20023 (4, 2) g) := fun g => m_truths (k := 4) hN hI g (Or.inl rfl) (hR.1.l 4 (by decide) rfl) (hR.1.l 26 (by decide) rfl) (by decide)
  have i5 : ∀ g, f_X12_truths N S g (ad 20006) (ad 20028) = some ((), cpR ad 20001 20023 (5, 2) g) := fun g => m_truths (k := 5) hN hI g (Or.inl rfl) (hR.1.l 5 (by decide) rfl) (hR.1.l 27 (by decide) rfl) (by decide)
  have i6 : ∀ g, f_X12_ints N S g (ad 20007) (ad 20029) = some ((), cpR ad 20001 20023 (6, 0) g) := fun g => m_ints (k := 6) hN hI g (Or.inl rfl) (hR.1.l 6 (by decide) rfl) (hR.1.l 28 (by decide) rfl) (by decide)
  have i7 : ∀ g, f_X12_ints N S g (ad 20008) (ad 20030) = some ((), cpR ad 20001 20023 (7, 0) g) := fun g => m_ints (k := 7) hN hI g (Or.inl rfl) (hR.1.l 7 (by decide) rfl) (hR.1.l 29 (by decide) rfl) (by decide)
  have i8 : ∀ g, f_X12_truths N S g (ad 20009) (ad 20031) = some ((), cpR ad 20001 20023 (8, 2) g) := fun g => m_truths (k := 8) hN hI g (Or.inl rfl) (hR.1.l 8 (by decide) rfl) (hR.1.l 30 (by decide) rfl) (by decide)
  have i9 : ∀ g, f_X12_ints N S g (ad 20010) (ad 20032) = some ((), cpR ad 20001 20023 (9, 0) g) := fun g => m_ints (k := 9) hN hI g (Or.inl rfl) (hR.1.l 9 (by decide) rfl) (hR.1.l 31 (by decide) rfl) (by decide)
  have i10 : ∀ g, f_X12_ints N S g (ad 20011) (ad 20033) = some ((), cpR ad 20001 20023 (10, 0) g) := fun g => m_ints (k := 10) hN hI g (Or.inl rfl) (hR.1.l 10 (by decide) rfl) (hR.1.l 32 (by decide) rfl) (by decide)
  have i11 : ∀ g, f_X12_longs N S g (ad 20012) (ad 20034) = some ((), cpR ad 20001 20023 (11, 1) g) := fun g => m_longs (k := 11) hN hI g (Or.inl rfl) (hR.1.l 11 (by decide) rfl) (hR.1.l 33 (by decide) rfl) (by decide)
  have i12 : ∀ g, f_X12_ints N S g (ad 20013) (ad 20035) = some ((), cpR ad 20001 20023 (12, 0) g) := fun g => m_ints (k := 12) hN hI g (Or.inl rfl) (hR.1.l 12 (by decide) rfl) (hR.1.l 34 (by decide) rfl) (by decide)
  have i13 : ∀ g, f_X12_ints N S g (ad 20014) (ad 20036) = some ((), cpR ad 20001 20023 (13, 0) g) := fun g => m_ints (k := 13) hN hI g (Or.inl rfl) (hR.1.l 13 (by decide) rfl) (hR.1.l 35 (by decide) rfl) (by decide)
  have i14 : ∀ g, f_X12_truths N S g (ad 20015) (ad 20037) = some ((), cpR ad 20001 20023 (14, 2) g) := fun g => m_truths (k := 14) hN hI g (Or.inl rfl) (hR.1.l 14 (by decide) rfl) (hR.1.l 36 (by decide) rfl) (by decide)
  have i15 : ∀ g, f_X12_ints N S g (ad 20016) (ad 20038) = some ((), cpR ad 20001 20023 (15, 0) g) := fun g => m_ints (k := 15) hN hI g (Or.inl rfl) (hR.1.l 15 (by decide) rfl) (hR.1.l 37 (by decide) rfl) (by decide)
  have i17 : ∀ g, f_X12_ints N S g (ad 20018) (ad 20040) = some ((), cpR ad 20001 20023 (17, 0) g) := fun g => m_ints (k := 17) hN hI g (Or.inl rfl) (hR.1.l 17 (by decide) rfl) (hR.1.l 39 (by decide) rfl) (by decide)
  have i18 : ∀ g, f_X12_truths N S g (ad 20019) (ad 20041) = some ((), cpR ad 20001 20023 (18, 2) g) := fun g => m_truths (k := 18) hN hI g (Or.inl rfl) (hR.1.l 18 (by decide) rfl) (hR.1.l 40 (by decide) rfl) (by decide)
  have i19 : ∀ g, f_X12_ints N S g (ad 20020) (ad 20042) = some ((), cpR ad 20001 20023 (19, 0) g) := fun g => m_ints (k := 19) hN hI g (Or.inl rfl) (hR.1.l 19 (by decide) rfl) (hR.1.l 41 (by decide) rfl) (by decide)
  have i20 : ∀ g, f_X12_ints N S g (ad 20021) (ad 20043) = some ((), cpR ad 20001 20023 (20, 0) g) := fun g => m_ints (k := 20) hN hI g (Or.inl rfl) (hR.1.l 20 (by decide) rfl) (hR.1.l 42 (by decide) rfl) (by decide)
  have q0 : rdR g3 (ad 20000) 0 = some (ad 20001) := hR3.p 0 (by decide)
  have q22 : rdR g3 (ad 20000) 22 = some (ad 20023) := hR3.p 22 (by decide)
  have q2 : rdR g3 (ad 20000) 2 = some (ad 20003) := hR3.p 2 (by decide)
  have q24 : rdR g3 (ad 20000) 24 = some (ad 20025) := hR3.p 24 (by decide)
  have q3 : rdR g3 (ad 20000) 3 = some (ad 20004) := hR3.p 3 (by decide)
  have q25 : rdR g3 (ad 20000) 25 = some (ad 20026) := hR3.p 25 (by decide)
  have q4 : rdR g3 (ad 20000) 4 = some (ad 20005) := hR3.p 4 (by decide)
  have q26 : rdR g3 (ad 20000) 26 = some (ad 20027) := hR3.p 26 (by decide)
  have q5 : rdR g3 (ad 20000) 5 = some (ad 20006) := hR3.p 5 (by decide)
  have q27 : rdR g3 (ad 20000) 27 = some (ad 20028) := hR3.p 27 (by decide)
  have q6 : rdR g3 (ad 20000) 6 = some (ad 20007) := hR3.p 6 (by decide)
  have q28 : rdR g3 (ad 20000) 28 = some (ad 20029) := hR3.p 28 (by decide)
  have q7 : rdR g3 (ad 20000) 7 = some (ad 20008) := hR3.p 7 (by decide)
  have q29 : rdR g3 (ad 20000) 29 = some (ad 20030) := hR3.p 29 (by decide)
  have q8 : rdR g3 (ad 20000) 8 = some (ad 20009) := hR3.p 8 (by decide)
  have q30 : rdR g3 (ad 20000) 30 = some (ad 20031) := hR3.p 30 (by decide)
  have q9 : rdR g3 (ad 20000) 9 = some (ad 20010) := hR3.p 9 (by decide)
  have q31 : rdR g3 (ad 20000) 31 = some (ad 20032) := hR3.p 31 (by decide)
  have q10 : rdR g3 (ad 20000) 10 = some (ad 20011) := hR3.p 10 (by decide)
  have q32 : rdR g3 (ad 20000) 32 = some (ad 20033) := hR3.p 32 (by decide)
  have q11 : rdR g3 (ad 20000) 11 = some (ad 20012) := hR3.p 11 (by decide)
  have q33 : rdR g3 (ad 20000) 33 = some (ad 20034) := hR3.p 33 (by decide)
  have q12 : rdR g3 (ad 20000) 12 = some (ad 20013) := hR3.p 12 (by decide)
  have q34 : rdR g3 (ad 20000) 34 = some (ad 20035) := hR3.p 34 (by decide)
  have q13 : rdR g3 (ad 20000) 13 = some (ad 20014) := hR3.p 13 (by decide)
  have q35 : rdR g3 (ad 20000) 35 = some (ad 20036) := hR3.p 35 (by decide)
  have q14 : rdR g3 (ad 20000) 14 = some (ad 20015) := hR3.p 14 (by decide)
  have q36 : rdR g3 (ad 20000) 36 = some (ad 20037) := hR3.p 36 (by decide)
  have q15 : rdR g3 (ad 20000) 15 = some (ad 20016) := hR3.p 15 (by decide)
  have q37 : rdR g3 (ad 20000) 37 = some (ad 20038) := hR3.p 37 (by decide)
  have q17 : rdR g3 (ad 20000) 17 = some (ad 20018) := hR3.p 17 (by decide)
  have q39 : rdR g3 (ad 20000) 39 = some (ad 20040) := hR3.p 39 (by decide)
  have q18 : rdR g3 (ad 20000) 18 = some (ad 20019) := hR3.p 18 (by decide)
  have q40 : rdR g3 (ad 20000) 40 = some (ad 20041) := hR3.p 40 (by decide)
  have q19 : rdR g3 (ad 20000) 19 = some (ad 20020) := hR3.p 19 (by decide)
  have q41 : rdR g3 (ad 20000) 41 = some (ad 20042) := hR3.p 41 (by decide)
  have q20 : rdR g3 (ad 20000) 20 = some (ad 20021) := hR3.p 20 (by decide)
  have q42 : rdR g3 (ad 20000) 42 = some (ad 20043) := hR3.p 42 (by decide)
  have fA := cpA_fr hI 20001 20023 cpFL g3
  have vA := cpA_v hI 20001 20023 (Or.inl rfl) cpFL g3 cpFL_22 cpFL_nd
  have w : f_X12_image N S g (ad 20000) = some (nI 1, cpA ad 20001 20023 cpFL g3) := by
    show b_X12_image_0 N S g _ = _
    unfold b_X12_image_0
    rw [nm_D, nm_D, nm_D]
    have e : wrI (wrI (wrI g (ad 20000) 21 (1 : Int32)) (ad 20000) 23 (rdI (wrI g (ad 20000) 21 (1 : Int32)) (ad 20000) 1)) (ad 20000) 38 (rdI (wrI (wrI g (ad 20000) 21 (1 : Int32)) (ad 20000) 23 (rdI (wrI g (ad 20000) 21 (1 : Int32)) (ad 20000) 1)) (ad 20000) 16) = g3 := by
      simp (disch := (first | assumption | omega | (apply Inj.ne <;> first | assumption | omega) | fail)) only [nn_S, nm_D, ck_T, c2_S, on_N, on_S, lit, mNEG, nI_add, pk_mul, inb_nI, nI_clamp, wrI_row, wrL_row, rdR_rowI, rdR_rowL, rdI_def, rdL_def, rowI_same, rowI_ne, rowI_rowI, rowL_same, rowL_ne, rowL_1, rowI_21, upd_same, upd_ne, nI_le_T, nI_le_F, nI_lt_T, nI_lt_F, nI_eq_F, nI_NEG, NEG_lt0, nI_p, eq_self, if_true, if_false]
      rfl
    rw [e]
    simp only [cpR_P, q0, q22, q2, q24, q3, q25, q4, q26, q5, q27, q6, q28, q7, q29, q8, q30, q9, q31, q10, q32, q11, q33, q12, q34, q13, q35, q14, q36, q15, q37, q17, q39, q18, q40, q19, q41, q20, q42, nn_S, i0, i2, i3, i4, i5, i6, i7, i8, i9, i10, i11, i12, i13, i14, i15, i17, i18, i19, i20, c2_S]
    rfl
  generalize hg4 : cpA ad 20001 20023 cpFL g3 = g4 at *
  have nf : ∀ r, r < 20023 ∨ 20043 < r → ¬ (∃ e, e ∈ cpFL ∧ r = 20023 + e.1) := fun r hr ⟨e, h1, h2⟩ => by
    have := cpFL_22 e h1
    have h20 : e.1 ≤ 20 := (show ∀ e, e ∈ cpFL → e.1 ≤ 20 by decide) e h1
    omega
  have e4 : g4.1 (ad 20000) = upd (upd (upd (g.1 (ad 20000)) 21 (nI 1)) 23 (g.1 (ad 20000) 1)) 38 (g.1 (ad 20000) 16) := (fA.I (nf _ (by omega))).trans e3
  have fT : Fr ad (fun q => 20000 ≤ q) g g4 := (f3.mono (fun q hq => by omega)).tr (fA.mono (fun q ⟨e, h1, h2⟩ => by omega))
  have eR : ∀ r, 20001 + 0 ≤ r → r ≤ 20021 + 0 → g3.1 (ad r) = g.1 (ad r) ∧ g3.2.1 (ad r) = g.2.1 (ad r) := fun r r1 r2 => ⟨f3.I (by omega), f3.L (by omega)⟩
  have hH3 : RHo g3 ad 0 h := hR.2.1.eq eR (by rw [e3, upd_ne _ _ (by omega), upd_ne _ _ (by omega), upd_ne _ _ (by omega)]) (by rw [e3, upd_ne _ _ (by omega), upd_ne _ _ (by omega), upd_ne _ _ (by omega)])
  have hH4 : RHo g4 ad 0 h := hH3.eq (fun r r1 r2 => ⟨fA.I (nf r (by omega)), fA.L (nf r (by omega))⟩) (by rw [fA.I (nf _ (by omega))]) (by rw [fA.I (nf _ (by omega))])
  have hK4 : RHo g4 ad 22 h := RHo.cp (o := 0) (o1 := 22) hH3 hW hwf n60 wc vA (by rw [e4, e3, upd_ne _ _ (by omega), upd_same, upd_ne _ _ (by omega), upd_ne _ _ (by omega), upd_ne _ _ (by omega)]) (by rw [e4, e3, upd_same, upd_ne _ _ (by omega), upd_ne _ _ (by omega), upd_ne _ _ (by omega)])
  exact ⟨g4, w, fT, fun m1 od => ⟨hR.1.fr fT.1, hH4, by rw [e4, upd_ne _ _ (by omega), upd_ne _ _ (by omega), upd_same], hK4.cut hwf od⟩⟩
theorem m_back {N : Nat} (hN : 40000 ≤ N) {S : Hs} {g : Hg} {ad : Nat → Nat} (hI : Inj ad) {h : AHo} {k : (Nat × Nat) × AHo} (hR : RJ S g ad h (some k)) (hW : HoW k.2) (hwf : ∀ i, i < k.2.1.1 → LogWf (k.2.1.2 i)) (n60 : k.2.2.2.2.1.1 ≤ 60) (wc : ∀ i, i < 8 → (k.2.2.2.2.2 i).1 = true → (k.2.2.2.2.2 i).2.2.1.2 ≤ 400) :
    ∃ g1, f_X12_back N S g (ad 20000) = some (nI 1, g1) ∧ Fr ad (fun q => 20000 ≤ q) g g1 ∧ ∀ (od : Nat → Nat → Nat), RJ S g1 ad (cpH k.2 od) (some k) := by
  have v21 : g.1 (ad 20000) 21 = nI 1 := hR.2.2.1
  let g3 : Hg := rowI g (ad 20000) (upd (upd (g.1 (ad 20000)) 1 (g.1 (ad 20000) 23)) 16 (g.1 (ad 20000) 38))
  have f3 : Fr ad (fun r => r = 20000) g g3 := Fr.row hI rfl
  have e3 : g3.1 (ad 20000) = upd (upd (g.1 (ad 20000)) 1 (g.1 (ad 20000) 23)) 16 (g.1 (ad 20000) 38) := rowI_same _ _ _
  have hR3 : RfP S g3 ad := hR.1.fr f3.1
  have hI' := hI
  have i0 : ∀ g, f_X12_ints N S g (ad 20023) (ad 20001) = some ((), cpR ad 20023 20001 (0, 0) g) := fun g => m_ints (k := 0) hN hI g (Or.inr rfl) (hR.1.l 22 (by decide) rfl) (hR.1.l 0 (by decide) rfl) (by decide)
  have i2 : ∀ g, f_X12_ints N S g (ad 20025) (ad 20003) = some ((), cpR ad 20023 20001 (2, 0) g) := fun g => m_ints (k := 2) hN hI g (Or.inr rfl) (hR.1.l 24 (by decide) rfl) (hR.1.l 2 (by decide) rfl) (by decide)
  have i3 : ∀ g, f_X12_longs N S g (ad 20026) (ad 20004) = some ((), cpR ad 20023 20001 (3, 1) g) := fun g => m_longs (k := 3) hN hI g (Or.inr rfl) (hR.1.l 25 (by decide) rfl) (hR.1.l 3 (by decide) rfl) (by decide)
  have i4 : ∀ g, f_X12_truths N S g (ad 20027) (ad 20005) = some ((), cpR ad 20023 20001 (4, 2) g) := fun g => m_truths (k := 4) hN hI g (Or.inr rfl) (hR.1.l 26 (by decide) rfl) (hR.1.l 4 (by decide) rfl) (by decide)
  have i5 : ∀ g, f_X12_truths N S g (ad 20028) (ad 20006) = some ((), cpR ad 20023 20001 (5, 2) g) := fun g => m_truths (k := 5) hN hI g (Or.inr rfl) (hR.1.l 27 (by decide) rfl) (hR.1.l 5 (by decide) rfl) (by decide)
  have i6 : ∀ g, f_X12_ints N S g (ad 20029) (ad 20007) = some ((), cpR ad 20023 20001 (6, 0) g) := fun g => m_ints (k := 6) hN hI g (Or.inr rfl) (hR.1.l 28 (by decide) rfl) (hR.1.l 6 (by decide) rfl) (by decide)
  have i7 : ∀ g, f_X12_ints N S g (ad 20030) (ad 20008) = some ((), cpR ad 20023 20001 (7, 0) g) := fun g => m_ints (k := 7) hN hI g (Or.inr rfl) (hR.1.l 29 (by decide) rfl) (hR.1.l 7 (by decide) rfl) (by decide)
  have i8 : ∀ g, f_X12_truths N S g (ad 20031) (ad 20009) = some ((), cpR ad 20023 20001 (8, 2) g) := fun g => m_truths (k := 8) hN hI g (Or.inr rfl) (hR.1.l 30 (by decide) rfl) (hR.1.l 8 (by decide) rfl) (by decide)
  have i9 : ∀ g, f_X12_ints N S g (ad 20032) (ad 20010) = some ((), cpR ad 20023 20001 (9, 0) g) := fun g => m_ints (k := 9) hN hI g (Or.inr rfl) (hR.1.l 31 (by decide) rfl) (hR.1.l 9 (by decide) rfl) (by decide)
  have i10 : ∀ g, f_X12_ints N S g (ad 20033) (ad 20011) = some ((), cpR ad 20023 20001 (10, 0) g) := fun g => m_ints (k := 10) hN hI g (Or.inr rfl) (hR.1.l 32 (by decide) rfl) (hR.1.l 10 (by decide) rfl) (by decide)
  have i11 : ∀ g, f_X12_longs N S g (ad 20034) (ad 20012) = some ((), cpR ad 20023 20001 (11, 1) g) := fun g => m_longs (k := 11) hN hI g (Or.inr rfl) (hR.1.l 33 (by decide) rfl) (hR.1.l 11 (by decide) rfl) (by decide)
  have i12 : ∀ g, f_X12_ints N S g (ad 20035) (ad 20013) = some ((), cpR ad 20023 20001 (12, 0) g) := fun g => m_ints (k := 12) hN hI g (Or.inr rfl) (hR.1.l 34 (by decide) rfl) (hR.1.l 12 (by decide) rfl) (by decide)
  have i13 : ∀ g, f_X12_ints N S g (ad 20036) (ad 20014) = some ((), cpR ad 20023 20001 (13, 0) g) := fun g => m_ints (k := 13) hN hI g (Or.inr rfl) (hR.1.l 35 (by decide) rfl) (hR.1.l 13 (by decide) rfl) (by decide)
  have i14 : ∀ g, f_X12_truths N S g (ad 20037) (ad 20015) = some ((), cpR ad 20023 20001 (14, 2) g) := fun g => m_truths (k := 14) hN hI g (Or.inr rfl) (hR.1.l 36 (by decide) rfl) (hR.1.l 14 (by decide) rfl) (by decide)
  have i15 : ∀ g, f_X12_ints N S g (ad 20038) (ad 20016) = some ((), cpR ad 20023 20001 (15, 0) g) := fun g => m_ints (k := 15) hN hI g (Or.inr rfl) (hR.1.l 37 (by decide) rfl) (hR.1.l 15 (by decide) rfl) (by decide)
  have i17 : ∀ g, f_X12_ints N S g (ad 20040) (ad 20018) = some ((), cpR ad 20023 20001 (17, 0) g) := fun g => m_ints (k := 17) hN hI g (Or.inr rfl) (hR.1.l 39 (by decide) rfl) (hR.1.l 17 (by decide) rfl) (by decide)
  have i18 : ∀ g, f_X12_truths N S g (ad 20041) (ad 20019) = some ((), cpR ad 20023 20001 (18, 2) g) := fun g => m_truths (k := 18) hN hI g (Or.inr rfl) (hR.1.l 40 (by decide) rfl) (hR.1.l 18 (by decide) rfl) (by decide)
  have i19 : ∀ g, f_X12_ints N S g (ad 20042) (ad 20020) = some ((), cpR ad 20023 20001 (19, 0) g) := fun g => m_ints (k := 19) hN hI g (Or.inr rfl) (hR.1.l 41 (by decide) rfl) (hR.1.l 19 (by decide) rfl) (by decide)
  have i20 : ∀ g, f_X12_ints N S g (ad 20043) (ad 20021) = some ((), cpR ad 20023 20001 (20, 0) g) := fun g => m_ints (k := 20) hN hI g (Or.inr rfl) (hR.1.l 42 (by decide) rfl) (hR.1.l 20 (by decide) rfl) (by decide)
  have q0 : rdR g3 (ad 20000) 0 = some (ad 20001) := hR3.p 0 (by decide)
  have q22 : rdR g3 (ad 20000) 22 = some (ad 20023) := hR3.p 22 (by decide)
  have q2 : rdR g3 (ad 20000) 2 = some (ad 20003) := hR3.p 2 (by decide)
  have q24 : rdR g3 (ad 20000) 24 = some (ad 20025) := hR3.p 24 (by decide)
  have q3 : rdR g3 (ad 20000) 3 = some (ad 20004) := hR3.p 3 (by decide)
  have q25 : rdR g3 (ad 20000) 25 = some (ad 20026) := hR3.p 25 (by decide)
  have q4 : rdR g3 (ad 20000) 4 = some (ad 20005) := hR3.p 4 (by decide)
  have q26 : rdR g3 (ad 20000) 26 = some (ad 20027) := hR3.p 26 (by decide)
  have q5 : rdR g3 (ad 20000) 5 = some (ad 20006) := hR3.p 5 (by decide)
  have q27 : rdR g3 (ad 20000) 27 = some (ad 20028) := hR3.p 27 (by decide)
  have q6 : rdR g3 (ad 20000) 6 = some (ad 20007) := hR3.p 6 (by decide)
  have q28 : rdR g3 (ad 20000) 28 = some (ad 20029) := hR3.p 28 (by decide)
  have q7 : rdR g3 (ad 20000) 7 = some (ad 20008) := hR3.p 7 (by decide)
  have q29 : rdR g3 (ad 20000) 29 = some (ad 20030) := hR3.p 29 (by decide)
  have q8 : rdR g3 (ad 20000) 8 = some (ad 20009) := hR3.p 8 (by decide)
  have q30 : rdR g3 (ad 20000) 30 = some (ad 20031) := hR3.p 30 (by decide)
  have q9 : rdR g3 (ad 20000) 9 = some (ad 20010) := hR3.p 9 (by decide)
  have q31 : rdR g3 (ad 20000) 31 = some (ad 20032) := hR3.p 31 (by decide)
  have q10 : rdR g3 (ad 20000) 10 = some (ad 20011) := hR3.p 10 (by decide)
  have q32 : rdR g3 (ad 20000) 32 = some (ad 20033) := hR3.p 32 (by decide)
  have q11 : rdR g3 (ad 20000) 11 = some (ad 20012) := hR3.p 11 (by decide)
  have q33 : rdR g3 (ad 20000) 33 = some (ad 20034) := hR3.p 33 (by decide)
  have q12 : rdR g3 (ad 20000) 12 = some (ad 20013) := hR3.p 12 (by decide)
  have q34 : rdR g3 (ad 20000) 34 = some (ad 20035) := hR3.p 34 (by decide)
  have q13 : rdR g3 (ad 20000) 13 = some (ad 20014) := hR3.p 13 (by decide)
  have q35 : rdR g3 (ad 20000) 35 = some (ad 20036) := hR3.p 35 (by decide)
  have q14 : rdR g3 (ad 20000) 14 = some (ad 20015) := hR3.p 14 (by decide)
  have q36 : rdR g3 (ad 20000) 36 = some (ad 20037) := hR3.p 36 (by decide)
  have q15 : rdR g3 (ad 20000) 15 = some (ad 20016) := hR3.p 15 (by decide)
  have q37 : rdR g3 (ad 20000) 37 = some (ad 20038) := hR3.p 37 (by decide)
  have q17 : rdR g3 (ad 20000) 17 = some (ad 20018) := hR3.p 17 (by decide)
  have q39 : rdR g3 (ad 20000) 39 = some (ad 20040) := hR3.p 39 (by decide)
  have q18 : rdR g3 (ad 20000) 18 = some (ad 20019) := hR3.p 18 (by decide)
  have q40 : rdR g3 (ad 20000) 40 = some (ad 20041) := hR3.p 40 (by decide)
  have q19 : rdR g3 (ad 20000) 19 = some (ad 20020) := hR3.p 19 (by decide)
  have q41 : rdR g3 (ad 20000) 41 = some (ad 20042) := hR3.p 41 (by decide)
  have q20 : rdR g3 (ad 20000) 20 = some (ad 20021) := hR3.p 20 (by decide)
  have q42 : rdR g3 (ad 20000) 42 = some (ad 20043) := hR3.p 42 (by decide)
  have fA := cpA_fr hI 20023 20001 cpFL g3
  have vA := cpA_v hI 20023 20001 (Or.inr rfl) cpFL g3 cpFL_22 cpFL_nd
  have w : f_X12_back N S g (ad 20000) = some (nI 1, cpA ad 20023 20001 cpFL g3) := by
    show b_X12_back_0 N S g _ = _
    unfold b_X12_back_0
    rw [show (rdI g (ad 20000) 21) = nI 1 from v21, if_neg z10, nm_D, nm_D]
    have e : wrI (wrI g (ad 20000) 1 (rdI g (ad 20000) 23)) (ad 20000) 16 (rdI (wrI g (ad 20000) 1 (rdI g (ad 20000) 23)) (ad 20000) 38) = g3 := by
      simp (disch := (first | assumption | omega | (apply Inj.ne <;> first | assumption | omega) | fail)) only [nn_S, nm_D, ck_T, c2_S, on_N, on_S, lit, mNEG, nI_add, pk_mul, inb_nI, nI_clamp, wrI_row, wrL_row, rdR_rowI, rdR_rowL, rdI_def, rdL_def, rowI_same, rowI_ne, rowI_rowI, rowL_same, rowL_ne, rowL_1, rowI_21, upd_same, upd_ne, nI_le_T, nI_le_F, nI_lt_T, nI_lt_F, nI_eq_F, nI_NEG, NEG_lt0, nI_p, eq_self, if_true, if_false]
      rfl
    rw [e]
    simp only [cpR_P, q0, q22, q2, q24, q3, q25, q4, q26, q5, q27, q6, q28, q7, q29, q8, q30, q9, q31, q10, q32, q11, q33, q12, q34, q13, q35, q14, q36, q15, q37, q17, q39, q18, q40, q19, q41, q20, q42, nn_S, i0, i2, i3, i4, i5, i6, i7, i8, i9, i10, i11, i12, i13, i14, i15, i17, i18, i19, i20, c2_S]
    rfl
  generalize hg4 : cpA ad 20023 20001 cpFL g3 = g4 at *
  have nf : ∀ r, r < 20001 ∨ 20021 < r → ¬ (∃ e, e ∈ cpFL ∧ r = 20001 + e.1) := fun r hr ⟨e, h1, h2⟩ => by
    have h20 : e.1 ≤ 20 := (show ∀ e, e ∈ cpFL → e.1 ≤ 20 by decide) e h1
    omega
  have e4 : g4.1 (ad 20000) = upd (upd (g.1 (ad 20000)) 1 (g.1 (ad 20000) 23)) 16 (g.1 (ad 20000) 38) := (fA.I (nf _ (by omega))).trans e3
  have fT : Fr ad (fun q => 20000 ≤ q) g g4 := (f3.mono (fun q hq => by omega)).tr (fA.mono (fun q ⟨e, h1, h2⟩ => by omega))
  have hK3 : RHo g3 ad 22 k.2 := hR.2.2.2.eq (fun r r1 r2 => ⟨f3.I (by omega), f3.L (by omega)⟩) (by rw [e3, upd_ne _ _ (by omega), upd_ne _ _ (by omega)]) (by rw [e3, upd_ne _ _ (by omega), upd_ne _ _ (by omega)])
  have hK4 : RHo g4 ad 22 k.2 := hK3.eq (fun r r1 r2 => ⟨fA.I (nf r (by omega)), fA.L (nf r (by omega))⟩) (by rw [fA.I (nf _ (by omega))]) (by rw [fA.I (nf _ (by omega))])
  have hH4 : RHo g4 ad 0 k.2 := RHo.cp (o := 22) (o1 := 0) hK3 hW hwf n60 wc vA (by rw [e4, e3, upd_ne _ _ (by omega), upd_same, upd_ne _ _ (by omega), upd_ne _ _ (by omega)]) (by rw [e4, e3, upd_same, upd_ne _ _ (by omega), upd_ne _ _ (by omega)])
  exact ⟨g4, w, fT, fun od => ⟨hR.1.fr fT.1, hH4.cut hwf od, by rw [e4, upd_ne _ _ (by omega), upd_ne _ _ (by omega)]; exact v21, hK4⟩⟩
theorem SlWf.b {h : AHo} (hW : HoW h) : ∀ s, s < 16 → (h.2.1 s).2.1.1 ≤ 40 ∧ (h.2.1 s).2.2.1 ≤ 256 := fun s hs => ⟨(hW.2.1 s hs).1, (hW.2.1 s hs).2.1⟩
theorem HoW.wl {h : AHo} (hW : HoW h) : ∀ w, w < 8 → (h.2.2.2.2 w).1 = true → wlg (h.2.2.2.2 w) < h.1.1 := fun w hw ht => by
  obtain ⟨l, l1, l2, l3⟩ := hW.2.2.2 w hw ht
  have := hW.1
  rw [wlg_eq (by omega) l2]
  exact l1
theorem CHo.wf {S : Hs} {g : Hg} {ad : Nat → Nat} {b : Nat} {m : Nat × Nat} {h : AHo} (hC : CHo S g ad b m h) : (∀ i, i < h.1.1 → LogWf (h.1.2 i)) ∧ h.2.2.2.1.1 ≤ 60 := ⟨fun i hi => (hC.2.2.1.2.2.2.2 i hi).2.2, Nat.le_trans hC.2.2.2.2.2.1.1 hC.2.2.2.2.2.1.2.1⟩
theorem HoW.wc {h : AHo} (hW : HoW h) (hwf : ∀ i, i < h.1.1 → LogWf (h.1.2 i)) : ∀ i, i < 8 → (h.2.2.2.2 i).1 = true → (h.2.2.2.2 i).2.2.1.2 ≤ 400 := fun i hi ht => by
  obtain ⟨l, l1, l2, l3⟩ := hW.2.2.2 i hi ht
  have a1 := l3.cnt
  have a2 := l3.1
  have a3 := (hwf l l1).1
  omega
theorem c_img18 {B N : Nat} (hN : 40000 ≤ N) {S : Hs} {g : Hg} {ad : Nat → Nat} {m : Nat × Nat} {h : AHo} {k : (Nat × Nat) × AHo} (hC : CJ B S g ad m h (some k)) (hW : HoW h) :
    ∃ ad1 S1 g1 kk w m1, ∃ od : Nat → Nat → Nat, b_X11_image_18 N S g (ad 0) = some (nI 1, S1, g1, kk, w) ∧ Mv (fun r => 5100 ≤ r ∧ r < 6300) ad S g ad1 S1 g1 ∧ CJ B S1 g1 ad1 m h (some (m1, cpH h od)) ∧ 4 * kk + phi S1 ad1 m (some (m1, cpH h od)) ≤ phi S ad m (some k) ∧ w + phi S1 ad1 m (some (m1, cpH h od)) ≤ phi S ad m (some k) := by
  have hroom := hC.1.2
  have hph : phi S ad m (some k) = phH S ad 100 m + (4096 - 2 * hpL S (ad 23)) + phH S ad 5100 k.1 := rfl
  have p6 : rdR g (ad 0) 6 = some (ad 5100) := hC.2.2.2.1
  obtain ⟨ad1, S1, g1, kk, w, m1, od, a1, a2, a3, a4, a5, a6, a7, a8⟩ := c_hcopy (N := N) (B := B) hN (b := 5100) (c := 100) (by omega) (by omega) (SlWf.b hW) hW.wl hC.1.1 (by omega) hC.2.2.2.2 hC.2.2.1
  have a2' : Mv (fun r => 5100 ≤ r ∧ r < 6300) ad S g ad1 S1 g1 := a2.mono (fun r hr => by omega)
  have hph1 : phi S1 ad1 m (some (m1, cpH h od)) = phH S ad 100 m + (4096 - 2 * hpL S (ad 23)) + phH S1 ad1 5100 m1 := by
    show phH S1 ad1 100 m + (4096 - 2 * hpL S1 (ad1 23)) + phH S1 ad1 5100 m1 = _
    rw [show hpL S1 (ad1 23) = hpL S (ad 23) from a2'.len (by omega)]
    unfold phH
    rw [phS_mv (b := 100) a2' (fun r r1 r2 => by omega)]
  have e0 : ad1 0 = ad 0 := a2'.ad (by omega)
  obtain ⟨c1, ⟨c2, c3, c4⟩, c5', c6⟩ := id hC
  refine ⟨ad1, S1, g1, kk + 0, w + 0, m1, od, ?_, a2', ⟨⟨a3, by omega⟩, ⟨c2.mv a2' (fun r hr => by omega) ⟨a2'.ad (by omega), a2'.ad (by omega), a2'.ad (by omega)⟩, c3.mv a2' (fun r r1 r2 => by omega), c4.mv a2' (fun r r1 r2 => by omega)⟩, c5'.mv a2' (fun r r1 r2 => by omega), ?_, a5⟩, by omega, by omega⟩
  · unfold b_X11_image_18
    rw [p6, nn_S, hC.p3, nn_S, a1, c5_S, tk_S]
    rfl
  · rw [a2'.R (by omega) 6, p6, a4]
theorem c_imgNew {B N : Nat} (hN : 40000 ≤ N) {S : Hs} {g : Hg} {ad : Nat → Nat} {m : Nat × Nat} {h : AHo} (hC : CJ B S g ad m h none) :
    ∃ ad1 S1 g1, (∀ {ρ : Type} (k : Hs → Hg → Option (ρ × Hs × Hg × Nat × Nat)), al S g 1 9 (fun a S_2 g_3 => c5 (f_X1_init N S_2 g_3 a) (fun _ S_10 g_8 => nm (wrR g_8 (ad 0) 6 (some a)) (fun g_17 => k S_10 g_17))) = tk 136 7331 (k S1 g1)) ∧ Mv (fun r => r = 0 ∨ 5100 ≤ r ∧ r < 6300) ad S g ad1 S1 g1 ∧ ad1 0 = ad 0 ∧ CJ B S1 g1 ad1 m h (some ((0, 0), hNew)) ∧ 7331 + phi S1 ad1 m (some ((0, 0), hNew)) ≤ phi S ad m none := by
  have hroom := hC.1.2
  have hph : phi S ad m none = phH S ad 100 m + (4096 - 2 * hpL S (ad 23)) + 160000 := rfl
  obtain ⟨ad1, S1, g1, a1, a2, a3, a4, a5, a6⟩ := c_newHouse (B := B) (S := S) (g := g) (ad := ad) hN 5100 hC.1.1 (by omega)
  have a2' : Mv (fun r => 5100 ≤ r ∧ r < 6300) ad S g ad1 S1 g1 := a2.mono (fun r hr => by omega)
  have e0 : ad1 0 = ad 0 := a2'.ad (by omega)
  let g2 : Hg := wrR g1 (ad1 0) 6 (some (ad1 5100))
  have m2 : Mv (fun r => r = 0) ad1 S1 g1 ad1 S1 g2 := wrR_mv a3.1
  have hw : ∀ a k, k ≠ 6 → rdR g2 a k = rdR g1 a k := fun a k hk => by
    show rdR (wrR g1 _ _ _) _ _ = _
    rw [wrR_rd, if_neg (fun h => hk h.2)]
  have hph1 : phi S1 ad1 m (some ((0, 0), hNew)) = phH S ad 100 m + (4096 - 2 * hpL S (ad 23)) + 139440 := by
    show phH S1 ad1 100 m + (4096 - 2 * hpL S1 (ad1 23)) + phH S1 ad1 5100 (0, 0) = _
    rw [show hpL S1 (ad1 23) = hpL S (ad 23) from a2'.len (by omega)]
    unfold phH
    rw [phS_mv (b := 100) a2' (fun r r1 r2 => by omega), a6]
    rfl
  obtain ⟨c1, ⟨c2, c3, c4⟩, c5', c6⟩ := id hC
  have s1 : ScP S1 g1 ad1 := c2.mv a2' (fun r hr => by omega) ⟨a2'.ad (by omega), a2'.ad (by omega), a2'.ad (by omega)⟩
  have s2 : ScP S1 g2 ad1 := by
    unfold ScP at s1 ⊢
    simp (disch := decide) only [hw]
    exact s1
  refine ⟨ad1, S1, g2, fun k => ?_, (a2'.mono (fun r hr => by omega)).tr (m2.mono (fun r hr => by omega)), e0, ⟨⟨a3, by omega⟩, ⟨s2, (c3.mv a2' (fun r r1 r2 => by omega)).mv m2 (fun r r1 r2 => by omega), (c4.mv a2' (fun r r1 r2 => by omega)).mv m2 (fun r r1 r2 => by omega)⟩, (c5'.mv a2' (fun r r1 r2 => by omega)).mv m2 (fun r r1 r2 => by omega), ?_, a5.mv m2 (fun r r1 r2 => by omega)⟩, by omega⟩
  · rw [a1, nm_D, ← e0]
  · show rdR (wrR g1 _ _ _) _ _ = _
    rw [wrR_rd, if_pos ⟨rfl, rfl⟩]
theorem t_image {B N : Nat} (hN : 40000 ≤ N) {S : Hs} {g : Hg} {ad : Nat → Nat} {m : Nat × Nat} {h : AHo} {kc : AKp} (hJ : Jn B S g ad m h kc)  : StM B S g ad m kc (fun S g => f_X11_image N S g (ad 0)) (fun S g => f_X12_image N S g (ad 20000)) := by
  obtain ⟨hC, hR, hW, hK⟩ := id hJ
  have h6 := hW.1
  have hI := hC.inj
  have nl := hR.nl
  have hwf := hC.wf
  have wc := hJ.wc
  have n60 := hC.nb60
  match kc, hJ, hC, hR with
  | some k, hJ, hC, hR =>
    obtain ⟨ad1, S1, g1, kk, w, m1, od, a1, a2, a3, a4, a5⟩ := c_img18 (N := N) hN hC hW
    have e0 : ad1 0 = ad 0 := a2.ad (by omega)
    have e2 : ad1 20000 = ad 20000 := a2.ad (by omega)
    have hR1 := hR.mv a2 (fun q hq => by omega)
    obtain ⟨g2, b1, b2, b3⟩ := m_image (N := N) hN a3.inj hR1 hW hwf n60 wc
    rw [e2] at b1
    refine ⟨_, ad1, S1, g1, g2, kk, w, h, m, some (m1, cpH h od), ?_, b1, ⟨a3.fr b2 (fun q hq => by omega), b3 m1 od, hW, hW.cut od⟩, e0, e2, a4, a5⟩
    show b_X11_image_0 N S g _ = _
    unfold b_X11_image_0
    rw [show rdR g (ad 0) 6 = some (ad 5100) from hC.2.2.2.1, nm_D, on_S]
    exact a1
  | none, hJ, hC, hR =>
    obtain ⟨ad1, S1, g1, a1, a2, a3, a4, a5⟩ := c_imgNew (N := N) hN hC
    obtain ⟨ad2, S2, g2, kk, w, m1, od, b1, b2, b3, b4, b5⟩ := c_img18 (N := N) hN a4 hW
    have mT : Mv (fun r => r < 20000) ad S g ad2 S2 g2 := (a2.mono (fun r hr => by omega)).tr (b2.mono (fun r hr => by omega))
    have e0 : ad2 0 = ad 0 := (b2.ad (by omega)).trans a3
    have e2 : ad2 20000 = ad 20000 := mT.ad (by omega)
    have hR1 := hR.mv mT (fun q hq => hq)
    obtain ⟨g3, c1, c2', c3⟩ := m_image (N := N) hN b3.inj hR1 hW hwf n60 wc
    rw [e2] at c1
    refine ⟨_, ad2, S2, g2, g3, 136 + kk, 7331 + w, h, m, some (m1, cpH h od), ?_, c1, ⟨b3.fr c2' (fun q hq => by omega), c3 m1 od, hW, hW.cut od⟩, e0, e2, by omega, by omega⟩
    show b_X11_image_0 N S g _ = _
    unfold b_X11_image_0
    rw [show rdR g (ad 0) 6 = none from hC.2.2.2, nm_D, on_N, a1 (fun S_12 g_17 => b_X11_image_18 N S_12 g_17 (ad 0)), ← a3, b1, tk_S]
theorem t_back {B N : Nat} (hN : 40000 ≤ N) {S : Hs} {g : Hg} {ad : Nat → Nat} {m : Nat × Nat} {h : AHo} {kc : AKp} (hJ : Jn B S g ad m h kc)  : StM B S g ad m kc (fun S g => f_X11_back N S g (ad 0)) (fun S g => f_X12_back N S g (ad 20000)) := by
  obtain ⟨hC, hR, hW, hK⟩ := id hJ
  have h6 := hW.1
  have hI := hC.inj
  have nl := hR.nl
  match kc, hJ, hC, hR, hK with
  | none, hJ, hC, hR, hK =>
    refine StM.same hJ (r := nI 0) ?_ ?_
    · show b_X11_back_0 N S g _ = _
      unfold b_X11_back_0
      rw [show rdR g (ad 0) 6 = none from hC.2.2.2, nm_D, on_N]
      rfl
    · show b_X12_back_0 N S g _ = _
      unfold b_X12_back_0
      rw [show rdI g (ad 20000) 21 = nI 0 from hR.2.2, if_pos z00]
      rfl
  | some k, hJ, hC, hR, hK =>
    have hWk : HoW k.2 := hK
    obtain ⟨hwf, n60⟩ := CHo.wf hC.2.2.2.2
    have wc := hWk.wc hwf
    have hroom := hC.1.2
    have hph : phi S ad m (some k) = phH S ad 100 m + (4096 - 2 * hpL S (ad 23)) + phH S ad 5100 k.1 := rfl
    have p6 : rdR g (ad 0) 6 = some (ad 5100) := hC.2.2.2.1
    obtain ⟨ad1, S1, g1, kk, w, m1, od, a1, a2, a3, a4, a5, a6, a7, a8⟩ := c_hcopy (N := N) (B := B) hN (b := 100) (c := 5100) (by omega) (by omega) (SlWf.b hWk) hWk.wl hC.1.1 (by omega) hC.2.2.1 hC.2.2.2.2
    have a2' : Mv (fun r => 100 ≤ r ∧ r < 1300) ad S g ad1 S1 g1 := a2.mono (fun r hr => by omega)
    have hph1 : phi S1 ad1 m1 (some k) = phH S1 ad1 100 m1 + (4096 - 2 * hpL S (ad 23)) + phH S ad 5100 k.1 := by
      show phH S1 ad1 100 m1 + (4096 - 2 * hpL S1 (ad1 23)) + phH S1 ad1 5100 k.1 = _
      rw [show hpL S1 (ad1 23) = hpL S (ad 23) from a2'.len (by omega)]
      unfold phH
      rw [phS_mv (b := 5100) a2' (fun r r1 r2 => by omega)]
    have e0 : ad1 0 = ad 0 := a2'.ad (by omega)
    have e2 : ad1 20000 = ad 20000 := a2'.ad (by omega)
    obtain ⟨c1, ⟨c2', c3, c4⟩, c5', c6⟩ := id hC
    have hC1 : CJ B S1 g1 ad1 m1 (cpH k.2 od) (some k) := ⟨⟨a3, by omega⟩, ⟨c2'.mv a2' (fun r hr => by omega) ⟨a2'.ad (by omega), a2'.ad (by omega), a4⟩, c3.mv a2' (fun r r1 r2 => by omega), c4.mv a2' (fun r r1 r2 => by omega)⟩, a5, c6.mv a2' (fun r hr => by omega)⟩
    have hR1 := hR.mv a2' (fun q hq => by omega)
    obtain ⟨g2, b1, b2, b3⟩ := m_back (N := N) hN a3.1 hR1 hWk hwf n60 wc
    rw [e2] at b1
    refine ⟨_, ad1, S1, g1, g2, kk + 0, w + 0, cpH k.2 od, m1, some k, ?_, b1, ⟨hC1.fr b2 (fun q hq => by omega), b3 od, hWk.cut od, hK⟩, e0, e2, by omega, by omega⟩
    show b_X11_back_0 N S g _ = _
    unfold b_X11_back_0
    rw [p6, nm_D, on_S, hC.p3, nn_S, nn_S, a1, c5_S, tk_S]
    rfl
