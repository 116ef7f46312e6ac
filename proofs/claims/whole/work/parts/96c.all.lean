/-! smear, all, watchers -/
def setB (h : AHo) (k : Nat) (H : AHd) : AHo := (h.1, h.2.1, h.2.2.1, (h.2.2.2.1.1, h.2.2.2.1.2.1, va_up h.2.2.2.1.2.2 k H), h.2.2.2.2)
theorem CJ.bl2 {B : Nat} {R : Nat → Prop} {ad : Nat → Nat} {S : Hs} {g g1 : Hg} {m : Nat × Nat} {h : AHo} {kc : AKp} {k : Nat} {H : AHd} (hC : CJ B S g ad m h kc) (hk : k < h.2.2.2.1.1) (hf : Fr ad R g g1) (n : ∀ r, R r → 1000 + 4 * k ≤ r ∧ r < 1004 + 4 * k) (hH : HdO S g1 ad (1000 + 4 * k) H) : CJ B S g1 ad m (setB h k H) kc := by
  have n60 := hC.nb60
  obtain ⟨c1, ⟨c2, c3, c4⟩, ⟨d1, d2, d3, d4, d5, d6, d7⟩, c6⟩ := hC
  have hm := Mv.fr (S := S) hf
  refine ⟨c1, ⟨c2.fr hf.1, c3.fr hf.1, c4.fr hf.1⟩, ⟨d1.fr hf.1, d2.fr hf (fun q => by have := n _ q; omega), d3.mv hm (fun r h q => by have := n r q; omega), d4.mv hm (fun r h q => by have := n r q; omega), d5.mv hm (fun r h q => by have := n r q; omega), ?_, d7.mv hm (fun r h q => by have := n r q; omega)⟩, c6.fr hf (fun r r1 r2 q => by have := n r q; omega)⟩
  obtain ⟨e1, e2, e3, e4, e5⟩ := d6
  refine ⟨e1, e2, fun i hi => by rw [hf.P, hf.P]; exact e3 i hi, fun i hi => ⟨(e4 i hi).1.fr hf.1, (e4 i hi).2.fr hf.1⟩, fun i hi => ⟨(e5 i hi).1.fr hf (fun r r1 r2 q => by have := n r q; have : i < h.2.2.2.1.1 := hi; omega), ?_⟩⟩
  show HdO S g1 ad (100 + 900 + 4 * i) (va_up h.2.2.2.1.2.2 k H i)
  by_cases c : i = k
  · subst c; rw [va_same]; exact hH
  · rw [va_ne _ _ c]
    exact (e5 i hi).2.fr hf (fun r r1 r2 q => by have := n r q; omega)
theorem RJ.bl2 {S : Hs} {g g1 : Hg} {ad : Nat → Nat} {h : AHo} {kc : AKp} {k : Nat} {H : AHd} (hR : RJ S g ad h kc) (hk : k < h.2.2.2.1.1) (hf : Fr ad (fun r => r = 20016) g g1) (ho : ∀ j, j < 56 * k + 28 ∨ 56 * k + 56 ≤ j → g1.1 (ad 20016) j = g.1 (ad 20016) j) (hH : RHd g1 ad 20016 (56 * k + 28) H) : RJ S g1 ad (setB h k H) kc := by
  obtain ⟨h1, ⟨⟨a1, a2⟩, b1, c1, ⟨d1, d2⟩, e1⟩, h3⟩ := hR
  have e : ∀ r, 20001 ≤ r → r ≤ 20043 → r ≠ 20016 → g1.1 (ad r) = g.1 (ad r) ∧ g1.2.1 (ad r) = g.2.1 (ad r) := fun r r1 r2 r3 => ⟨hf.I (by omega), hf.L (by omega)⟩
  have e0 : g1.1 (ad 20000) = g.1 (ad 20000) := hf.I (by omega)
  refine ⟨h1.fr hf.1, ⟨⟨by rw [e0]; exact a1, fun i hi => (a2 i hi).eq (fun r r1 r2 => e r (by omega) (by omega) (by omega))⟩, ?_, ?_, ⟨by rw [e0]; exact d1, fun i hi => ?_⟩, ?_⟩, h3.eq (fun r r1 r2 => e r (by omega) (by omega) (by omega)) (fun k hk => by rw [e0])⟩
  · show RSs g1 ad 0 h.2.1
    unfold RSs RSl RSt
    rw [(e 20010 (by omega) (by omega) (by omega)).1, (e 20011 (by omega) (by omega) (by omega)).1, (e 20012 (by omega) (by omega) (by omega)).2, (e 20013 (by omega) (by omega) (by omega)).1]
    exact b1
  · show RRd g1 ad 0 h.2.2.1.1 h.2.2.1.2
    unfold RRd RHd
    rw [(e 20014 (by omega) (by omega) (by omega)).1, (e 20015 (by omega) (by omega) (by omega)).1]
    exact c1
  · show RHd g1 ad 20016 (56 * i) (h.2.2.2.1.2.1 i) ∧ RHd g1 ad 20016 (56 * i + 28) (va_up h.2.2.2.1.2.2 k H i)
    have hd : RHd g ad 20016 (56 * i) (h.2.2.2.1.2.1 i) ∧ RHd g ad 20016 (56 * i + 28) (h.2.2.2.1.2.2 i) := d2 i hi
    refine ⟨hd.1.row (fun j hj => ho _ (by omega)), ?_⟩
    by_cases c : i = k
    · subst c; rw [va_same]; exact hH
    · rw [va_ne _ _ c]
      exact hd.2.row (fun j hj => ho _ (by omega))
  · show RWt g1 ad 0 _
    unfold RWt
    rw [(e 20018 (by omega) (by omega) (by omega)).1, (e 20019 (by omega) (by omega) (by omega)).1, (e 20020 (by omega) (by omega) (by omega)).1, (e 20021 (by omega) (by omega) (by omega)).1]
    exact e1
def smrH (H : AHd) (j : Nat) (mask : Int32) : AHd := (H.1, H.2.1, (H.2.2.1, H.2.2.2.1, upd H.2.2.2.2 j (H.2.2.2.2 j ^^^ mask)))
theorem t_smear {B N : Nat} (hN : 40000 ≤ N) {S : Hs} {g : Hg} {ad : Nat → Nat} {m : Nat × Nat} {h : AHo} {kc : AKp} (hJ : Jn B S g ad m h kc) (x1 : Int32) (x2 : Int32) (x3 : Int32) : StN B S g ad m kc (fun g => f_X11_smear N S g (ad 0) x1 x2 x3) (fun g => f_X12_smear N S g (ad 20000) x1 x2 x3) := by
  obtain ⟨hC, hR, hW, hK⟩ := id hJ
  have h6 := hW.1
  have hI := hC.inj
  have nl := hR.nl
  have n60 := hC.nb60
  have nbr := hR.nb
  have bad : x1 < 0 ∨ nI h.2.2.2.1.1 ≤ x1 → StN B S g ad m kc (fun g => f_X11_smear N S g (ad 0) x1 x2 x3) (fun g => f_X12_smear N S g (ad 20000) x1 x2 x3) := fun hx => by
    refine StN.same hJ (r := nI 0) ?_ ?_
    · show b_X11_smear_0 N S g _ _ _ _ = _
      unfold b_X11_smear_0
      rw [hC.p3, nn_S, c_secondBlamedF hC.2.2.1.2.1 hx, c2_S, on_N]
      rfl
    · show b_X12_smear_0 N S g _ _ _ _ = _
      unfold b_X12_smear_0
      rw [rdI_def, nbr]
      by_cases c : x1 < 0
      · rw [if_pos c]; rfl
      · rw [if_neg c, if_pos (hx.resolve_left c)]; rfl
  rcases pk_ix x1 (show h.2.2.2.1.1 < 2 ^ 31 by omega) with c | c | ⟨k, hk, rfl⟩
  · exact bad (Or.inl c)
  · exact bad (Or.inr c)
  have ck0 : ¬ nI k < (0 : Int32) := nI_pos (by omega)
  have ckn : ¬ nI h.2.2.2.1.1 ≤ nI k := nI_ge hk (by omega)
  have badJ : x2 < 0 ∨ nI 8 ≤ x2 → StN B S g ad m kc (fun g => f_X11_smear N S g (ad 0) (nI k) x2 x3) (fun g => f_X12_smear N S g (ad 20000) (nI k) x2 x3) := fun hx => by
    refine StN.same hJ (r := nI 0) ?_ ?_
    · show b_X11_smear_0 N S g _ _ _ _ = _
      unfold b_X11_smear_0
      rw [hC.p3, nn_S, hC.b2 hk, c2_S, on_S, c_placeF hx, c2_S, if_pos z00]
      rfl
    · show b_X12_smear_0 N S g _ _ _ _ = _
      unfold b_X12_smear_0
      rw [rdI_def, nbr, if_neg ck0, if_neg ckn]
      by_cases c : x2 < 0
      · rw [if_pos c]; rfl
      · rw [if_neg c, if_neg (fun e : x2 ≤ (7 : Int32) => absurd (ge_gt (m := 7) (by decide) (hx.resolve_left c)).1 (Int32.not_lt.mpr e))]; rfl
  rcases pk_ix x2 (show 8 < 2 ^ 31 by decide) with c | c | ⟨j, hj, rfl⟩
  · exact badJ (Or.inl c)
  · exact badJ (Or.inr c)
  obtain ⟨hH1, hH2⟩ := hC.bo hk
  have hp2 : rdR g (ad (1000 + 4 * k)) 2 = some (ad (1000 + 4 * k + 3)) := hH2.1.2.2.1
  have hl : hpL S (ad (1000 + 4 * k + 3)) = 8 := hH2.1.2.2.2.2.2
  have vc : g.1 (ad (1000 + 4 * k + 3)) j = (h.2.2.2.1.2.2 k).2.2.2.2 j := hH2.2.2.2.2 j hj
  let v := (h.2.2.2.1.2.2 k).2.2.2.2 j ^^^ x3
  let H := smrH (h.2.2.2.1.2.2 k) j x3
  let g1 : Hg := rowI g (ad (1000 + 4 * k + 3)) (upd (g.1 (ad (1000 + 4 * k + 3))) j v)
  have f1 : Fr ad (fun r => r = 1000 + 4 * k + 3) g g1 := Fr.row hI rfl
  have e1 : g1.1 (ad (1000 + 4 * k + 3)) = upd (g.1 (ad (1000 + 4 * k + 3))) j v := rowI_same _ _ _
  have hO1 : HdO S g1 ad (1000 + 4 * k) H := by
    obtain ⟨o1, o2, o3, o4, o5⟩ := hH2
    refine ⟨o1.fr f1.1, by rw [f1.I (by omega)]; exact o2, by rw [f1.I (by omega)]; exact o3, by rw [f1.I (by omega)]; exact o4, ?_⟩
    rw [e1]
    intro z hz
    show upd _ j v z = upd _ j v z
    by_cases c : z = j
    · subst c; rw [upd_same, upd_same]
    · rw [upd_ne _ _ c, upd_ne _ _ c]; exact o5 z hz
  have hR1 := hR.fr f1 (fun r hr => by omega)
  have hB2 := (hR1.bo hk).2
  have vr : g1.1 (ad 20016) (56 * k + 28 + 20 + j) = (h.2.2.2.1.2.2 k).2.2.2.2 j := hB2.2.2.2 j hj
  let g2 : Hg := rowI g1 (ad 20016) (upd (g1.1 (ad 20016)) (56 * k + 28 + 20 + j) v)
  have f2 : Fr ad (fun r => r = 20016) g1 g2 := Fr.row hI rfl
  have e2 : g2.1 (ad 20016) = upd (g1.1 (ad 20016)) (56 * k + 28 + 20 + j) v := rowI_same _ _ _
  have hB : RHd g2 ad 20016 (56 * k + 28) H := by
    obtain ⟨⟨q1, q2, q3⟩, q4, q5, q6⟩ := hB2
    refine ⟨⟨?_, ?_, ?_⟩, ?_, ?_, ?_⟩
    · rw [e2, upd_ne _ _ (by omega)]; exact q1
    · rw [e2, upd_ne _ _ (by omega)]; exact q2
    · rw [e2, upd_ne _ _ (by omega)]; exact q3
    · rw [e2]; intro z hz; show upd _ _ _ (56 * k + 28 + 4 + z) = _; rw [upd_ne _ _ (by omega)]; exact q4 z hz
    · rw [e2]; intro z hz; show upd _ _ _ (56 * k + 28 + 12 + z) = _; rw [upd_ne _ _ (by omega)]; exact q5 z hz
    · rw [e2]
      intro z hz
      show upd _ _ v (56 * k + 28 + 20 + z) = upd _ j v z
      by_cases c : z = j
      · subst c; rw [upd_same, upd_same]
      · rw [upd_ne _ _ (by omega), upd_ne _ _ c]; exact q6 z hz
  refine ⟨nI 1, g1, g2, setB h k H, ?_, ?_, (hC.bl2 hk f1 (fun r hr => by omega) hO1).fr f2 (fun r hr => by omega), hR1.bl2 hk f2 (fun z hz => by rw [e2, upd_ne _ _ (by omega)]) hB, hW, hK⟩
  · show b_X11_smear_0 N S g _ _ _ _ = _
    unfold b_X11_smear_0
    rw [hC.p3, nn_S, hC.b2 hk, c2_S, on_S, c_place hj, c2_S, if_neg z10, hp2, nn_S]
    simp (disch := (first | assumption | omega | (apply Inj.ne <;> first | assumption | omega) | fail)) only [nn_S, nm_D, ck_T, c2_S, on_N, on_S, lit, mNEG, nI_add, pk_mul, inb_nI, nI_clamp, wrI_row, wrL_row, rdR_rowI, rdR_rowL, rdI_def, rdL_def, rowI_same, rowI_ne, rowI_rowI, rowL_same, rowL_ne, rowL_1, rowI_21, upd_same, upd_ne, nI_le_T, nI_le_F, nI_lt_T, nI_lt_F, nI_eq_F, nI_NEG, NEG_lt0, nI_p, eq_self, if_true, if_false, hl, vc]
    rfl
  · have p15 : rdR _ (ad 20000) 15 = some (ad 20016) := hR1.1.p 15 (by decide)
    have l15 : hpL _ (ad 20016) = 3360 := hR1.1.l 15 (by decide) rfl
    have nbr1 := hR1.nb
    show b_X12_smear_0 N S g1 _ _ _ _ = _
    unfold b_X12_smear_0
    simp (disch := (first | assumption | omega | (apply Inj.ne <;> first | assumption | omega) | fail)) only [nn_S, nm_D, ck_T, c2_S, on_N, on_S, lit, mNEG, nI_add, pk_mul, inb_nI, nI_clamp, wrI_row, wrL_row, rdR_rowI, rdR_rowL, rdI_def, rdL_def, rowI_same, rowI_ne, rowI_rowI, rowL_same, rowL_ne, rowL_1, rowI_21, upd_same, upd_ne, nI_le_T, nI_le_F, nI_lt_T, nI_lt_F, nI_eq_F, nI_NEG, NEG_lt0, nI_p, eq_self, if_true, if_false, nbr1, p15, l15, vr]
    rfl
/-- how many of the first k -/
def cntB (p : Nat → Bool) : Nat → Nat
  | 0 => 0
  | k + 1 => if p k = true then cntB p k + 1 else cntB p k
theorem cntB_le (p : Nat → Bool) : ∀ k, cntB p k ≤ k
  | 0 => Nat.le_refl _
  | k + 1 => by
    have := cntB_le p k
    unfold cntB
    split <;> omega
theorem c_full4 {N : Nat} {S : Hs} {g : Hg} {ad : Nat → Nat} {b : Nat} {sl : Nat → ASl} (hP : HoP S g ad b) (hL : CSl S g ad b sl) : ∀ (f n k : Nat), k + f = 16 → f < n → n_X1_fullSlots_4 N S n g (ad b) (nI (cntB (fun s => decide ((sl s).1.1 ≠ nI 0)) k)) (nI k) = some (nI (cntB (fun s => decide ((sl s).1.1 ≠ nI 0)) 16), g) := by
  intro f
  induction f with
  | zero =>
    intro n k h1 h2
    obtain ⟨n, rfl⟩ : ∃ z, n = z + 1 := ⟨n - 1, by omega⟩
    have : k = 16 := by omega
    subst this
    show b_X1_fullSlots_4 N S _ g _ _ _ = _
    unfold b_X1_fullSlots_4
    simp (disch := (first | assumption | omega | (apply Inj.ne <;> first | assumption | omega) | fail)) only [nn_S, nm_D, ck_T, c2_S, on_N, on_S, lit, mNEG, nI_add, pk_mul, inb_nI, nI_clamp, wrI_row, wrL_row, rdR_rowI, rdR_rowL, rdI_def, rdL_def, rowI_same, rowI_ne, rowI_rowI, rowL_same, rowL_ne, rowL_1, rowI_21, upd_same, upd_ne, nI_le_T, nI_le_F, nI_lt_T, nI_lt_F, nI_eq_F, nI_NEG, NEG_lt0, nI_p, eq_self, if_true, if_false]
  | succ f ih =>
    intro n k h1 h2
    obtain ⟨n, rfl⟩ : ∃ z, n = z + 1 := ⟨n - 1, by omega⟩
    have p2 := hP.1.2.1
    have l2 := hP.2.2.1
    have hk : k < 16 := by omega
    have r1 := (hL k hk).1
    have v5 := (hL k hk).2.2.1.1.2.2.1
    have ih' := ih n (k + 1) (by omega) (by omega)
    show b_X1_fullSlots_4 N S (n_X1_fullSlots_4 N S n) g _ _ _ = _
    unfold b_X1_fullSlots_4
    rw [if_neg (show ¬ (16 : Int32) ≤ nI k from nI_ge (b := 16) hk (by decide)), p2, nn_S, l2, inb_nI hk (by decide), ck_T, nI_clamp (by omega), r1, nn_S, rdI_def, v5]
    rw [← ih']
    by_cases c : (sl k).1.1 = nI 0
    · rw [if_pos (show (sl k).1.1 = (0 : Int32) from c), nm_D, show nI k + 1 = nI (k + 1) from nI_add k 1]
      have : cntB (fun s => decide ((sl s).1.1 ≠ nI 0)) (k + 1) = cntB (fun s => decide ((sl s).1.1 ≠ nI 0)) k := by
        show (if decide ((sl k).1.1 ≠ nI 0) = true then _ else _) = _
        rw [if_neg (by simpa using c)]
      rw [this]
    · rw [if_neg (show ¬ (sl k).1.1 = (0 : Int32) from c), nm_D, nm_D, show nI k + 1 = nI (k + 1) from nI_add k 1, show ∀ z, nI z + 1 = nI (z + 1) from fun z => nI_add z 1]
      have : cntB (fun s => decide ((sl s).1.1 ≠ nI 0)) (k + 1) = cntB (fun s => decide ((sl s).1.1 ≠ nI 0)) k + 1 := by
        show (if decide ((sl k).1.1 ≠ nI 0) = true then _ else _) = _
        rw [if_pos (by simpa using c)]
      rw [this]
theorem SlWf.pos {X : ASl} (hw : SlWf X) : (X.1.1 ≤ (0 : Int32)) = (X.1.1 = nI 0) := by
  rcases hw.2.2 with q | q | q | q | q | q <;> rw [q.1] <;> decide
theorem m_all43 {N : Nat} {S : Hs} {g : Hg} {ad : Nat → Nat} {sl : Nat → ASl} (hw : ∀ s, s < 16 → SlWf (sl s)) (hR : RfP S g ad) (hX : ∀ s, s < 16 → RSl g ad 0 s (sl s)) : ∀ (f n k : Nat), k + f = 16 → f < n → n_X12_all_43 N S n g (ad 20000) (nI (cntB (fun s => decide ((sl s).1.1 ≠ nI 0)) k)) (nI k) = some (nI (cntB (fun s => decide ((sl s).1.1 ≠ nI 0)) 16), g) := by
  intro f
  induction f with
  | zero =>
    intro n k h1 h2
    obtain ⟨n, rfl⟩ : ∃ z, n = z + 1 := ⟨n - 1, by omega⟩
    have : k = 16 := by omega
    subst this
    show b_X12_all_43 N S _ g _ _ _ = _
    unfold b_X12_all_43
    simp (disch := (first | assumption | omega | (apply Inj.ne <;> first | assumption | omega) | fail)) only [nn_S, nm_D, ck_T, c2_S, on_N, on_S, lit, mNEG, nI_add, pk_mul, inb_nI, nI_clamp, wrI_row, wrL_row, rdR_rowI, rdR_rowL, rdI_def, rdL_def, rowI_same, rowI_ne, rowI_rowI, rowL_same, rowL_ne, rowL_1, rowI_21, upd_same, upd_ne, nI_le_T, nI_le_F, nI_lt_T, nI_lt_F, nI_eq_F, nI_NEG, NEG_lt0, nI_p, eq_self, if_true, if_false]
  | succ f ih =>
    intro n k h1 h2
    obtain ⟨n, rfl⟩ : ∃ z, n = z + 1 := ⟨n - 1, by omega⟩
    have p9 : rdR _ (ad 20000) 9 = some (ad 20010) := hR.p 9 (by decide)
    have l9 : hpL _ (ad 20010) = 128 := hR.l 9 (by decide) rfl
    have hk : k < 16 := by omega
    have v0 : g.1 (ad 20010) (8 * k) = (sl k).1.1 := (hX k hk).2.1.1
    have ih' := ih n (k + 1) (by omega) (by omega)
    show b_X12_all_43 N S (n_X12_all_43 N S n) g _ _ _ = _
    unfold b_X12_all_43
    rw [if_neg (show ¬ (16 : Int32) ≤ nI k from nI_ge (b := 16) hk (by decide)), p9, nn_S, e8, l9, inb_nI (by omega) (by decide), ck_T, nI_clamp (by omega), rdI_def, v0]
    rw [← ih']
    by_cases c : (sl k).1.1 = nI 0
    · rw [if_pos (by rw [(hw k hk).pos]; exact c), nm_D, show nI k + 1 = nI (k + 1) from nI_add k 1]
      have : cntB (fun s => decide ((sl s).1.1 ≠ nI 0)) (k + 1) = cntB (fun s => decide ((sl s).1.1 ≠ nI 0)) k := by
        show (if decide ((sl k).1.1 ≠ nI 0) = true then _ else _) = _
        rw [if_neg (by simpa using c)]
      rw [this]
    · rw [if_neg (by rw [(hw k hk).pos]; exact c), nm_D, nm_D, show nI k + 1 = nI (k + 1) from nI_add k 1, show ∀ z, nI z + 1 = nI (z + 1) from fun z => nI_add z 1]
      have : cntB (fun s => decide ((sl s).1.1 ≠ nI 0)) (k + 1) = cntB (fun s => decide ((sl s).1.1 ≠ nI 0)) k + 1 := by
        show (if decide ((sl k).1.1 ≠ nI 0) = true then _ else _) = _
        rw [if_pos (by simpa using c)]
      rw [this]
theorem c_rwh4 {N : Nat} {S : Hs} {g : Hg} {ad : Nat → Nat} {b : Nat} {hd : Nat → AHd} {tm : Nat → Int32} (hP : HoP S g ad b) (hL : CHd S g ad b hd tm) : ∀ (f n k : Nat), k + f = 12 → f < n → n_X1_readersWithHead_4 N S n g (ad b) (nI (cntB (fun s => (hd s).1) k)) (nI k) = some (nI (cntB (fun s => (hd s).1) 12), g) := by
  intro f
  induction f with
  | zero =>
    intro n k h1 h2
    obtain ⟨n, rfl⟩ : ∃ z, n = z + 1 := ⟨n - 1, by omega⟩
    have : k = 12 := by omega
    subst this
    show b_X1_readersWithHead_4 N S _ g _ _ _ = _
    unfold b_X1_readersWithHead_4
    simp (disch := (first | assumption | omega | (apply Inj.ne <;> first | assumption | omega) | fail)) only [nn_S, nm_D, ck_T, c2_S, on_N, on_S, lit, mNEG, nI_add, pk_mul, inb_nI, nI_clamp, wrI_row, wrL_row, rdR_rowI, rdR_rowL, rdI_def, rdL_def, rowI_same, rowI_ne, rowI_rowI, rowL_same, rowL_ne, rowL_1, rowI_21, upd_same, upd_ne, nI_le_T, nI_le_F, nI_lt_T, nI_lt_F, nI_eq_F, nI_NEG, NEG_lt0, nI_p, eq_self, if_true, if_false]
  | succ f ih =>
    intro n k h1 h2
    obtain ⟨n, rfl⟩ : ∃ z, n = z + 1 := ⟨n - 1, by omega⟩
    have p3 := hP.1.2.2.1
    have l3 := hP.2.2.2.1
    have hk : k < 12 := by omega
    have r1 := (hL k hk).1
    have v3 := (hL k hk).2.1.2.1.1
    have ih' := ih n (k + 1) (by omega) (by omega)
    show b_X1_readersWithHead_4 N S (n_X1_readersWithHead_4 N S n) g _ _ _ = _
    unfold b_X1_readersWithHead_4
    rw [if_neg (show ¬ (12 : Int32) ≤ nI k from nI_ge (b := 12) hk (by decide)), p3, nn_S, l3, inb_nI hk (by decide), ck_T, nI_clamp (by omega), r1, nn_S, rdI_def, v3]
    rw [← ih']
    cases c : (hd k).1 with
    | false =>
      rw [if_pos (show bI false = (0 : Int32) from rfl), nm_D, show nI k + 1 = nI (k + 1) from nI_add k 1]
      have : cntB (fun s => (hd s).1) (k + 1) = cntB (fun s => (hd s).1) k := by
        show (if (hd k).1 = true then _ else _) = _
        rw [if_neg (by rw [c]; decide)]
      rw [this]
    | true =>
      rw [if_neg (show ¬ bI true = (0 : Int32) from z10), nm_D, nm_D, show nI k + 1 = nI (k + 1) from nI_add k 1, show ∀ z, nI z + 1 = nI (z + 1) from fun z => nI_add z 1]
      have : cntB (fun s => (hd s).1) (k + 1) = cntB (fun s => (hd s).1) k + 1 := by
        show (if (hd k).1 = true then _ else _) = _
        rw [if_pos c]
      rw [this]
theorem m_all74 {N : Nat} {S : Hs} {g : Hg} {ad : Nat → Nat} {hd : Nat → AHd} (hR : RfP S g ad) (hX : ∀ r, r < 12 → g.1 (ad 20015) r = bI (hd r).1) : ∀ (f n k : Nat), k + f = 12 → f < n → n_X12_all_74 N S n g (ad 20000) (nI (cntB (fun s => (hd s).1) k)) (nI k) = some (nI (cntB (fun s => (hd s).1) 12), g) := by
  intro f
  induction f with
  | zero =>
    intro n k h1 h2
    obtain ⟨n, rfl⟩ : ∃ z, n = z + 1 := ⟨n - 1, by omega⟩
    have : k = 12 := by omega
    subst this
    show b_X12_all_74 N S _ g _ _ _ = _
    unfold b_X12_all_74
    simp (disch := (first | assumption | omega | (apply Inj.ne <;> first | assumption | omega) | fail)) only [nn_S, nm_D, ck_T, c2_S, on_N, on_S, lit, mNEG, nI_add, pk_mul, inb_nI, nI_clamp, wrI_row, wrL_row, rdR_rowI, rdR_rowL, rdI_def, rdL_def, rowI_same, rowI_ne, rowI_rowI, rowL_same, rowL_ne, rowL_1, rowI_21, upd_same, upd_ne, nI_le_T, nI_le_F, nI_lt_T, nI_lt_F, nI_eq_F, nI_NEG, NEG_lt0, nI_p, eq_self, if_true, if_false]
  | succ f ih =>
    intro n k h1 h2
    obtain ⟨n, rfl⟩ : ∃ z, n = z + 1 := ⟨n - 1, by omega⟩
    have p14 : rdR _ (ad 20000) 14 = some (ad 20015) := hR.p 14 (by decide)
    have l14 : hpL _ (ad 20015) = 12 := hR.l 14 (by decide) rfl
    have hk : k < 12 := by omega
    have v3 := hX k hk
    have ih' := ih n (k + 1) (by omega) (by omega)
    show b_X12_all_74 N S (n_X12_all_74 N S n) g _ _ _ = _
    unfold b_X12_all_74
    rw [if_neg (show ¬ (12 : Int32) ≤ nI k from nI_ge (b := 12) hk (by decide)), p14, nn_S, l14, inb_nI hk (by decide), ck_T, nI_clamp (by omega), rdI_def, v3]
    rw [← ih']
    cases c : (hd k).1 with
    | false =>
      rw [if_pos (show bI false = (0 : Int32) from rfl), nm_D, show nI k + 1 = nI (k + 1) from nI_add k 1]
      have : cntB (fun s => (hd s).1) (k + 1) = cntB (fun s => (hd s).1) k := by
        show (if (hd k).1 = true then _ else _) = _
        rw [if_neg (by rw [c]; decide)]
      rw [this]
    | true =>
      rw [if_neg (show ¬ bI true = (0 : Int32) from z10), nm_D, nm_D, show nI k + 1 = nI (k + 1) from nI_add k 1, show ∀ z, nI z + 1 = nI (z + 1) from fun z => nI_add z 1]
      have : cntB (fun s => (hd s).1) (k + 1) = cntB (fun s => (hd s).1) k + 1 := by
        show (if (hd k).1 = true then _ else _) = _
        rw [if_pos c]
      rw [this]
theorem c_ae4 {N : Nat} {S : Hs} {g : Hg} {ad : Nat → Nat} {b ml nl nbm : Nat} {lg : Nat → ALog} (hP : HoP S g ad b) (hC : HoC g ad b nl nbm) (hL : CLs S g ad b ml nl lg) : ∀ (f n k : Nat), k + f = nl → f < n → n_X1_allEntries_4 N S n g (ad b) (nI (sumS (fun i => lsz (lg i)) k)) (nI k) = some (nI (sumS (fun i => lsz (lg i)) nl), g) := by
  have h6 : nl ≤ 6 := Nat.le_trans hL.1 hL.2.1
  intro f
  induction f with
  | zero =>
    intro n k h1 h2
    obtain ⟨n, rfl⟩ : ∃ z, n = z + 1 := ⟨n - 1, by omega⟩
    have : k = nl := by omega
    subst this
    have v1 := hC.1
    show b_X1_allEntries_4 N S _ g _ _ _ = _
    unfold b_X1_allEntries_4
    simp (disch := (first | assumption | omega | (apply Inj.ne <;> first | assumption | omega) | fail)) only [nn_S, nm_D, ck_T, c2_S, on_N, on_S, lit, mNEG, nI_add, pk_mul, inb_nI, nI_clamp, wrI_row, wrL_row, rdR_rowI, rdR_rowL, rdI_def, rdL_def, rowI_same, rowI_ne, rowI_rowI, rowL_same, rowL_ne, rowL_1, rowI_21, upd_same, upd_ne, nI_le_T, nI_le_F, nI_lt_T, nI_lt_F, nI_eq_F, nI_NEG, NEG_lt0, nI_p, eq_self, if_true, if_false, v1]
  | succ f ih =>
    intro n k h1 h2
    obtain ⟨n, rfl⟩ : ∃ z, n = z + 1 := ⟨n - 1, by omega⟩
    have v1 := hC.1
    have p0 := hP.1.1
    have l0 := hP.2.1
    have hk : k < 6 := by omega
    have hml := hL.1
    have r1 := hL.2.2.1 k hk
    rw [if_pos (by omega)] at r1
    have v7 := (hL.2.2.2.2 k (by omega)).2.1.1.2
    have ih' := ih n (k + 1) (by omega) (by omega)
    show b_X1_allEntries_4 N S (n_X1_allEntries_4 N S n) g _ _ _ = _
    unfold b_X1_allEntries_4
    rw [rdI_def, v1, if_neg (nI_ge (by omega) (by omega)), p0, nn_S, l0, inb_nI hk (by decide), ck_T, nI_clamp (by omega), nm_D, r1, on_S, rdI_def, v7, nm_D, nm_D, nI_add, show nI k + 1 = nI (k + 1) from nI_add k 1]
    exact ih'
theorem m_all107 {N : Nat} {S : Hs} {g : Hg} {ad : Nat → Nat} {nl : Nat} {lg : Nat → ALog} (h6 : nl ≤ 6) (h1 : g.1 (ad 20000) 1 = nI nl) (hR : RfP S g ad) (hX : ∀ l, l < nl → RLog g ad 0 l (lg l)) : ∀ (f n k : Nat), k + f = nl → f < n → n_X12_all_107 N S n g (ad 20000) (nI (sumS (fun i => lsz (lg i)) k)) (nI k) = some (nI (sumS (fun i => lsz (lg i)) nl), g) := by
  intro f
  induction f with
  | zero =>
    intro n k h1' h2
    obtain ⟨n, rfl⟩ : ∃ z, n = z + 1 := ⟨n - 1, by omega⟩
    have : k = nl := by omega
    subst this
    show b_X12_all_107 N S _ g _ _ _ = _
    unfold b_X12_all_107
    simp (disch := (first | assumption | omega | (apply Inj.ne <;> first | assumption | omega) | fail)) only [nn_S, nm_D, ck_T, c2_S, on_N, on_S, lit, mNEG, nI_add, pk_mul, inb_nI, nI_clamp, wrI_row, wrL_row, rdR_rowI, rdR_rowL, rdI_def, rdL_def, rowI_same, rowI_ne, rowI_rowI, rowL_same, rowL_ne, rowL_1, rowI_21, upd_same, upd_ne, nI_le_T, nI_le_F, nI_lt_T, nI_lt_F, nI_eq_F, nI_NEG, NEG_lt0, nI_p, eq_self, if_true, if_false, h1]
  | succ f ih =>
    intro n k h1' h2
    obtain ⟨n, rfl⟩ : ∃ z, n = z + 1 := ⟨n - 1, by omega⟩
    have hm := m_many (N := N) (show k < 6 by omega) hR (hX k (by omega))
    have ih' := ih n (k + 1) (by omega) (by omega)
    show b_X12_all_107 N S (n_X12_all_107 N S n) g _ _ _ = _
    unfold b_X12_all_107
    rw [rdI_def, h1, if_neg (nI_ge (by omega) (by omega)), hm, c2_S, nm_D, nm_D, nI_add, show nI k + 1 = nI (k + 1) from nI_add k 1]
    exact ih'
theorem t_all {B N : Nat} (hN : 40000 ≤ N) {S : Hs} {g : Hg} {ad : Nat → Nat} {m : Nat × Nat} {h : AHo} {kc : AKp} (hJ : Jn B S g ad m h kc) (x1 : Int32) : StN B S g ad m kc (fun g => f_X11_all N S g (ad 0) x1) (fun g => f_X12_all N S g (ad 20000) x1) := by
  obtain ⟨hC, hR, hW, hK⟩ := id hJ
  have h6 := hW.1
  have hI := hC.inj
  have nl := hR.nl
  by_cases c0 : x1 = 0
  · subst c0
    have v1 := hC.2.2.1.2.1.1
    refine StN.same hJ (r := nI h.1.1) ?_ ?_
    · show b_X11_all_0 N S g _ _ = _
      unfold b_X11_all_0
      rw [nm_D, if_pos rfl, hC.p3, nn_S, rdI_def, v1]
    · show b_X12_all_0 N S g _ _ = _
      unfold b_X12_all_0
      rw [nm_D, if_pos rfl, rdI_def, nl]
  by_cases c1 : x1 = 1
  · subst c1
    refine StN.same hJ (r := nI (cntB (fun s => decide ((h.2.1 s).1.1 ≠ nI 0)) 16)) ?_ ?_
    · show b_X11_all_0 N S g _ _ = _
      unfold b_X11_all_0
      rw [nm_D, if_neg c0, if_pos rfl, hC.p3, nn_S, show f_X1_fullSlots N S g (ad 100) = _ from c_full4 hC.2.2.1.1 hC.2.2.1.2.2.2.1 16 N 0 (by omega) (by omega), c2_S]
    · show b_X12_all_0 N S g _ _ = _
      unfold b_X12_all_0
      rw [nm_D, if_neg c0, if_pos rfl]
      exact m_all43 hW.2.1 hR.1 hR.2.1.2.1 16 N 0 (by omega) (by omega)
  by_cases c2' : x1 = 2
  · subst c2'
    refine StN.same hJ (r := nI (cntB (fun s => (h.2.2.1.1 s).1) 12)) ?_ ?_
    · show b_X11_all_0 N S g _ _ = _
      unfold b_X11_all_0
      rw [nm_D, if_neg c0, if_neg c1, if_pos rfl, hC.p3, nn_S, show f_X1_readersWithHead N S g (ad 100) = _ from c_rwh4 hC.2.2.1.1 hC.2.2.1.2.2.2.2.1 12 N 0 (by omega) (by omega), c2_S]
    · show b_X12_all_0 N S g _ _ = _
      unfold b_X12_all_0
      rw [nm_D, if_neg c0, if_neg c1, if_pos rfl]
      exact m_all74 hR.1 (fun r hr => hR.has hr) 12 N 0 (by omega) (by omega)
  by_cases c3 : x1 = 3
  · subst c3
    have v7 := hC.2.2.1.2.1.2
    refine StN.same hJ (r := nI h.2.2.2.1.1) ?_ ?_
    · show b_X11_all_0 N S g _ _ = _
      unfold b_X11_all_0
      rw [nm_D, if_neg c0, if_neg c1, if_neg c2', if_pos rfl, hC.p3, nn_S, rdI_def, v7]
    · show b_X12_all_0 N S g _ _ = _
      unfold b_X12_all_0
      rw [nm_D, if_neg c0, if_neg c1, if_neg c2', if_pos rfl, rdI_def, hR.nb]
  by_cases c4 : x1 = 4
  · subst c4
    refine StN.same hJ (r := nI (sumS (fun i => lsz (h.1.2 i)) h.1.1)) ?_ ?_
    · show b_X11_all_0 N S g _ _ = _
      unfold b_X11_all_0
      rw [nm_D, if_neg c0, if_neg c1, if_neg c2', if_neg c3, if_pos rfl, hC.p3, nn_S, show f_X1_allEntries N S g (ad 100) = _ from c_ae4 hC.2.2.1.1 hC.2.2.1.2.1 hC.2.2.1.2.2.1 h.1.1 N 0 (by omega) (by omega), c2_S]
    · show b_X12_all_0 N S g _ _ = _
      unfold b_X12_all_0
      rw [nm_D, if_neg c0, if_neg c1, if_neg c2', if_neg c3, if_pos rfl]
      exact m_all107 h6 nl hR.1 (fun l hl => hR.lg hl) h.1.1 N 0 (by omega) (by omega)
  refine StN.same hJ (r := NEG) ?_ ?_
  · show b_X11_all_0 N S g _ _ = _
    unfold b_X11_all_0
    rw [nm_D, if_neg c0, if_neg c1, if_neg c2', if_neg c3, if_neg c4]; rfl
  · show b_X12_all_0 N S g _ _ = _
    unfold b_X12_all_0
    rw [nm_D, if_neg c0, if_neg c1, if_neg c2', if_neg c3, if_neg c4]; rfl
