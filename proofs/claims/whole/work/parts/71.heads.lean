/-! HEADS: there, (n, log, keeper), TOP, TREE, MARK -/
abbrev AHd : Type := Bool × (Int32 × Int32 × Int32) × ((Nat → Int32) × (Nat → Int32) × (Nat → Int32))
def HdV (g : Hg) (ad : Nat → Nat) (b : Nat) (H : AHd) : Prop := (g.1 (ad b) 3 = bI H.1 ∧ g.1 (ad b) 4 = H.2.1.1 ∧ g.1 (ad b) 5 = H.2.1.2.1 ∧ g.1 (ad b) 6 = H.2.1.2.2) ∧ eq8 (g.1 (ad (b + 1))) H.2.2.1 ∧ eq8 (g.1 (ad (b + 2))) H.2.2.2.1 ∧ eq8 (g.1 (ad (b + 3))) H.2.2.2.2
def HdO (S : Hs) (g : Hg) (ad : Nat → Nat) (b : Nat) (H : AHd) : Prop := HdP S g ad b ∧ HdV g ad b H
theorem HdO.fr {R : Nat → Prop} {ad : Nat → Nat} {S : Hs} {g g1 : Hg} {b : Nat} {H : AHd} (h : HdO S g ad b H) (hf : Fr ad R g g1) (n : ∀ r, b ≤ r → r < b + 4 → ¬ R r) : HdO S g1 ad b H := by
  refine ⟨h.1.fr hf.1, ?_⟩
  have h2 := h.2
  unfold HdV at h2 ⊢
  rw [hf.I (n b (by omega) (by omega)), hf.I (n (b + 1) (by omega) (by omega)), hf.I (n (b + 2) (by omega) (by omega)), hf.I (n (b + 3) (by omega) (by omega))]
  exact h2
theorem HdO.mv {R : Nat → Prop} {ad ad1 : Nat → Nat} {S S1 : Hs} {g g1 : Hg} {b : Nat} {H : AHd} (h : HdO S g ad b H) (hm : Mv R ad S g ad1 S1 g1) (n : ∀ r, b ≤ r → r < b + 4 → ¬ R r) : HdO S1 g1 ad1 b H := by
  refine ⟨h.1.mv hm n, ?_⟩
  have h2 := h.2
  unfold HdV at h2 ⊢
  rw [hm.I (n b (by omega) (by omega)), hm.I (n (b + 1) (by omega) (by omega)), hm.I (n (b + 2) (by omega) (by omega)), hm.I (n (b + 3) (by omega) (by omega))]
  exact h2
theorem Fr.ch3 {ad : Nat → Nat} (hI : Inj ad) {a b d : Nat} {g g1 : Hg} (h : Ch3 (ad a) (ad b) (ad d) g g1) : Fr ad (fun r => r = a ∨ r = b ∨ r = d) g g1 := Fr.ch h (fun r q => by
  rcases q with q | q | q
  · exact Or.inl (hI _ _ q)
  · exact Or.inr (Or.inl (hI _ _ q))
  · exact Or.inr (Or.inr (hI _ _ q)))
theorem eq8_put0 {row v : Nat → Int32} : eq8 (putA row (8 * 0) v) v := fun j hj => by
  have := putA_in (row := row) (v := v) (at_ := 8 * 0) hj
  rw [Nat.mul_zero, Nat.zero_add] at this
  exact this
theorem seg0 (row : Nat → Int32) : seg row (8 * 0) = row := by
  funext j
  show row (8 * 0 + j) = row j
  rw [Nat.mul_zero, Nat.zero_add]
theorem tg8 {ad : Nat → Nat} (hI : Inj ad) {S : Hs} {t : Nat} (ht : t ≠ 2 ∧ t ≠ 3) (hl : hpL S (ad t) = 8) : TgOk S (ad 2) (ad 3) (ad t) (8 * 0) := ⟨hI.ne ht.2, hI.ne ht.1, by omega, by omega⟩
/-- the class's MARK of a HEAD -/
theorem c_markOf {N : Nat} (hN : 40000 ≤ N) {S : Hs} {g : Hg} {ad : Nat → Nat} (hI : Inj ad) {h t : Nat} {H : AHd} (hh : 16 ≤ h) (ht : t ≠ 2 ∧ t ≠ 3) (hl : hpL S (ad t) = 8) (hS : ScP S g ad) (hP : HdP S g ad h) (h4 : g.1 (ad h) 4 = H.2.1.1) (h6 : g.1 (ad h) 6 = H.2.1.2.2) (v1 : eq8 (g.1 (ad (h + 1))) H.2.2.1) (v2 : eq8 (g.1 (ad (h + 2))) H.2.2.2.1) :
    ∃ g1, f_X6_markOf N S g (ad 1) (ad h) (ad t) = some ((), g1) ∧ Fr ad (fun r => r = 2 ∨ r = 3 ∨ r = t) g g1 ∧ eq8 (g1.1 (ad t)) (MARK H.2.1.2.2 H.2.1.1 H.2.2.1 H.2.2.2.1) := by
  obtain ⟨g1, k1, k2, k3⟩ := c_mixW (N := N) (show 30 ≤ N by omega) (g := g) (hS.mx hI) (tg8 hI ht hl) (p := 0) (cnt := 20) (by decide) (x1 := 20) (x3 := (0 : Int32)) rfl rfl (va_cpy (g.1 (ad (h + 2))) (va_cpy (g.1 (ad (h + 1))) (upd (upd (upd (upd (g.1 (ad 2)) 0 6) 1 H.2.1.2.2) 2 (1000003 * H.2.1.2.2 + 77)) 3 H.2.1.1) 0 4 8) 0 12 8) (w := kw6 H.2.1.2.2 H.2.1.1 H.2.2.1 H.2.2.2.1) (fun k hk => by
    unfold kw6
    by_cases c1 : k < 4
    · have : k = 0 ∨ k = 1 ∨ k = 2 ∨ k = 3 := by omega
      rcases this with rfl | rfl | rfl | rfl <;> simp [va_cpy, upd, w4]
    · by_cases c2 : k < 12
      · simp only [va_cpy]
        rw [if_neg (by omega), if_pos (by omega), if_neg c1, if_pos c2, Nat.zero_add]
        exact v1 _ (by omega)
      · simp only [va_cpy]
        rw [if_pos (by omega), if_neg c1, if_neg c2, Nat.zero_add]
        exact v2 _ (by omega))
  refine ⟨g1, ?_, Fr.ch3 hI k2, ?_⟩
  · show b_X6_markOf_0 N S g _ _ _ = _
    unfold b_X6_markOf_0
    simp only [hS.1.1, nn_S, nm_D, hS.1.2.2.1, wrI_row, rdR_rowI, rowI_rowI, rowI_same, rdI_def, rowI_ne g _ (show ad h ≠ ad 2 from hI.ne (by omega)), h4, h6, hP.1, hP.2.1, hP.2.2.2.1, hP.2.2.2.2.1, show inb (0 : Int32) 20 = true by decide, show inb (1 : Int32) 20 = true by decide, show inb (2 : Int32) 20 = true by decide, show inb (3 : Int32) 20 = true by decide, ck_T, cpI_row, rowI_ne g _ (show ad (h + 1) ≠ ad 2 from hI.ne (by omega)), rowI_ne g _ (show ad (h + 2) ≠ ad 2 from hI.ne (by omega)), show cpok (0 : Int32) (4 : Int32) (8 : Int32) 8 20 = true by decide, show cpok (0 : Int32) (12 : Int32) (8 : Int32) 8 20 = true by decide]
    show c2 (f_X6_mix N S (rowI g (ad 2) (va_cpy (g.1 (ad (h + 2))) (va_cpy (g.1 (ad (h + 1))) (upd (upd (upd (upd (g.1 (ad 2)) 0 6) 1 H.2.1.2.2) 2 (1000003 * H.2.1.2.2 + 77)) 3 H.2.1.1) 0 4 8) 0 12 8)) (ad 1) 20 (ad t) 0) _ = _
    rw [k1]
    rfl
  · rw [k3]
    exact eq8_put0
/-- a row of eight is another one's like -/
theorem c_copy0 {N : Nat} {S : Hs} {g : Hg} {a b : Nat} (ha : hpL S a = 8 ∨ 8 ≤ hpL S a ∧ hpL S a < 2 ^ 31) (hb : hpL S b = 8) : ∃ r, f_X11_copySum N S g a (0 : Int32) b (0 : Int32) = some ((), rowI g b r) ∧ eq8 r (g.1 a) := by
  refine ⟨putA (g.1 b) (8 * 0) (seg (g.1 a) (8 * 0)), c_copySum (p := 0) (q := 0) rfl rfl (by omega) (by omega) (by omega) (by omega), ?_⟩
  rw [seg0]
  exact eq8_put0
def HEADC (H : AHd) : AHd := H
theorem zb_bI (b : Bool) : zb (bI b) = true := by cases b <;> decide
theorem c_headCopy {N : Nat} {S : Hs} {g : Hg} {ad : Nat → Nat} (hI : Inj ad) {b c : Nat} {H : AHd} (hbc : b + 4 ≤ c ∨ c + 4 ≤ b) (hP : HdP S g ad b) (hO : HdO S g ad c H) : ∃ g1, f_X0_copy N S g (ad b) (ad c) = some ((), g1) ∧ Fr ad (fun r => b ≤ r ∧ r < b + 4) g g1 ∧ HdO S g1 ad b H := by
  obtain ⟨hQ, ⟨c3, c4, c5, c6⟩, w1, w2, w3⟩ := hO
  let g0 : Hg := rowI g (ad b) (upd (upd (upd (upd (g.1 (ad b)) 3 (bI H.1)) 4 H.2.1.1) 5 H.2.1.2.1) 6 H.2.1.2.2)
  obtain ⟨r1, a1, a2⟩ := c_copy0 (N := N) (S := S) (g := g0) (a := ad (c + 1)) (b := ad (b + 1)) (Or.inl hQ.2.2.2.1) hP.2.2.2.1
  let g1 : Hg := rowI g0 (ad (b + 1)) r1
  obtain ⟨r2, b1, b2⟩ := c_copy0 (N := N) (S := S) (g := g1) (a := ad (c + 2)) (b := ad (b + 2)) (Or.inl hQ.2.2.2.2.1) hP.2.2.2.2.1
  let g2 : Hg := rowI g1 (ad (b + 2)) r2
  obtain ⟨r3, d1, d2⟩ := c_copy0 (N := N) (S := S) (g := g2) (a := ad (c + 3)) (b := ad (b + 3)) (Or.inl hQ.2.2.2.2.2) hP.2.2.2.2.2
  let g3 : Hg := rowI g2 (ad (b + 3)) r3
  have x1 : g0.1 (ad (c + 1)) = g.1 (ad (c + 1)) := rowI_ne _ _ (hI.ne (by omega))
  have x2 : g1.1 (ad (c + 2)) = g.1 (ad (c + 2)) := (rowI_ne _ _ (hI.ne (by omega))).trans (rowI_ne _ _ (hI.ne (by omega)))
  have x3 : g2.1 (ad (c + 3)) = g.1 (ad (c + 3)) := ((rowI_ne _ _ (hI.ne (by omega))).trans (rowI_ne _ _ (hI.ne (by omega)))).trans (rowI_ne _ _ (hI.ne (by omega)))
  refine ⟨g3, ?_, Fr.rt hI (Fr.rt hI (Fr.rt hI (Fr.row hI (show b ≤ b + 3 ∧ b + 3 < b + 4 by omega)) (show b ≤ b + 2 ∧ b + 2 < b + 4 by omega)) (show b ≤ b + 1 ∧ b + 1 < b + 4 by omega)) (show b ≤ b ∧ b < b + 4 by omega), hP.fr rfl, ⟨?_, ?_, ?_, ?_⟩, ?_, ?_, ?_⟩
  · show b_X0_copy_0 N S g _ _ = _
    unfold b_X0_copy_0
    simp (disch := (first | assumption | omega | (apply Inj.ne <;> first | assumption | omega) | fail)) only [nn_S, nm_D, ck_T, c2_S, on_N, on_S, mNEG, nI_add, pk_mul, inb_nI, nI_clamp, wrI_row, wrL_row, rdR_rowI, rdR_rowL, rdI_def, rdL_def, rowI_same, rowI_ne, rowI_rowI, rowL_same, rowL_ne, rowL_1, rowI_21, upd_same, upd_ne, nI_le_T, nI_le_F, nI_lt_T, nI_lt_F, nI_eq_F, nI_NEG, NEG_lt0, nI_p, eq_self, if_true, if_false, c3, c4, c5, c6, hP.1, hP.2.1, hP.2.2.1, hQ.1, hQ.2.1, hQ.2.2.1, zb_bI]
    rw [show f_X11_copySum N S (rowI g (ad b) (upd (upd (upd (upd (g.1 (ad b)) 3 (bI H.1)) 4 H.2.1.1) 5 H.2.1.2.1) 6 H.2.1.2.2)) (ad (c + 1)) 0 (ad (b + 1)) 0 = _ from a1, c2_S]
    show nn (rdR g (ad c) 1) _ = _
    rw [hQ.2.1, nn_S]
    show nn (rdR g (ad b) 1) _ = _
    rw [hP.2.1, nn_S, b1, c2_S]
    show nn (rdR g (ad c) 2) _ = _
    rw [hQ.2.2.1, nn_S]
    show nn (rdR g (ad b) 2) _ = _
    rw [hP.2.2.1, nn_S, d1, c2_S]
  · show g3.1 (ad b) 3 = _
    simp only [g3, g2, g1, g0]
    simp (disch := (first | assumption | omega | (apply Inj.ne <;> first | assumption | omega) | fail)) only [nn_S, nm_D, ck_T, c2_S, on_N, on_S, lit, mNEG, nI_add, pk_mul, inb_nI, nI_clamp, wrI_row, wrL_row, rdR_rowI, rdR_rowL, rdI_def, rdL_def, rowI_same, rowI_ne, rowI_rowI, rowL_same, rowL_ne, rowL_1, rowI_21, upd_same, upd_ne, nI_le_T, nI_le_F, nI_lt_T, nI_lt_F, nI_eq_F, nI_NEG, NEG_lt0, nI_p, eq_self, if_true, if_false]
  · show g3.1 (ad b) 4 = _
    simp only [g3, g2, g1, g0]
    simp (disch := (first | assumption | omega | (apply Inj.ne <;> first | assumption | omega) | fail)) only [nn_S, nm_D, ck_T, c2_S, on_N, on_S, lit, mNEG, nI_add, pk_mul, inb_nI, nI_clamp, wrI_row, wrL_row, rdR_rowI, rdR_rowL, rdI_def, rdL_def, rowI_same, rowI_ne, rowI_rowI, rowL_same, rowL_ne, rowL_1, rowI_21, upd_same, upd_ne, nI_le_T, nI_le_F, nI_lt_T, nI_lt_F, nI_eq_F, nI_NEG, NEG_lt0, nI_p, eq_self, if_true, if_false]
  · show g3.1 (ad b) 5 = _
    simp only [g3, g2, g1, g0]
    simp (disch := (first | assumption | omega | (apply Inj.ne <;> first | assumption | omega) | fail)) only [nn_S, nm_D, ck_T, c2_S, on_N, on_S, lit, mNEG, nI_add, pk_mul, inb_nI, nI_clamp, wrI_row, wrL_row, rdR_rowI, rdR_rowL, rdI_def, rdL_def, rowI_same, rowI_ne, rowI_rowI, rowL_same, rowL_ne, rowL_1, rowI_21, upd_same, upd_ne, nI_le_T, nI_le_F, nI_lt_T, nI_lt_F, nI_eq_F, nI_NEG, NEG_lt0, nI_p, eq_self, if_true, if_false]
  · show g3.1 (ad b) 6 = _
    simp only [g3, g2, g1, g0]
    simp (disch := (first | assumption | omega | (apply Inj.ne <;> first | assumption | omega) | fail)) only [nn_S, nm_D, ck_T, c2_S, on_N, on_S, lit, mNEG, nI_add, pk_mul, inb_nI, nI_clamp, wrI_row, wrL_row, rdR_rowI, rdR_rowL, rdI_def, rdL_def, rowI_same, rowI_ne, rowI_rowI, rowL_same, rowL_ne, rowL_1, rowI_21, upd_same, upd_ne, nI_le_T, nI_le_F, nI_lt_T, nI_lt_F, nI_eq_F, nI_NEG, NEG_lt0, nI_p, eq_self, if_true, if_false]
  · show eq8 (g3.1 (ad (b + 1))) _
    simp only [g3, g2, g1]
    simp (disch := (first | assumption | omega | (apply Inj.ne <;> first | assumption | omega) | fail)) only [nn_S, nm_D, ck_T, c2_S, on_N, on_S, lit, mNEG, nI_add, pk_mul, inb_nI, nI_clamp, wrI_row, wrL_row, rdR_rowI, rdR_rowL, rdI_def, rdL_def, rowI_same, rowI_ne, rowI_rowI, rowL_same, rowL_ne, rowL_1, rowI_21, upd_same, upd_ne, nI_le_T, nI_le_F, nI_lt_T, nI_lt_F, nI_eq_F, nI_NEG, NEG_lt0, nI_p, eq_self, if_true, if_false]
    rw [x1] at a2
    exact a2.tr w1
  · show eq8 (g3.1 (ad (b + 2))) _
    simp only [g3, g2]
    simp (disch := (first | assumption | omega | (apply Inj.ne <;> first | assumption | omega) | fail)) only [nn_S, nm_D, ck_T, c2_S, on_N, on_S, lit, mNEG, nI_add, pk_mul, inb_nI, nI_clamp, wrI_row, wrL_row, rdR_rowI, rdR_rowL, rdI_def, rdL_def, rowI_same, rowI_ne, rowI_rowI, rowL_same, rowL_ne, rowL_1, rowI_21, upd_same, upd_ne, nI_le_T, nI_le_F, nI_lt_T, nI_lt_F, nI_eq_F, nI_NEG, NEG_lt0, nI_p, eq_self, if_true, if_false]
    rw [x2] at b2
    exact b2.tr w2
  · show eq8 (g3.1 (ad (b + 3))) _
    simp only [g3]
    simp (disch := (first | assumption | omega | (apply Inj.ne <;> first | assumption | omega) | fail)) only [nn_S, nm_D, ck_T, c2_S, on_N, on_S, lit, mNEG, nI_add, pk_mul, inb_nI, nI_clamp, wrI_row, wrL_row, rdR_rowI, rdR_rowL, rdI_def, rdL_def, rowI_same, rowI_ne, rowI_rowI, rowL_same, rowL_ne, rowL_1, rowI_21, upd_same, upd_ne, nI_le_T, nI_le_F, nI_lt_T, nI_lt_F, nI_eq_F, nI_NEG, NEG_lt0, nI_p, eq_self, if_true, if_false]
    rw [x3] at d2
    exact d2.tr w3
def TOPX (T : T4) : Nat → Int32 := topT T.1 T.2.2.2
def TOPA (A : ALog) (n : Nat) : Nat → Int32 := TOPX (layT (LSUM A) 0 n T40)
/-- the class's tower holds T -/
def TwS (g : Hg) (ad : Nat → Nat) (T : T4) : Prop := g.1 (ad 10) 4 = nI T.1 ∧ TwH T (g.1 (ad 11)) (g.1 (ad 12)) (g.1 (ad 13))
theorem TwS.fr {R : Nat → Prop} {ad : Nat → Nat} {g g1 : Hg} {T : T4} (h : TwS g ad T) (hf : Fr ad R g g1) (n : ¬ R 10 ∧ ¬ R 11 ∧ ¬ R 12 ∧ ¬ R 13) : TwS g1 ad T := by
  unfold TwS
  rw [hf.I n.1, hf.I n.2.1, hf.I n.2.2.1, hf.I n.2.2.2]
  exact h
theorem bin40 : BinO 0 T40 := bin_0
theorem Fr.chU {ad : Nat → Nat} (hI : Inj ad) {g g1 : Hg} (h : ChU (ad 10) (ad 11) (ad 12) (ad 13) (ad 2) (ad 3) g g1) : Fr ad (fun r => r = 2 ∨ r = 3 ∨ 10 ≤ r ∧ r ≤ 13) g g1 := Fr.ch h (fun r q => by
  rcases q with q | q | q | q | q | q <;> have := hI _ _ q <;> omega)
theorem c_clear {N : Nat} {S : Hs} {g : Hg} {ad : Nat → Nat} (hI : Inj ad) : ∃ g1, f_X9_clear N S g (ad 10) = some ((), g1) ∧ Fr ad (fun r => r = 10) g g1 ∧ TwS g1 ad T40 := by
  refine ⟨rowI g (ad 10) (upd (g.1 (ad 10)) 4 (nI 0)), ?_, Fr.row hI rfl, ?_, fun i hi => absurd hi (by show ¬ i < 0; omega)⟩
  · show b_X9_clear_0 N S g _ = _
    unfold b_X9_clear_0
    simp (disch := (first | assumption | omega | (apply Inj.ne <;> first | assumption | omega) | fail)) only [nn_S, nm_D, ck_T, c2_S, on_N, on_S, lit, mNEG, nI_add, pk_mul, inb_nI, nI_clamp, wrI_row, wrL_row, rdR_rowI, rdR_rowL, rdI_def, rdL_def, rowI_same, rowI_ne, rowI_rowI, rowL_same, rowL_ne, rowL_1, rowI_21, upd_same, upd_ne, nI_le_T, nI_le_F, nI_lt_T, nI_lt_F, nI_eq_F, nI_NEG, NEG_lt0, nI_p, eq_self, if_true, if_false]
  · simp (disch := (first | assumption | omega | (apply Inj.ne <;> first | assumption | omega) | fail)) only [nn_S, nm_D, ck_T, c2_S, on_N, on_S, lit, mNEG, nI_add, pk_mul, inb_nI, nI_clamp, wrI_row, wrL_row, rdR_rowI, rdR_rowL, rdI_def, rdL_def, rowI_same, rowI_ne, rowI_rowI, rowL_same, rowL_ne, rowL_1, rowI_21, upd_same, upd_ne, nI_le_T, nI_le_F, nI_lt_T, nI_lt_F, nI_eq_F, nI_NEG, NEG_lt0, nI_p, eq_self, if_true, if_false]
    rfl
theorem c_writeTopR {N : Nat} (hN : 40000 ≤ N) {S : Hs} {g : Hg} {ad : Nat → Nat} (hI : Inj ad) {t p : Nat} {T : T4} (ht : t ≠ 2 ∧ t ≠ 3 ∧ t ≠ 10 ∧ t ≠ 11 ∧ t ≠ 12 ∧ t ≠ 13) (hl : hpL S (ad t) = 8) (hS : ScP S g ad) (hT : TwS g ad T) (hB : BinO p T) (hp : p < 512) :
    ∃ g1, f_X9_writeTop N S g (ad 10) (ad t) = some ((), g1) ∧ Fr ad (fun r => r = 2 ∨ r = 3 ∨ r = t) g g1 ∧ eq8 (g1.1 (ad t)) (TOPX T) := by
  have hh := bin_h hB hp
  obtain ⟨g1, a1, a2, a3⟩ := c_writeTop (N := N) (show 30 ≤ N by omega) (g := g) (to := ad t) (hS.tw hI) (tg8 hI ⟨ht.1, ht.2.1⟩ hl) (hI.ne (by omega)) (hI.ne (by omega)) (show T.1 ≤ 12 by omega) hT.1 hT.2
  exact ⟨g1, a1, Fr.ch3 hI a2, a3⟩
theorem c_topOf {N : Nat} (hN : 40000 ≤ N) {S : Hs} {g : Hg} {ad : Nat → Nat} (hI : Inj ad) {b t n : Nat} {A : ALog} {x : Int32} (e : x = nI n) (hb : 100 ≤ b) (ht : 16 ≤ t) (hl : hpL S (ad t) = 8) (hn : n ≤ lsz A) (hS : ScP S g ad) (hC : CLO S g ad b A) :
    ∃ g1, f_X8_topOf N S g (ad 9) (ad b) x (ad t) = some ((), g1) ∧ Fr ad (fun r => r = 2 ∨ r = 3 ∨ 10 ≤ r ∧ r ≤ 13 ∨ r = t) g g1 ∧ eq8 (g1.1 (ad t)) (TOPA A n) := by
  subst e
  have hsz := hC.2.2.1
  obtain ⟨g1, a1, a2, a3⟩ := c_clear (N := N) (S := S) (g := g) hI
  have hS1 := hS.fr a2.1
  have hC1 := hC.fr a2 (fun r r1 r2 => by omega)
  obtain ⟨g2, b1, b2, b3, b4⟩ := c_climb (N := N) (show 500 ≤ N by omega) (S := S) (g := g1) (lo_ := ad b) (sums := ad (b + 6)) (b := n) (sz := lsz A) (T := T40) (x2 := nI n) (lky A) (lvl A) rfl hn hsz hC.1.2.2.2.1.2.2.2.1 (hI.ne (by omega)) (hI.ne (by omega)) (hI.ne (by omega)) (hI.ne (by omega)) (hI.ne (by omega)) (hI.ne (by omega)) (hS1.tw hI) hC1.1.1.2.2.2.2.2.1 bin40 a3.1 a3.2 hC1.2.1.2.2.2.2.1
  have f2 := Fr.chU hI b2
  have hS2 := hS1.fr f2.1
  obtain ⟨g3, c1, c2', c3⟩ := c_writeTopR hN hI (t := t) (p := n) (T := layT (LSUM A) 0 n T40) (by omega) hl hS2 ⟨b3, b4⟩ (layT_bin _ (Nat.zero_le _) bin40) (by omega)
  refine ⟨g3, ?_, ((a2.mono (fun r h => by omega)).tr (f2.mono (fun r h => by omega))).tr (c2'.mono (fun r h => by omega)), c3⟩
  show b_X8_topOf_0 N S g _ _ _ _ = _
  unfold b_X8_topOf_0
  rw [hS.2.2.1.2.2.1, nn_S, a1, c2_S, hS1.2.2.1.2.2.1, nn_S, b1, c2_S, hS2.2.2.1.2.2.1, nn_S, c1, c2_S]
theorem c_writeTree {N : Nat} (hN : 40000 ≤ N) {S : Hs} {g : Hg} {ad : Nat → Nat} (hI : Inj ad) {b t n m : Nat} {ins : Nat → Nat} {A : ALog} (hb : 100 ≤ b) (hl : hpL S (ad t) = 8) (hS : ScP S g ad) (hC : CLO S g ad b A) (hR : MapR g ad A n m ins) (hIns : InsOk A n m ins) :
    ∃ g1, f_X4_writeTree N S g (ad 4) (ad (b + 1)) (ad t) = some ((), g1) ∧ Fr ad (fun r => r = 2 ∨ r = 3 ∨ r = 7 ∨ r = t) g g1 ∧ eq8 (g1.1 (ad t)) (TREEA A n) := by
  obtain ⟨g1, a1, a2, a3, a4⟩ := c_plant hN hI hb hC.2.2 hIns 256 300 g 0 m 0 (by omega) (by omega) (by omega) (Nat.le_refl _) (by omega) (fun i j _ _ _ _ e he => absurd he (by omega)) hS hC.1 hC.2.1.2.2.2.2.2.1 hR
  have hS1 := hS.fr a2.1
  obtain ⟨r, b1, b2⟩ := c_copy0 (N := N) (S := S) (g := g1) (a := ad 7) (b := ad t) (Or.inr (by rw [hS1.2.1.2.2.2.2.2.2.2.1]; omega)) hl
  refine ⟨rowI g1 (ad t) r, ?_, (a2.mono (fun r h => by omega)).tr (Fr.row hI (Or.inr (Or.inr (Or.inr rfl)))), ?_⟩
  · show b_X4_writeTree_0 N S g _ _ _ = _
    unfold b_X4_writeTree_0
    rw [show rdI g (ad 4) 5 = nI m from hR.2.1, show (0 : Int32) = nI 0 from rfl, a1, c2_S, hS1.2.1.2.2.2.1, nn_S]
    rw [show f_X11_copySum N S g1 (ad 7) (nI 0) (ad t) (nI 0) = _ from b1, c2_S]
  · rw [rowI_same]
    refine b2.tr ?_
    rw [seg0] at a3
    refine a3.tr ?_
    unfold TREEA
    rw [TREE_perm _ 256 (hIns.len hC.2.2)]
    exact eq8.rf
/-- only the cache of the TREE has changed -/
theorem c_treeOf {N : Nat} (hN : 40000 ≤ N) {S : Hs} {g : Hg} {ad : Nat → Nat} (hI : Inj ad) {b t n : Nat} {A : ALog} {x : Int32} (e : x = nI n) (hb : 100 ≤ b) (ht : 8 ≤ t) (htb : t < b ∨ b + 14 ≤ t) (hl : hpL S (ad t) = 8) (hn : n ≤ lsz A) (hS : ScP S g ad) (hC : CLO S g ad b A) :
    ∃ g1, f_X8_treeOf N S g (ad 9) (ad b) x (ad t) = some ((), g1) ∧ Fr ad (fun r => 2 ≤ r ∧ r ≤ 7 ∨ r = b ∨ r = b + 7 ∨ r = t) g g1 ∧ eq8 (g1.1 (ad t)) (TREEA A n) ∧ CLO S g1 ad b A := by
  subst e
  have hsz := hC.2.2.1
  obtain ⟨hP, hV, hW⟩ := id hC
  have l7 := hP.2.2.2.1.2.2.2.2
  have fin : ∀ (g : Hg), CLO S g ad b A → eq8 (g.1 (ad (b + 7))) (TREEA A n) → ∃ g1, b_X8_treeOf_37 N S g (ad b) (ad t) = some ((), g1) ∧ Fr ad (fun r => r = t) g g1 ∧ eq8 (g1.1 (ad t)) (TREEA A n) ∧ CLO S g1 ad b A := by
    intro g hC hv
    obtain ⟨r, b1, b2⟩ := c_copy0 (N := N) (S := S) (g := g) (a := ad (b + 7)) (b := ad t) (Or.inl l7) hl
    have hf : Fr ad (fun r => r = t) g (rowI g (ad t) r) := Fr.row hI rfl
    refine ⟨rowI g (ad t) r, ?_, hf, by rw [rowI_same]; exact b2.tr hv, hC.fr hf (fun r r1 r2 => by omega)⟩
    unfold b_X8_treeOf_37
    rw [hC.1.1.2.2.2.2.2.2, nn_S, b1, c2_S]
  by_cases hc : g.1 (ad b) 9 = nI n
  · have hcache : eq8 (g.1 (ad (b + 7))) (TREEA A n) := by
      rcases hV.2.2.2.2.2.2.2 with h | ⟨n1, n2, n3, n4⟩
      · rw [hc, nI_NEG (by omega)] at h
        exact h.elim
      · rw [hc, nI_eq (by omega) (by omega)] at n3
        rw [n3]
        exact n4
    obtain ⟨g1, a1, a2, a3, a4⟩ := fin g hC hcache
    refine ⟨g1, ?_, a2.mono (fun r h => by omega), a3, a4⟩
    show b_X8_treeOf_0 N S g _ _ _ _ = _
    unfold b_X8_treeOf_0
    rw [if_pos (show rdI g (ad b) 9 = nI n from hc)]
    exact a1
  · obtain ⟨g1, m, ins, a1, a2, a3, a4⟩ := c_read hN hI hb hW (x := nI n) rfl hn hS hP hV.2.2.2.2.2.2.1 hV.2.1 hV.2.2.2.2.2.1
    have hS1 := hS.fr a2.1
    have hC1 := hC.fr a2 (fun r r1 r2 => by omega)
    obtain ⟨g2, b1, b2, b3⟩ := c_writeTree hN hI hb (t := b + 7) l7 hS1 hC1 a3 a4
    have i2 : ∀ r, b ≤ r → r < b + 14 → r ≠ b + 7 → g2.1 (ad r) = g.1 (ad r) ∧ g2.2.1 (ad r) = g.2.1 (ad r) := fun r r1 r2 r3 => by
      have u1 := b2.2 r (by omega)
      have u2 := a2.2 r (by omega)
      exact ⟨u1.1.trans u2.1, u1.2.trans u2.2⟩
    have hC3 : CLO S (rowI g2 (ad b) (upd (g2.1 (ad b)) 9 (nI n))) ad b A := by
      refine ⟨hP.fr (by show g2.2.2 = _; rw [b2.1, a2.1]), ?_, hW⟩
      have j : ∀ r, 0 < r → r < 14 → r ≠ 7 → (rowI g2 (ad b) (upd (g2.1 (ad b)) 9 (nI n))).1 (ad (b + r)) = g.1 (ad (b + r)) := fun r r0 r1 r2 => by
        rw [rowI_ne _ _ (hI.ne (by omega))]
        exact (i2 (b + r) (by omega) (by omega) (by omega)).1
      have l5 : (rowI g2 (ad b) (upd (g2.1 (ad b)) 9 (nI n))).2.1 (ad (b + 5)) = g.2.1 (ad (b + 5)) := (i2 (b + 5) (by omega) (by omega) (by omega)).2
      have j0 : (rowI g2 (ad b) (upd (g2.1 (ad b)) 9 (nI n))).1 (ad b) = upd (g.1 (ad b)) 9 (nI n) := by
        rw [rowI_same, (i2 b (by omega) (by omega) (by omega)).1]
      have j7 : (rowI g2 (ad b) (upd (g2.1 (ad b)) 9 (nI n))).1 (ad (b + 7)) = g2.1 (ad (b + 7)) := rowI_ne _ _ (hI.ne (by omega))
      unfold CLog CNum CKy CKey CMark at hV ⊢
      rw [j0, l5, j7, j 1 (by omega) (by omega) (by omega), j 2 (by omega) (by omega) (by omega), j 3 (by omega) (by omega) (by omega), j 4 (by omega) (by omega) (by omega), j 6 (by omega) (by omega) (by omega), j 8 (by omega) (by omega) (by omega), j 9 (by omega) (by omega) (by omega), j 10 (by omega) (by omega) (by omega), j 11 (by omega) (by omega) (by omega), j 12 (by omega) (by omega) (by omega), j 13 (by omega) (by omega) (by omega)]
      obtain ⟨x1, x2, x3, x4, x5, x6, x7, x8⟩ := hV
      refine ⟨⟨by rw [upd_ne _ _ (by decide)]; exact x1.1, by rw [upd_ne _ _ (by decide)]; exact x1.2⟩, x2, x3, x4, x5, x6, x7, Or.inr ⟨n, hn, upd_same _ _ _, b3⟩⟩
    obtain ⟨g4, c1, c2', c3, c4⟩ := fin _ hC3 (by rw [rowI_ne _ _ (hI.ne (by omega))]; exact b3)
    refine ⟨g4, ?_, ((a2.mono (fun r h => by omega)).tr (b2.mono (fun r h => by omega))).tr (Fr.rt hI (c2'.mono (fun r h => by omega)) (by omega)), c3, c4⟩
    show b_X8_treeOf_0 N S g _ _ _ _ = _
    unfold b_X8_treeOf_0
    have p1 : rdR g1 (ad b) 0 = some (ad (b + 1)) := hC1.1.1.1
    rw [if_neg (show ¬ rdI g (ad b) 9 = nI n from hc), hS.2.2.1.2.1, nn_S, a1, c2_S, hS1.2.2.1.2.1, nn_S, p1, nn_S, hC1.1.1.2.2.2.2.2.2, nn_S, b1, c2_S, nm_D, wrI_row]
    exact c1
def HEADA (A : ALog) (l : Int32) (n : Nat) : AHd := (true, (nI n, l, lkp A), (TOPA A n, TREEA A n, MARK (lkp A) (nI n) (TOPA A n) (TREEA A n)))
theorem c_makeHead {N : Nat} (hN : 40000 ≤ N) {S : Hs} {g : Hg} {ad : Nat → Nat} (hI : Inj ad) {b n : Nat} {A : ALog} {x : Int32} (l : Int32) (e : x = nI n) (hb : 100 ≤ b) (hn : n ≤ lsz A) (hS : ScP S g ad) (hC : CLO S g ad b A) (hP : HdP S g ad 16) :
    ∃ g1, f_X8_makeHead N S g (ad 9) (ad b) l x (ad 16) = some ((), g1) ∧ Fr ad (fun r => 2 ≤ r ∧ r ≤ 7 ∨ 10 ≤ r ∧ r ≤ 13 ∨ 16 ≤ r ∧ r ≤ 19 ∨ r = b ∨ r = b + 7) g g1 ∧ HdO S g1 ad 16 (HEADA A l n) ∧ CLO S g1 ad b A := by
  subst e
  obtain ⟨p1, p2, p3, p4, p5, p6⟩ := id hP
  let g0 : Hg := rowI g (ad 16) (upd (upd (upd (upd (g.1 (ad 16)) 3 (nI 1)) 4 (nI n)) 5 l) 6 (lkp A))
  have f0 : Fr ad (fun r => r = 16) g g0 := Fr.row hI rfl
  have hS0 : ScP S g0 ad := hS.fr rfl
  have hC0 : CLO S g0 ad b A := hC.fr f0 (fun r r1 r2 => by omega)
  obtain ⟨g1, a1, a2, a3⟩ := c_topOf hN hI (t := 17) (x := nI n) rfl hb (by omega) p4 hn hS0 hC0
  have hS1 := hS0.fr a2.1
  have hC1 := hC0.fr a2 (fun r r1 r2 => by omega)
  obtain ⟨g2, b1, b2, b3, b4⟩ := c_treeOf hN hI (t := 18) (x := nI n) rfl hb (by omega) (by omega) p5 hn hS1 hC1
  have hS2 := hS1.fr b2.1
  have hP2 : HdP S g2 ad 16 := hP.fr (by rw [b2.1, a2.1]; rfl)
  have r16 : g2.1 (ad 16) = upd (upd (upd (upd (g.1 (ad 16)) 3 (nI 1)) 4 (nI n)) 5 l) 6 (lkp A) := by
    rw [b2.I (by omega), a2.I (by omega)]
    exact rowI_same _ _ _
  have r17 : eq8 (g2.1 (ad 17)) (TOPA A n) := by rw [b2.I (by omega)]; exact a3
  obtain ⟨g3, c1, c2', c3⟩ := c_markOf hN hI (h := 16) (t := 19) (H := HEADA A l n) (by omega) (by omega) p6 hS2 hP2 (by rw [r16]; simp (disch := (first | assumption | omega | (apply Inj.ne <;> first | assumption | omega) | fail)) only [nn_S, nm_D, ck_T, c2_S, on_N, on_S, lit, mNEG, nI_add, pk_mul, inb_nI, nI_clamp, wrI_row, wrL_row, rdR_rowI, rdR_rowL, rdI_def, rdL_def, rowI_same, rowI_ne, rowI_rowI, rowL_same, rowL_ne, rowL_1, rowI_21, upd_same, upd_ne, nI_le_T, nI_le_F, nI_lt_T, nI_lt_F, nI_eq_F, nI_NEG, NEG_lt0, nI_p, eq_self, if_true, if_false]; rfl) (by rw [r16]; simp (disch := (first | assumption | omega | (apply Inj.ne <;> first | assumption | omega) | fail)) only [nn_S, nm_D, ck_T, c2_S, on_N, on_S, lit, mNEG, nI_add, pk_mul, inb_nI, nI_clamp, wrI_row, wrL_row, rdR_rowI, rdR_rowL, rdI_def, rdL_def, rowI_same, rowI_ne, rowI_rowI, rowL_same, rowL_ne, rowL_1, rowI_21, upd_same, upd_ne, nI_le_T, nI_le_F, nI_lt_T, nI_lt_F, nI_eq_F, nI_NEG, NEG_lt0, nI_p, eq_self, if_true, if_false]; rfl) r17 b3
  refine ⟨g3, ?_, (((f0.mono (fun r h => by omega)).tr (a2.mono (fun r h => by omega))).tr (b2.mono (fun r h => by omega))).tr (c2'.mono (fun r h => by omega)), ⟨hP2.fr c2'.1, ⟨?_, ?_, ?_, ?_⟩, ?_, ?_, c3⟩, b4.fr c2' (fun r r1 r2 => by omega)⟩
  · show b_X8_makeHead_0 N S g _ _ _ _ _ = _
    unfold b_X8_makeHead_0
    simp (disch := (first | assumption | omega | (apply Inj.ne <;> first | assumption | omega) | fail)) only [nn_S, nm_D, ck_T, c2_S, on_N, on_S, lit, mNEG, nI_add, pk_mul, inb_nI, nI_clamp, wrI_row, wrL_row, rdR_rowI, rdR_rowL, rdI_def, rdL_def, rowI_same, rowI_ne, rowI_rowI, rowL_same, rowL_ne, rowL_1, rowI_21, upd_same, upd_ne, nI_le_T, nI_le_F, nI_lt_T, nI_lt_F, nI_eq_F, nI_NEG, NEG_lt0, nI_p, eq_self, if_true, if_false, show g.1 (ad b) 6 = lkp A from hC.2.1.1.1, p1]
    rw [show f_X8_topOf N S (rowI g (ad 16) (upd (upd (upd (upd (g.1 (ad 16)) 3 (nI 1)) 4 (nI n)) 5 l) 6 (lkp A))) (ad 9) (ad b) (nI n) (ad (16 + 1)) = _ from a1, c2_S, show rdR g1 (ad 16) 1 = some (ad 18) by rw [a2.P]; exact p2, nn_S, b1, c2_S, hS2.2.2.1.1, nn_S, hP2.2.2.1, nn_S, c1, c2_S]
  · rw [c2'.I (by omega), r16]; simp (disch := (first | assumption | omega | (apply Inj.ne <;> first | assumption | omega) | fail)) only [nn_S, nm_D, ck_T, c2_S, on_N, on_S, lit, mNEG, nI_add, pk_mul, inb_nI, nI_clamp, wrI_row, wrL_row, rdR_rowI, rdR_rowL, rdI_def, rdL_def, rowI_same, rowI_ne, rowI_rowI, rowL_same, rowL_ne, rowL_1, rowI_21, upd_same, upd_ne, nI_le_T, nI_le_F, nI_lt_T, nI_lt_F, nI_eq_F, nI_NEG, NEG_lt0, nI_p, eq_self, if_true, if_false]; rfl
  · rw [c2'.I (by omega), r16]; simp (disch := (first | assumption | omega | (apply Inj.ne <;> first | assumption | omega) | fail)) only [nn_S, nm_D, ck_T, c2_S, on_N, on_S, lit, mNEG, nI_add, pk_mul, inb_nI, nI_clamp, wrI_row, wrL_row, rdR_rowI, rdR_rowL, rdI_def, rdL_def, rowI_same, rowI_ne, rowI_rowI, rowL_same, rowL_ne, rowL_1, rowI_21, upd_same, upd_ne, nI_le_T, nI_le_F, nI_lt_T, nI_lt_F, nI_eq_F, nI_NEG, NEG_lt0, nI_p, eq_self, if_true, if_false]; rfl
  · rw [c2'.I (by omega), r16]; simp (disch := (first | assumption | omega | (apply Inj.ne <;> first | assumption | omega) | fail)) only [nn_S, nm_D, ck_T, c2_S, on_N, on_S, lit, mNEG, nI_add, pk_mul, inb_nI, nI_clamp, wrI_row, wrL_row, rdR_rowI, rdR_rowL, rdI_def, rdL_def, rowI_same, rowI_ne, rowI_rowI, rowL_same, rowL_ne, rowL_1, rowI_21, upd_same, upd_ne, nI_le_T, nI_le_F, nI_lt_T, nI_lt_F, nI_eq_F, nI_NEG, NEG_lt0, nI_p, eq_self, if_true, if_false]; rfl
  · rw [c2'.I (by omega), r16]; simp (disch := (first | assumption | omega | (apply Inj.ne <;> first | assumption | omega) | fail)) only [nn_S, nm_D, ck_T, c2_S, on_N, on_S, lit, mNEG, nI_add, pk_mul, inb_nI, nI_clamp, wrI_row, wrL_row, rdR_rowI, rdR_rowL, rdI_def, rdL_def, rowI_same, rowI_ne, rowI_rowI, rowL_same, rowL_ne, rowL_1, rowI_21, upd_same, upd_ne, nI_le_T, nI_le_F, nI_lt_T, nI_lt_F, nI_eq_F, nI_NEG, NEG_lt0, nI_p, eq_self, if_true, if_false]; rfl
  · show eq8 (g3.1 (ad 17)) _
    rw [c2'.I (by omega)]; exact r17
  · show eq8 (g3.1 (ad 18)) _
    rw [c2'.I (by omega)]; exact b3
