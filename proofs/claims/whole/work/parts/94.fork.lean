/-! fork -/
def hidF (f : Nat → Bool) (h : Bool) : Nat → Nat
  | 0 => 0
  | k + 1 => if f k = h then hidF f h k + 1 else hidF f h k
theorem hidC_F (A : ALog) (h : Bool) : ∀ k, hidC A h k = hidF (mhi A) h k
  | 0 => rfl
  | k + 1 => by
    show (if mhi A k = h then hidC A h k + 1 else hidC A h k) = (if mhi A k = h then hidF (mhi A) h k + 1 else hidF (mhi A) h k)
    rw [hidC_F A h k]
theorem hidF_va (f : Nat → Bool) (m : Nat) (b h : Bool) : ∀ k, k ≤ m → hidF (va_up f m b) h k = hidF f h k
  | 0, _ => rfl
  | k + 1, hk => by
    show (if va_up f m b k = h then hidF (va_up f m b) h k + 1 else hidF (va_up f m b) h k) = (if f k = h then hidF f h k + 1 else hidF f h k)
    rw [hidF_va f m b h k (by omega), va_ne _ _ (by omega)]
theorem hidF_le (f : Nat → Bool) (h : Bool) : ∀ k, hidF f h k ≤ k
  | 0 => Nat.le_refl _
  | k + 1 => by
    have := hidF_le f h k
    show (if f k = h then hidF f h k + 1 else hidF f h k) ≤ k + 1
    by_cases c : f k = h
    · rw [if_pos c]; omega
    · rw [if_neg c]; omega
theorem hidF_sum (f : Nat → Bool) : ∀ k, hidF f true k + hidF f false k = k
  | 0 => rfl
  | k + 1 => by
    have := hidF_sum f k
    show (if f k = true then hidF f true k + 1 else hidF f true k) + (if f k = false then hidF f false k + 1 else hidF f false k) = k + 1
    cases f k
    · rw [if_neg (by decide), if_pos rfl]; omega
    · rw [if_pos rfl, if_neg (by decide)]; omega
/-- the words of the new LOG -/
def FkW (g : Hg) (ad : Nat → Nat) (to : Nat) (M : Nat × (Nat → Int32) × (Nat → Nat) × (Nat → Bool)) : Prop := ∀ j, j < M.1 → g.1 (ad 20007) (100 * to + j) = M.2.1 j ∧ g.1 (ad 20008) (100 * to + j) = nI (M.2.2.1 j) ∧ g.1 (ad 20009) (100 * to + j) = bI (M.2.2.2 j)
def FkF (ad : Nat → Nat) (to : Nat) (g g1 : Hg) : Prop := ∀ r, 20007 ≤ r → r ≤ 20009 → ∀ j, j < 100 * to ∨ 100 * to + 100 ≤ j → g1.1 (ad r) j = g.1 (ad r) j
theorem m_fork203 {N : Nat} {S : Hs} {ad : Nat → Nat} (hI : Inj ad) {l to n_ : Nat} {A : ALog} (hl : l < to) (hto : to < 6) (hW : LogWf A) (hn : n_ ≤ 400) : ∀ (f n k : Nat) (g : Hg), k + f = lmk A → f < n → RfP S g ad → g.1 (ad 20000) 1 = nI to → (∀ j, j < lmk A → g.1 (ad 20007) (100 * l + j) = mky A j ∧ g.1 (ad 20008) (100 * l + j) = nI (msi A j) ∧ g.1 (ad 20009) (100 * l + j) = bI (mhi A j)) → FkW g ad to (cutM A n_ k) →
    ∃ g1, n_X12_fork_203 N S n g (ad 20000) (nI l) (nI n_) (nI to) (nI (lmk A)) (nI (hidF (cutM A n_ k).2.2.2 true (cutM A n_ k).1)) (nI (cutM A n_ k).1) (nI k) = some (nI to, g1) ∧ Fr ad (fun r => r = 20000 ∨ r = 20001 ∨ 20007 ≤ r ∧ r ≤ 20009) g g1 ∧ FkW g1 ad to (cutM A n_ (lmk A)) ∧ FkF ad to g g1 ∧ g1.1 (ad 20000) = upd (g.1 (ad 20000)) 1 (nI (to + 1)) ∧ g1.1 (ad 20001) = upd (upd (g.1 (ad 20001)) (4 * to + 2) (nI (hidF (cutM A n_ (lmk A)).2.2.2 true (cutM A n_ (lmk A)).1))) (4 * to + 3) (nI (hidF (cutM A n_ (lmk A)).2.2.2 false (cutM A n_ (lmk A)).1)) := by
  have hm := hW.2.1
  intro f
  induction f with
  | zero =>
    intro n k g h1 h2 hR h1to hS hF
    obtain ⟨n, rfl⟩ : ∃ z, n = z + 1 := ⟨n - 1, by omega⟩
    obtain rfl : k = lmk A := by omega
    have hle := cutM_le A n_ (lmk A)
    have hsum := hidF_sum (cutM A n_ (lmk A)).2.2.2 (cutM A n_ (lmk A)).1
    generalize hM : cutM A n_ (lmk A) = M at *
    have p0 : rdR _ (ad 20000) 0 = some (ad 20001) := hR.p 0 (by decide)
    have l0 : hpL _ (ad 20001) = 24 := hR.l 0 (by decide) rfl
    have es : nI M.1 - nI (hidF M.2.2.2 true M.1) = nI (hidF M.2.2.2 false M.1) := by
      rw [pk_sub (by omega)]
      congr 1
      omega
    let g1 : Hg := rowI (rowI g (ad 20001) (upd (upd (g.1 (ad 20001)) (4 * to + 2) (nI (hidF M.2.2.2 true M.1))) (4 * to + 3) (nI (hidF M.2.2.2 false M.1)))) (ad 20000) (upd (g.1 (ad 20000)) 1 (nI (to + 1)))
    have f1 : Fr ad (fun r => r = 20000 ∨ r = 20001) g g1 := Fr.rt hI (Fr.row hI (by omega)) (by omega)
    refine ⟨g1, ?_, f1.mono (fun r h => by omega), ?_, fun r r1 r2 j hj => by rw [f1.I (by omega)], rowI_same _ _ _, ?_⟩
    · show b_X12_fork_203 N S (n_X12_fork_203 N S n) g _ _ _ _ _ _ _ _ = _
      unfold b_X12_fork_203
      simp (disch := (first | assumption | omega | (apply Inj.ne <;> first | assumption | omega) | fail)) only [nn_S, nm_D, ck_T, c2_S, on_N, on_S, lit, mNEG, nI_add, pk_mul, inb_nI, nI_clamp, wrI_row, wrL_row, rdR_rowI, rdR_rowL, rdI_def, rdL_def, rowI_same, rowI_ne, rowI_rowI, rowL_same, rowL_ne, rowL_1, rowI_21, upd_same, upd_ne, nI_le_T, nI_le_F, nI_lt_T, nI_lt_F, nI_eq_F, nI_NEG, NEG_lt0, nI_p, eq_self, if_true, if_false, p0, l0, es, h1to]
      rfl
    · unfold FkW
      rw [f1.I (by omega), f1.I (by omega), f1.I (by omega)]
      exact hF
    · show (rowI (rowI g _ _) _ _).1 _ = _
      rw [rowI_ne _ _ (hI.ne (by decide)), rowI_same]
  | succ f ih =>
    intro n k g h1 h2 hR h1to hS hF
    obtain ⟨n, rfl⟩ : ∃ z, n = z + 1 := ⟨n - 1, by omega⟩
    have hle := cutM_le A n_ k
    obtain ⟨v1, v2, v3⟩ := hS k (by omega)
    have hms := hW.2.2.1 k (by omega)
    have hsz := hW.1
    have p6 : rdR _ (ad 20000) 6 = some (ad 20007) := hR.p 6 (by decide)
    have l6 : hpL _ (ad 20007) = 600 := hR.l 6 (by decide) rfl
    have p7 : rdR _ (ad 20000) 7 = some (ad 20008) := hR.p 7 (by decide)
    have l7 : hpL _ (ad 20008) = 600 := hR.l 7 (by decide) rfl
    have p8 : rdR _ (ad 20000) 8 = some (ad 20009) := hR.p 8 (by decide)
    have l8 : hpL _ (ad 20009) = 600 := hR.l 8 (by decide) rfl
    by_cases c : msi A k ≤ n_
    · have ec : cutM A n_ (k + 1) = ((cutM A n_ k).1 + 1, upd (cutM A n_ k).2.1 (cutM A n_ k).1 (mky A k), va_up (cutM A n_ k).2.2.1 (cutM A n_ k).1 (msi A k), va_up (cutM A n_ k).2.2.2 (cutM A n_ k).1 (mhi A k)) := by rw [cutM_s, if_pos c]
      generalize hM : cutM A n_ k = M at *
      let g1 : Hg := rowI (rowI (rowI g (ad 20007) (upd (g.1 (ad 20007)) (100 * to + M.1) (mky A k))) (ad 20008) (upd (g.1 (ad 20008)) (100 * to + M.1) (nI (msi A k)))) (ad 20009) (upd (g.1 (ad 20009)) (100 * to + M.1) (bI (mhi A k)))
      have f1 : Fr ad (fun r => 20007 ≤ r ∧ r ≤ 20009) g g1 := Fr.rt hI (Fr.rt hI (Fr.row hI (by omega)) (by omega)) (by omega)
      have e7 : g1.1 (ad 20007) = upd (g.1 (ad 20007)) (100 * to + M.1) (mky A k) := by simp (disch := (first | assumption | omega | (apply Inj.ne <;> first | assumption | omega) | fail)) only [nn_S, nm_D, ck_T, c2_S, on_N, on_S, lit, mNEG, nI_add, pk_mul, inb_nI, nI_clamp, wrI_row, wrL_row, rdR_rowI, rdR_rowL, rdI_def, rdL_def, rowI_same, rowI_ne, rowI_rowI, rowL_same, rowL_ne, rowL_1, rowI_21, upd_same, upd_ne, nI_le_T, nI_le_F, nI_lt_T, nI_lt_F, nI_eq_F, nI_NEG, NEG_lt0, nI_p, eq_self, if_true, if_false, g1]
      have e8 : g1.1 (ad 20008) = upd (g.1 (ad 20008)) (100 * to + M.1) (nI (msi A k)) := by simp (disch := (first | assumption | omega | (apply Inj.ne <;> first | assumption | omega) | fail)) only [nn_S, nm_D, ck_T, c2_S, on_N, on_S, lit, mNEG, nI_add, pk_mul, inb_nI, nI_clamp, wrI_row, wrL_row, rdR_rowI, rdR_rowL, rdI_def, rdL_def, rowI_same, rowI_ne, rowI_rowI, rowL_same, rowL_ne, rowL_1, rowI_21, upd_same, upd_ne, nI_le_T, nI_le_F, nI_lt_T, nI_lt_F, nI_eq_F, nI_NEG, NEG_lt0, nI_p, eq_self, if_true, if_false, g1]
      have e9 : g1.1 (ad 20009) = upd (g.1 (ad 20009)) (100 * to + M.1) (bI (mhi A k)) := by simp (disch := (first | assumption | omega | (apply Inj.ne <;> first | assumption | omega) | fail)) only [nn_S, nm_D, ck_T, c2_S, on_N, on_S, lit, mNEG, nI_add, pk_mul, inb_nI, nI_clamp, wrI_row, wrL_row, rdR_rowI, rdR_rowL, rdI_def, rdL_def, rowI_same, rowI_ne, rowI_rowI, rowL_same, rowL_ne, rowL_1, rowI_21, upd_same, upd_ne, nI_le_T, nI_le_F, nI_lt_T, nI_lt_F, nI_eq_F, nI_NEG, NEG_lt0, nI_p, eq_self, if_true, if_false, g1]
      obtain ⟨g2, a1, a2, a3, a4, a5, a6⟩ := ih n (k + 1) g1 (by omega) (by omega) (hR.fr f1.1) (by rw [f1.I (by omega)]; exact h1to) (fun j hj => by
        rw [e7, e8, e9, upd_ne _ _ (by omega), upd_ne _ _ (by omega), upd_ne _ _ (by omega)]
        exact hS j hj) (by
        rw [ec]
        intro j hj
        have hj : j < M.1 + 1 := hj
        show g1.1 (ad 20007) (100 * to + j) = upd M.2.1 M.1 (mky A k) j ∧ g1.1 (ad 20008) (100 * to + j) = nI (va_up M.2.2.1 M.1 (msi A k) j) ∧ g1.1 (ad 20009) (100 * to + j) = bI (va_up M.2.2.2 M.1 (mhi A k) j)
        rw [e7, e8, e9]
        by_cases cj : j = M.1
        · subst cj
          rw [upd_same, upd_same, upd_same, upd_same, va_same, va_same]
          exact ⟨rfl, rfl, rfl⟩
        · rw [upd_ne _ _ (by omega), upd_ne _ _ (by omega), upd_ne _ _ (by omega), upd_ne _ _ (by omega), va_ne _ _ cj, va_ne _ _ cj]
          exact hF j (by omega))
      refine ⟨g2, ?_, (f1.mono (fun r h => by omega)).tr a2, a3, fun r r1 r2 j hj => ?_, by rw [a5, f1.I (by omega)], by rw [a6, f1.I (by omega)]⟩
      · have eh : hidF (cutM A n_ (k + 1)).2.2.2 true (cutM A n_ (k + 1)).1 = if mhi A k = true then hidF M.2.2.2 true M.1 + 1 else hidF M.2.2.2 true M.1 := by
          rw [ec]
          show (if va_up M.2.2.2 M.1 (mhi A k) M.1 = true then hidF (va_up M.2.2.2 M.1 (mhi A k)) true M.1 + 1 else hidF (va_up M.2.2.2 M.1 (mhi A k)) true M.1) = _
          rw [va_same, hidF_va _ _ _ _ _ (Nat.le_refl _)]
        have em : (cutM A n_ (k + 1)).1 = M.1 + 1 := by rw [ec]
        rw [eh, em] at a1
        have hhl := hidF_le M.2.2.2 true M.1
        have v3' : (rowI (rowI (rowI g (ad 20007) (upd (g.1 (ad 20007)) (100 * to + M.1) (mky A k))) (ad 20008) (upd (g.1 (ad 20008)) (100 * to + M.1) (nI (msi A k)))) (ad 20009) (upd (g.1 (ad 20009)) (100 * to + M.1) (bI (mhi A k)))).1 (ad 20009) (100 * l + k) = bI (mhi A k) := by
          rw [rowI_same, upd_ne _ _ (by omega)]; exact v3
        show b_X12_fork_203 N S (n_X12_fork_203 N S n) g _ _ _ _ _ _ _ _ = _
        unfold b_X12_fork_203
        simp (disch := (first | assumption | omega | (apply Inj.ne <;> first | assumption | omega) | fail)) only [nn_S, nm_D, ck_T, c2_S, on_N, on_S, lit, mNEG, nI_add, pk_mul, inb_nI, nI_clamp, wrI_row, wrL_row, rdR_rowI, rdR_rowL, rdI_def, rdL_def, rowI_same, rowI_ne, rowI_rowI, rowL_same, rowL_ne, rowL_1, rowI_21, upd_same, upd_ne, nI_le_T, nI_le_F, nI_lt_T, nI_lt_F, nI_eq_F, nI_NEG, NEG_lt0, nI_p, eq_self, if_true, if_false, p6, l6, p7, l7, p8, l8, v1, v2, v3, zb_bI]
        cases hh : mhi A k with
        | true =>
          rw [hh, if_pos rfl] at a1
          rw [if_neg (show ¬ bI true = nI 0 by decide)]
          have hg1 : g1 = rowI (rowI (rowI g (ad 20007) (upd (g.1 (ad 20007)) (100 * to + M.1) (mky A k))) (ad 20008) (upd (g.1 (ad 20008)) (100 * to + M.1) (nI (msi A k)))) (ad 20009) (upd (g.1 (ad 20009)) (100 * to + M.1) (bI true)) := by rw [← hh]
          rw [hg1] at a1
          exact a1
        | false =>
          rw [hh, if_neg (by decide)] at a1
          rw [if_pos (show bI false = nI 0 from rfl)]
          have hg1 : g1 = rowI (rowI (rowI g (ad 20007) (upd (g.1 (ad 20007)) (100 * to + M.1) (mky A k))) (ad 20008) (upd (g.1 (ad 20008)) (100 * to + M.1) (nI (msi A k)))) (ad 20009) (upd (g.1 (ad 20009)) (100 * to + M.1) (bI false)) := by rw [← hh]
          rw [hg1] at a1
          exact a1
      · rw [a4 r r1 r2 j hj]
        have : r = 20007 ∨ r = 20008 ∨ r = 20009 := by omega
        rcases this with rfl | rfl | rfl
        · rw [e7, upd_ne _ _ (by omega)]
        · rw [e8, upd_ne _ _ (by omega)]
        · rw [e9, upd_ne _ _ (by omega)]
    · have ec : cutM A n_ (k + 1) = cutM A n_ k := by rw [cutM_s, if_neg c]
      obtain ⟨g2, a1, a2, a3⟩ := ih n (k + 1) g (by omega) (by omega) hR h1to hS (by rw [ec]; exact hF)
      refine ⟨g2, ?_, a2, a3⟩
      rw [ec] at a1
      show b_X12_fork_203 N S (n_X12_fork_203 N S n) g _ _ _ _ _ _ _ _ = _
      unfold b_X12_fork_203
      simp (disch := (first | assumption | omega | (apply Inj.ne <;> first | assumption | omega) | fail)) only [nn_S, nm_D, ck_T, c2_S, on_N, on_S, lit, mNEG, nI_add, pk_mul, inb_nI, nI_clamp, wrI_row, wrL_row, rdR_rowI, rdR_rowL, rdI_def, rdL_def, rowI_same, rowI_ne, rowI_rowI, rowL_same, rowL_ne, rowL_1, rowI_21, upd_same, upd_ne, nI_le_T, nI_le_F, nI_lt_T, nI_lt_F, nI_eq_F, nI_NEG, NEG_lt0, nI_p, eq_self, if_true, if_false, p7, l7, v2]
      exact a1
/-- the entries of the new LOG -/
def FkE (g : Hg) (ad : Nat → Nat) (to k : Nat) (A : ALog) : Prop := ∀ i, i < k → g.1 (ad 20003) (400 * to + i) = lky A i ∧ g.2.1 (ad 20004) (400 * to + i) = lvl A i ∧ g.1 (ad 20005) (400 * to + i) = bI (lft A i == 2) ∧ g.1 (ad 20006) (400 * to + i) = bI (lft A i == 1)
theorem m_fork55 {N : Nat} (hN : 40000 ≤ N) {S : Hs} {ad : Nat → Nat} (hI : Inj ad) {l to n_ : Nat} {A : ALog} (hl : l < to) (hto : to < 6) (hW : LogWf A) (hn : n_ ≤ lsz A) : ∀ (f n k : Nat) (g : Hg), k + f = n_ → f < n → RfP S g ad → g.1 (ad 20000) 1 = nI to → RLog g ad 0 l A → FkE g ad to k A →
    ∃ g1, n_X12_fork_55 N S n g (ad 20000) (nI l) (nI n_) (nI to) (nI k) = some (nI to, g1) ∧ Fr ad (fun r => 20000 ≤ r ∧ r ≤ 20009) g g1 ∧ FkE g1 ad to n_ A ∧ FkW g1 ad to (cutM A n_ (lmk A)) ∧ LgF ad to g g1 ∧ g1.1 (ad 20000) = upd (g.1 (ad 20000)) 1 (nI (to + 1)) ∧ g1.1 (ad 20001) = upd (upd (g.1 (ad 20001)) (4 * to + 2) (nI (hidF (cutM A n_ (lmk A)).2.2.2 true (cutM A n_ (lmk A)).1))) (4 * to + 3) (nI (hidF (cutM A n_ (lmk A)).2.2.2 false (cutM A n_ (lmk A)).1)) := by
  have hsz := hW.1
  intro f
  induction f with
  | zero =>
    intro n k g h1 h2 hR h1to hL hE
    obtain ⟨n, rfl⟩ : ∃ z, n = z + 1 := ⟨n - 1, by omega⟩
    obtain rfl : k = n_ := by omega
    have hs := hidC_sum A (lmk A)
    have hm := hW.2.1
    have p0 : rdR _ (ad 20000) 0 = some (ad 20001) := hR.p 0 (by decide)
    have l0 : hpL _ (ad 20001) = 24 := hR.l 0 (by decide) rfl
    have y3 : g.1 (ad 20001) (4 * l + 2) = nI (hidC A true (lmk A)) := hL.1.2.2.1
    have y4 : g.1 (ad 20001) (4 * l + 3) = nI (hidC A false (lmk A)) := hL.1.2.2.2
    obtain ⟨g1, a1, a2, a3, a4, a5, a6⟩ := m_fork203 (N := N) hI hl hto hW (show k ≤ 400 by omega) (lmk A) N 0 g (by omega) (by omega) hR h1to hL.2.2 (fun j hj => absurd hj (by show ¬ j < 0; omega))
    refine ⟨g1, ?_, a2.mono (fun r h => by omega), ?_, a3, ⟨fun j hj => ?_, fun r r1 r2 j hj => by rw [a2.I (by omega)], fun j hj => by rw [a2.L (by omega)], fun r r1 r2 j hj => a4 r r1 r2 j hj⟩, a5, a6⟩
    · show b_X12_fork_55 N S (n_X12_fork_55 N S n) g _ _ _ _ _ = _
      unfold b_X12_fork_55
      simp (disch := (first | assumption | omega | (apply Inj.ne <;> first | assumption | omega) | fail)) only [nn_S, nm_D, ck_T, c2_S, on_N, on_S, lit, mNEG, nI_add, pk_mul, inb_nI, nI_clamp, wrI_row, wrL_row, rdR_rowI, rdR_rowL, rdI_def, rdL_def, rowI_same, rowI_ne, rowI_rowI, rowL_same, rowL_ne, rowL_1, rowI_21, upd_same, upd_ne, nI_le_T, nI_le_F, nI_lt_T, nI_lt_F, nI_eq_F, nI_NEG, NEG_lt0, nI_p, eq_self, if_true, if_false, p0, l0, y3, y4, hs]
      exact a1
    · unfold FkE
      rw [a2.I (by omega), a2.L (by omega), a2.I (by omega), a2.I (by omega)]
      exact hE
    · rw [a6, upd_ne _ _ (by omega), upd_ne _ _ (by omega)]
  | succ f ih =>
    intro n k g h1 h2 hR h1to hL hE
    obtain ⟨n, rfl⟩ : ∃ z, n = z + 1 := ⟨n - 1, by omega⟩
    obtain ⟨v1, v2, v3, v4⟩ := hL.2.1 k (by omega)
    have v1 : g.1 (ad 20003) (400 * l + k) = lky A k := v1
    have v2 : g.2.1 (ad 20004) (400 * l + k) = lvl A k := v2
    have v3 : g.1 (ad 20005) (400 * l + k) = bI (lft A k == 2) := v3
    have v4 : g.1 (ad 20006) (400 * l + k) = bI (lft A k == 1) := v4
    have p2 : rdR _ (ad 20000) 2 = some (ad 20003) := hR.p 2 (by decide)
    have l2 : hpL _ (ad 20003) = 2400 := hR.l 2 (by decide) rfl
    have p3 : rdR _ (ad 20000) 3 = some (ad 20004) := hR.p 3 (by decide)
    have l3 : hpL _ (ad 20004) = 2400 := hR.l 3 (by decide) rfl
    have p4 : rdR _ (ad 20000) 4 = some (ad 20005) := hR.p 4 (by decide)
    have l4 : hpL _ (ad 20005) = 2400 := hR.l 4 (by decide) rfl
    have p5 : rdR _ (ad 20000) 5 = some (ad 20006) := hR.p 5 (by decide)
    have l5 : hpL _ (ad 20006) = 2400 := hR.l 5 (by decide) rfl
    let g1 : Hg := rowI (rowI (rowL (rowI g (ad 20003) (upd (g.1 (ad 20003)) (400 * to + k) (lky A k))) (ad 20004) (fun j => if j = 400 * to + k then lvl A k else g.2.1 (ad 20004) j)) (ad 20005) (upd (g.1 (ad 20005)) (400 * to + k) (bI (lft A k == 2)))) (ad 20006) (upd (g.1 (ad 20006)) (400 * to + k) (bI (lft A k == 1)))
    have f1 : Fr ad (fun r => 20003 ≤ r ∧ r ≤ 20006) g g1 := Fr.rt hI (fr_rlt hI (Fr.rt hI (Fr.row hI (by omega)) (by omega)) (by omega)) (by omega)
    have e3 : g1.1 (ad 20003) = upd (g.1 (ad 20003)) (400 * to + k) (lky A k) := by simp (disch := (first | assumption | omega | (apply Inj.ne <;> first | assumption | omega) | fail)) only [nn_S, nm_D, ck_T, c2_S, on_N, on_S, lit, mNEG, nI_add, pk_mul, inb_nI, nI_clamp, wrI_row, wrL_row, rdR_rowI, rdR_rowL, rdI_def, rdL_def, rowI_same, rowI_ne, rowI_rowI, rowL_same, rowL_ne, rowL_1, rowI_21, upd_same, upd_ne, nI_le_T, nI_le_F, nI_lt_T, nI_lt_F, nI_eq_F, nI_NEG, NEG_lt0, nI_p, eq_self, if_true, if_false, g1]
    have e4 : g1.2.1 (ad 20004) = fun j => if j = 400 * to + k then lvl A k else g.2.1 (ad 20004) j := by simp (disch := (first | assumption | omega | (apply Inj.ne <;> first | assumption | omega) | fail)) only [nn_S, nm_D, ck_T, c2_S, on_N, on_S, lit, mNEG, nI_add, pk_mul, inb_nI, nI_clamp, wrI_row, wrL_row, rdR_rowI, rdR_rowL, rdI_def, rdL_def, rowI_same, rowI_ne, rowI_rowI, rowL_same, rowL_ne, rowL_1, rowI_21, upd_same, upd_ne, nI_le_T, nI_le_F, nI_lt_T, nI_lt_F, nI_eq_F, nI_NEG, NEG_lt0, nI_p, eq_self, if_true, if_false, g1]
    have e5 : g1.1 (ad 20005) = upd (g.1 (ad 20005)) (400 * to + k) (bI (lft A k == 2)) := by simp (disch := (first | assumption | omega | (apply Inj.ne <;> first | assumption | omega) | fail)) only [nn_S, nm_D, ck_T, c2_S, on_N, on_S, lit, mNEG, nI_add, pk_mul, inb_nI, nI_clamp, wrI_row, wrL_row, rdR_rowI, rdR_rowL, rdI_def, rdL_def, rowI_same, rowI_ne, rowI_rowI, rowL_same, rowL_ne, rowL_1, rowI_21, upd_same, upd_ne, nI_le_T, nI_le_F, nI_lt_T, nI_lt_F, nI_eq_F, nI_NEG, NEG_lt0, nI_p, eq_self, if_true, if_false, g1]
    have e6 : g1.1 (ad 20006) = upd (g.1 (ad 20006)) (400 * to + k) (bI (lft A k == 1)) := by simp (disch := (first | assumption | omega | (apply Inj.ne <;> first | assumption | omega) | fail)) only [nn_S, nm_D, ck_T, c2_S, on_N, on_S, lit, mNEG, nI_add, pk_mul, inb_nI, nI_clamp, wrI_row, wrL_row, rdR_rowI, rdR_rowL, rdI_def, rdL_def, rowI_same, rowI_ne, rowI_rowI, rowL_same, rowL_ne, rowL_1, rowI_21, upd_same, upd_ne, nI_le_T, nI_le_F, nI_lt_T, nI_lt_F, nI_eq_F, nI_NEG, NEG_lt0, nI_p, eq_self, if_true, if_false, g1]
    have e4' : g1.1 (ad 20004) = g.1 (ad 20004) := by simp (disch := (first | assumption | omega | (apply Inj.ne <;> first | assumption | omega) | fail)) only [nn_S, nm_D, ck_T, c2_S, on_N, on_S, lit, mNEG, nI_add, pk_mul, inb_nI, nI_clamp, wrI_row, wrL_row, rdR_rowI, rdR_rowL, rdI_def, rdL_def, rowI_same, rowI_ne, rowI_rowI, rowL_same, rowL_ne, rowL_1, rowI_21, upd_same, upd_ne, nI_le_T, nI_le_F, nI_lt_T, nI_lt_F, nI_eq_F, nI_NEG, NEG_lt0, nI_p, eq_self, if_true, if_false, g1]
    have hF1 : LgF ad to g g1 := by
      refine ⟨fun j hj => by rw [f1.I (by omega)], fun r r1 r2 j hj => ?_, fun j hj => ?_, fun r r1 r2 j hj => by rw [f1.I (by omega)]⟩
      · have : r = 20003 ∨ r = 20004 ∨ r = 20005 ∨ r = 20006 := by omega
        rcases this with rfl | rfl | rfl | rfl
        · rw [e3, upd_ne _ _ (by omega)]
        · rw [e4']
        · rw [e5, upd_ne _ _ (by omega)]
        · rw [e6, upd_ne _ _ (by omega)]
      · rw [e4]
        show (if j = 400 * to + k then lvl A k else g.2.1 (ad 20004) j) = _
        rw [if_neg (by omega)]
    obtain ⟨g2, a1, a2, a3, a4, a5, a6, a7⟩ := ih n (k + 1) g1 (by omega) (by omega) (hR.fr f1.1) (by rw [f1.I (by omega)]; exact h1to) (hL.oth hsz hW.2.1 (by omega) hF1) (fun i hi => by
      rw [e3, e4, e5, e6]
      show upd _ _ _ _ = _ ∧ (if 400 * to + i = 400 * to + k then lvl A k else g.2.1 (ad 20004) (400 * to + i)) = lvl A i ∧ _
      by_cases ci : i = k
      · subst ci
        rw [upd_same, upd_same, upd_same, if_pos rfl]
        exact ⟨rfl, rfl, rfl, rfl⟩
      · rw [upd_ne _ _ (by omega), upd_ne _ _ (by omega), upd_ne _ _ (by omega), if_neg (by omega)]
        exact hE i (by omega))
    refine ⟨g2, ?_, (f1.mono (fun r h => by omega)).tr a2, a3, a4, ⟨fun j hj => (a5.1 j hj).trans (hF1.1 j hj), fun r r1 r2 j hj => (a5.2.1 r r1 r2 j hj).trans (hF1.2.1 r r1 r2 j hj), fun j hj => (a5.2.2.1 j hj).trans (hF1.2.2.1 j hj), fun r r1 r2 j hj => (a5.2.2.2 r r1 r2 j hj).trans (hF1.2.2.2 r r1 r2 j hj)⟩, by rw [a6, f1.I (by omega)], by rw [a7, f1.I (by omega)]⟩
    show b_X12_fork_55 N S (n_X12_fork_55 N S n) g _ _ _ _ _ = _
    unfold b_X12_fork_55
    simp (disch := (first | assumption | omega | (apply Inj.ne <;> first | assumption | omega) | fail)) only [nn_S, nm_D, ck_T, c2_S, on_N, on_S, lit, mNEG, nI_add, pk_mul, inb_nI, nI_clamp, wrI_row, wrL_row, rdR_rowI, rdR_rowL, rdI_def, rdL_def, rowI_same, rowI_ne, rowI_rowI, rowL_same, rowL_ne, rowL_1, rowI_21, upd_same, upd_ne, nI_le_T, nI_le_F, nI_lt_T, nI_lt_F, nI_eq_F, nI_NEG, NEG_lt0, nI_p, eq_self, if_true, if_false, p2, l2, p3, l3, p4, l4, p5, l5, v1, v2, v3, v4, zb_bI]
    exact a1
theorem tq_fork {B N : Nat} (hN : 40000 ≤ N) {S : Hs} {g : Hg} {ad : Nat → Nat} {m : Nat × Nat} {h : AHo} {kc : AKp} (hJ : Jn B S g ad m h kc) (x1 : Int32) (x2 : Int32) : StM B S g ad m kc (fun S g => f_X11_fork N S g (ad 0) x1 x2) (fun S g => f_X12_fork N S g (ad 20000) x1 x2) := by
  obtain ⟨hC, hR, hW, hK⟩ := id hJ
  have h6 := hW.1
  have hI := hC.inj
  have nl := hR.nl
  have bad : x1 < 0 ∨ nI h.1.1 ≤ x1 → StM B S g ad m kc (fun S g => f_X11_fork N S g (ad 0) x1 x2) (fun S g => f_X12_fork N S g (ad 20000) x1 x2) := fun hx => by
    refine StM.same hJ (r := NEG) ?_ ?_
    · show b_X11_fork_0 N S g _ _ _ = _
      unfold b_X11_fork_0
      rw [hC.p3, nn_S, hC.logF hx, c2_S, on_N]
      rfl
    · show b_X12_fork_0 N S g _ _ _ = _
      unfold b_X12_fork_0
      rw [m_isCountL nl hx, c2_S, if_pos z00]
      rfl
  rcases pk_ix x1 (show h.1.1 < 2 ^ 31 by omega) with c | c | ⟨l, hl, rfl⟩
  · exact bad (Or.inl c)
  · exact bad (Or.inr c)
  · have hA := hC.clo hl
    have hsz := hA.2.2.1
    have hL := hR.lg hl
    have bad2 : x2 < 0 ∨ nI (lsz (h.1.2 l) + 1) ≤ x2 → StM B S g ad m kc (fun S g => f_X11_fork N S g (ad 0) (nI l) x2) (fun S g => f_X12_fork N S g (ad 20000) (nI l) x2) := fun hx => by
      refine StM.same hJ (r := NEG) ?_ ?_
      · show b_X11_fork_0 N S g _ _ _ = _
        unfold b_X11_fork_0
        rw [hC.p3, nn_S, hC.logAt hl, c2_S, on_S, c_reachesF hA hx, c2_S, if_pos z00]
        rfl
      · show b_X12_fork_0 N S g _ _ _ = _
        unfold b_X12_fork_0
        rw [m_isCountN nl h6 hl hsz hx hR.1 hL, c2_S, if_pos z00]
        rfl
    rcases pk_ix x2 (show lsz (h.1.2 l) + 1 < 2 ^ 31 by omega) with c | c | ⟨n, hn, rfl⟩
    · exact bad2 (Or.inl c)
    · exact bad2 (Or.inr c)
    · have hn' : n ≤ lsz (h.1.2 l) := by omega
      have hcnt := m_isCountT (N := N) nl h6 hl hsz hn' hR.1 hL
      by_cases cf : h.1.1 = 6
      · rw [cf] at nl
        have hc6 := hC.2.2.1.2.1
        rw [cf] at hc6
        refine StM.same hJ (r := NEG) ?_ ?_
        · show b_X11_fork_0 N S g _ _ _ = _
          unfold b_X11_fork_0
          rw [hC.p3, nn_S, hC.logAt hl, c2_S, on_S, c_reachesT hA hn', c2_S, if_neg z10, hC.p3, nn_S, c_nextLogF hc6, c5_S, on_N]
          rfl
        · show b_X12_fork_0 N S g _ _ _ = _
          unfold b_X12_fork_0
          rw [hcnt, c2_S, if_neg z10, rdI_def, nl, if_pos (show nI 6 = (6 : Int32) from rfl)]
          rfl
      · have hlt : h.1.1 < 6 := by omega
        have hroom := hC.1.2
        obtain ⟨ad1, S1, g1, k, w, ml1, a1, a2, a3, a4, a5, a6, a7, a8, a9, a10, a11⟩ := c_nextLog (N := N) hlt hC.1.1 (by unfold phi phH at hroom; omega) hC.2.2.1.1 hC.2.2.1.2.1 hC.2.2.1.2.2.1
        have hA1 := hA.mv a2 (fun r r1 r2 => by omega)
        obtain ⟨g2, od, b1, b2, b3⟩ := c_copyFirst (N := N) hN a3.1 (x := nI n) (b := 100 + 100 + 20 * h.1.1) (c := 200 + 20 * l) rfl (by omega) (by omega) hn' a7 hA1
        have b2' : Fr ad1 (fun r => 200 + 20 * h.1.1 ≤ r ∧ r < 214 + 20 * h.1.1) g1 g2 := b2.mono (fun r h => by omega)
        obtain ⟨d1, d2, d3, d4, d5, d6⟩ := hC.grow hW hlt a2 a3 a4 a5 a6 a8 a10 a11 b2' b3
        have hI1 := a3.1
        have hR1 := hR.mv d4 (fun r hr => by omega)
        have nl1 := hR1.nl
        have hL1 := hR1.lg hl
        have hcnt1 := m_isCountT (N := N) nl1 h6 hl hsz hn' hR1.1 hL1
        have p0 : rdR g2 (ad1 20000) 0 = some (ad1 20001) := hR1.1.p 0 (by decide)
        have l0 : hpL S1 (ad1 20001) = 24 := hR1.1.l 0 (by decide) rfl
        have y1 : g2.1 (ad1 20001) (4 * l) = lkp (h.1.2 l) := hL1.1.1
        generalize hnl : h.1.1 = q at *
        let g3 : Hg := rowI g2 (ad1 20001) (upd (upd (g2.1 (ad1 20001)) (4 * q) (lkp (h.1.2 l))) (4 * q + 1) (nI n))
        have f3 : Fr ad1 (fun r => r = 20001) g2 g3 := Fr.row hI1 rfl
        have e31 : g3.1 (ad1 20001) = upd (upd (g2.1 (ad1 20001)) (4 * q) (lkp (h.1.2 l))) (4 * q + 1) (nI n) := rowI_same _ _ _
        have hF3 : LgF ad1 q g2 g3 := ⟨fun j hj => by rw [e31, upd_ne _ _ (by omega), upd_ne _ _ (by omega)], fun r r1 r2 j hj => by rw [f3.I (by omega)], fun j hj => by rw [f3.L (by omega)], fun r r1 r2 j hj => by rw [f3.I (by omega)]⟩
        have hL3 := hL1.oth hsz hA.2.2.2.1 (show l ≠ q by omega) hF3
        obtain ⟨g4, i1, i2, i3, i4, i5, i6, i7⟩ := m_fork55 (N := N) hN hI1 hl (show q < 6 by omega) hA.2.2 hn' n N 0 g3 (by omega) (by omega) (hR1.1.fr f3.1) (by rw [f3.I (by omega)]; exact nl1) hL3 (fun i hi => absurd hi (by omega))
        have fA : Fr ad1 (fun r => 20000 ≤ r ∧ r ≤ 20009) g2 g4 := (f3.mono (fun r h => by omega)).tr i2
        have hF4 : LgF ad1 q g2 g4 := ⟨fun j hj => (i5.1 j hj).trans (hF3.1 j hj), fun r r1 r2 j hj => (i5.2.1 r r1 r2 j hj).trans (hF3.2.1 r r1 r2 j hj), fun j hj => (i5.2.2.1 j hj).trans (hF3.2.2.1 j hj), fun r r1 r2 j hj => (i5.2.2.2 r r1 r2 j hj).trans (hF3.2.2.2 r r1 r2 j hj)⟩
        have e40 : g4.1 (ad1 20000) = upd (g2.1 (ad1 20000)) 1 (nI (q + 1)) := by rw [i6, f3.I (by omega)]
        have hLs : RLs g4 ad1 0 (q + 1) (va_up h.1.2 q (cutL (h.1.2 l) n od)) := by
          refine ⟨by rw [e40, upd_same], fun z hz => ?_⟩
          by_cases cl : z = q
          · subst cl
            rw [va_same]
            refine ⟨⟨?_, ?_, ?_, ?_⟩, fun i hi => i3 i hi, fun j hj => i4 j hj⟩
            · rw [i7, upd_ne _ _ (by omega), upd_ne _ _ (by omega), e31, upd_ne _ _ (by omega), upd_same]; rfl
            · rw [i7, upd_ne _ _ (by omega), upd_ne _ _ (by omega), e31, upd_same]; rfl
            · rw [i7, upd_ne _ _ (by omega), upd_same, hidC_F]; rfl
            · rw [i7, upd_same, hidC_F]; rfl
          · rw [va_ne _ _ cl]
            have hwf := hC.wf z (by omega)
            exact (hR1.2.1.1.2 z (by omega)).oth hwf.1 hwf.2.1 cl hF4
        have hR3 := hR1.lgs fA (fun r hr => by omega) (fun k hk => by rw [e40, upd_ne _ _ (by omega)]) hLs
        have hadd : ((q + 1, va_up h.1.2 q (cutL (h.1.2 l) n od)), h.2) = addH h (cutL (h.1.2 l) n od) := by
          unfold addH
          rw [hnl]
        rw [hadd] at hR3
        have c1 : g2.1 (ad1 100) 1 = nI (q + 1) := by
          rw [b2'.I (by omega)]; exact a6.1
        refine ⟨nI q, ad1, S1, g2, g4, k + 0, w + 0, addH h (cutL (h.1.2 l) n od), (ml1, m.2), kc, ?_, ?_, ⟨d1.fr fA (fun r hr => by omega), hR3, hW.add _ (by omega), hK⟩, d5, d6, by omega, by omega⟩
        · have p3 : rdR g2 (ad 0) 3 = some (ad1 100) := by
            have := d1.p3
            rw [d5] at this
            exact this
          have el : ad1 (200 + 20 * l) = ad (200 + 20 * l) := a2.ad (by omega)
          rw [el] at b1
          show b_X11_fork_0 N S g _ _ _ = _
          unfold b_X11_fork_0
          rw [hC.p3, nn_S, hC.logAt (by omega), c2_S, on_S, c_reachesT hA hn', c2_S, if_neg z10, hC.p3, nn_S, a1, c5_S, on_S, b1, c2_S, p3, nn_S, rdI_def, c1, show (1 : Int32) = nI 1 from rfl, nI_p, tk_S]
        · rw [← d6]
          show b_X12_fork_0 N S1 g2 _ _ _ = _
          unfold b_X12_fork_0
          rw [hcnt1, c2_S, if_neg z10, rdI_def, nl1, if_neg (show ¬ nI q = (6 : Int32) from fun e => cf ((nI_eq (by omega) (by decide)).mp e))]
          simp (disch := (first | assumption | omega | (apply Inj.ne <;> first | assumption | omega) | fail)) only [nn_S, nm_D, ck_T, c2_S, on_N, on_S, lit, mNEG, nI_add, pk_mul, inb_nI, nI_clamp, wrI_row, wrL_row, rdR_rowI, rdR_rowL, rdI_def, rdL_def, rowI_same, rowI_ne, rowI_rowI, rowL_same, rowL_ne, rowL_1, rowI_21, upd_same, upd_ne, nI_le_T, nI_le_F, nI_lt_T, nI_lt_F, nI_eq_F, nI_NEG, NEG_lt0, nI_p, eq_self, if_true, if_false, p0, l0, y1]
          exact i1
