def SGN : Int32 := -2147483648
theorem mSGN : -(nI 2147483648) = SGN := by decide
theorem sgn_nat (x : Int32) : (x ^^^ SGN).toInt = (uw x : Int) - 2 ^ 31 := by
  have hx : uw x < 2 ^ 32 := x.toBitVec.isLt
  have e1 : (x ^^^ SGN).toBitVec.toNat = uw x ^^^ 2147483648 := by
    rw [Int32.toBitVec_xor, BitVec.toNat_xor]
    rfl
  have a1 : (uw x ^^^ 2147483648) % 2 ^ 31 = uw x % 2 ^ 31 := by
    rw [Nat.xor_mod_two_pow]
    simp
  have a2 : (uw x ^^^ 2147483648) / 2 ^ 31 = (uw x / 2 ^ 31) ^^^ 1 := by
    rw [Nat.xor_div_two_pow]
  have hh : uw x / 2 ^ 31 = 0 ∨ uw x / 2 ^ 31 = 1 := by omega
  show (x ^^^ SGN).toBitVec.toInt = _
  rw [BitVec.toInt_eq_toNat_cond, e1]
  have e3 := Nat.div_add_mod (uw x ^^^ 2147483648) (2 ^ 31)
  have e4 := Nat.div_add_mod (uw x) (2 ^ 31)
  rcases hh with h | h
  · rw [h] at a2 e4
    have a3 : (uw x ^^^ 2147483648) / 2 ^ 31 = 1 := a2
    rw [a3, a1] at e3
    generalize (uw x ^^^ 2147483648) = z at e3 ⊢
    split <;> omega
  · rw [h] at a2 e4
    have a3 : (uw x ^^^ 2147483648) / 2 ^ 31 = 0 := a2
    rw [a3, a1] at e3
    generalize (uw x ^^^ 2147483648) = z at e3 ⊢
    split <;> omega
theorem sgn_le (x y : Int32) : (y ^^^ SGN ≤ x ^^^ SGN) ↔ uw y ≤ uw x := by
  rw [Int32.le_iff_toInt_le, sgn_nat, sgn_nat]
  omega
theorem c_isAhead2 (N : Nat) (S : Hs) (g : Hg) {ad : Nat → Nat} {b p q : Nat} (hP : LgP S g ad b) (hp : p < 400) (hq : q < 400) : ∀ (i n j : Nat), j + i = 8 → i < n → (∀ z, z < j → seg (g.1 (ad (b + 9))) (8 * p) z = seg (g.1 (ad (b + 9))) (8 * q) z) →
    (Ahead (seg (g.1 (ad (b + 9))) (8 * p)) (seg (g.1 (ad (b + 9))) (8 * q)) ∧ n_X2_isAhead_2 N S n g (ad (b + 1)) (nI p) (nI q) (nI j) = some (nI 1, g)) ∨ (¬ Ahead (seg (g.1 (ad (b + 9))) (8 * p)) (seg (g.1 (ad (b + 9))) (8 * q)) ∧ n_X2_isAhead_2 N S n g (ad (b + 1)) (nI p) (nI q) (nI j) = some (nI 0, g)) := by
  intro i
  induction i with
  | zero =>
    intro n j h1 h2 hz
    obtain ⟨n, rfl⟩ : ∃ z, n = z + 1 := ⟨n - 1, by omega⟩
    right
    refine ⟨fun ⟨k, k1, k2, k3⟩ => ?_, ?_⟩
    · rw [hz k (by omega)] at k3
      omega
    · show b_X2_isAhead_2 N S (n_X2_isAhead_2 N S n) g _ (nI p) (nI q) (nI j) = _
      unfold b_X2_isAhead_2
      simp (disch := (first | assumption | omega | (apply Inj.ne <;> first | assumption | omega) | fail)) only [nn_S, nm_D, ck_T, c2_S, on_N, on_S, lit, mNEG, nI_add, pk_mul, inb_nI, nI_clamp, wrI_row, wrL_row, rdR_rowI, rdR_rowL, rdI_def, rdL_def, rowI_same, rowI_ne, rowI_rowI, rowL_same, rowL_ne, rowL_1, rowI_21, upd_same, upd_ne, nI_le_T, nI_le_F, nI_lt_T, nI_lt_F, nI_eq_F, nI_NEG, NEG_lt0, nI_p, eq_self, if_true, if_false]
  | succ i ih =>
    intro n j h1 h2 hz
    obtain ⟨n, rfl⟩ : ∃ z, n = z + 1 := ⟨n - 1, by omega⟩
    have hst : n_X2_isAhead_2 N S (n + 1) g (ad (b + 1)) (nI p) (nI q) (nI j) = (if seg (g.1 (ad (b + 9))) (8 * p) j = seg (g.1 (ad (b + 9))) (8 * q) j then n_X2_isAhead_2 N S n g (ad (b + 1)) (nI p) (nI q) (nI (j + 1)) else if seg (g.1 (ad (b + 9))) (8 * q) j ^^^ SGN ≤ seg (g.1 (ad (b + 9))) (8 * p) j ^^^ SGN then some (nI 0, g) else some (nI 1, g)) := by
      show b_X2_isAhead_2 N S (n_X2_isAhead_2 N S n) g _ (nI p) (nI q) (nI j) = _
      unfold b_X2_isAhead_2
      simp (disch := (first | assumption | omega | (apply Inj.ne <;> first | assumption | omega) | fail)) only [nn_S, nm_D, ck_T, c2_S, on_N, on_S, lit, mNEG, nI_add, pk_mul, inb_nI, nI_clamp, wrI_row, wrL_row, rdR_rowI, rdR_rowL, rdI_def, rdL_def, rowI_same, rowI_ne, rowI_rowI, rowL_same, rowL_ne, rowL_1, rowI_21, upd_same, upd_ne, nI_le_T, nI_le_F, nI_lt_T, nI_lt_F, nI_eq_F, nI_NEG, NEG_lt0, nI_p, eq_self, if_true, if_false, hP.2.1.2.1, hP.2.2.2.2.2.1, mSGN]
      rw [Nat.mul_comm p 8, Nat.mul_comm q 8]
      rfl
    rw [hst]
    by_cases hc : seg (g.1 (ad (b + 9))) (8 * p) j = seg (g.1 (ad (b + 9))) (8 * q) j
    · rw [if_pos hc]
      exact ih n (j + 1) (by omega) (by omega) (fun z hz2 => by
        by_cases he : z = j
        · rw [he]; exact hc
        · exact hz z (by omega))
    · rw [if_neg hc]
      have hne : uw (seg (g.1 (ad (b + 9))) (8 * p) j) ≠ uw (seg (g.1 (ad (b + 9))) (8 * q) j) := fun e => hc (Int32.toBitVec_inj.mp (BitVec.eq_of_toNat_eq e))
      by_cases hl : seg (g.1 (ad (b + 9))) (8 * q) j ^^^ SGN ≤ seg (g.1 (ad (b + 9))) (8 * p) j ^^^ SGN
      · rw [if_pos hl]
        rw [sgn_le] at hl
        right
        refine ⟨fun ⟨k, k1, k2, k3⟩ => ?_, rfl⟩
        by_cases c1 : k < j
        · rw [hz k c1] at k3
          omega
        · by_cases c2 : j < k
          · exact hc (k2 j c2)
          · obtain rfl : j = k := by omega
            omega
      · rw [if_neg hl]
        rw [sgn_le] at hl
        left
        exact ⟨⟨j, by omega, hz, by omega⟩, rfl⟩
/-- KEYS and their order, as mathematics -/
def Ord (K : Nat → Int32) (ks : Nat) (od : Nat → Nat) : Prop := ks ≤ 400 ∧ (∀ i j, i < j → j < ks → K i ≠ K j) ∧ (∀ j, j < ks → od j < ks) ∧ (∀ i j, i < j → j < ks → Ahead (WAY (K (od i))) (WAY (K (od j)))) ∧ (∀ q, q < ks → ∃ j, j < ks ∧ od j = q)
/-- the class's KEYS at role b hold them -/
def CKey (g : Hg) (ad : Nat → Nat) (b : Nat) (K : Nat → Int32) (ks : Nat) (od : Nat → Nat) : Prop := g.1 (ad (b + 1)) 3 = nI ks ∧ (∀ q, q < ks → g.1 (ad (b + 8)) q = K q) ∧ (∀ q, q < ks → eq8 (seg (g.1 (ad (b + 9))) (8 * q)) (WAY (K q))) ∧ (∀ j, j < ks → g.1 (ad (b + 10)) j = nI (od j))
theorem eq8.sm {u v : Nat → Int32} (h : eq8 u v) : eq8 v u := fun j hj => (h j hj).symm
theorem c_learn52 {N : Nat} (hN : 40000 ≤ N) {S : Hs} {ad : Nat → Nat} (hI : Inj ad) {b ks : Nat} {K : Nat → Int32} {od : Nat → Nat} (hks : ks < 400) (hod : ∀ j, j < ks → od j < ks) : ∀ (p n : Nat) (g : Hg), p ≤ ks → p < n → LgP S g ad b → g.1 (ad (b + 1)) 3 = nI ks → (∀ q, q ≤ ks → eq8 (seg (g.1 (ad (b + 9))) (8 * q)) (WAY (K q))) → (∀ j, j < p → g.1 (ad (b + 10)) j = nI (od j)) → (∀ j, p < j → j ≤ ks → g.1 (ad (b + 10)) j = nI (od (j - 1))) → (∀ j, p ≤ j → j < ks → Ahead (WAY (K ks)) (WAY (K (od j)))) →
    ∃ g1 p1, n_X2_learn_52 N S n g (ad (b + 1)) (nI p) = some (nI ks, g1) ∧ Fr ad (fun r => r = b + 1 ∨ r = b + 10) g g1 ∧ g1.1 (ad (b + 1)) = upd (g.1 (ad (b + 1))) 3 (nI (ks + 1)) ∧ p1 ≤ ks ∧ (∀ j, j < p1 → g1.1 (ad (b + 10)) j = nI (od j)) ∧ g1.1 (ad (b + 10)) p1 = nI ks ∧ (∀ j, p1 < j → j ≤ ks → g1.1 (ad (b + 10)) j = nI (od (j - 1))) ∧ (∀ j, p1 ≤ j → j < ks → Ahead (WAY (K ks)) (WAY (K (od j)))) ∧ (0 < p1 → ¬ Ahead (WAY (K ks)) (WAY (K (od (p1 - 1))))) := by
  intro p
  have fin : ∀ (p : Nat) (g : Hg), p ≤ ks → LgP S g ad b → g.1 (ad (b + 1)) 3 = nI ks → b_X2_learn_99 N S g (ad (b + 1)) (nI p) = some (nI ks, rowI (rowI g (ad (b + 10)) (upd (g.1 (ad (b + 10))) p (nI ks))) (ad (b + 1)) (upd (g.1 (ad (b + 1))) 3 (nI (ks + 1)))) := by
    intro p g h1 hP h3
    unfold b_X2_learn_99
    simp (disch := (first | assumption | omega | (apply Inj.ne <;> first | assumption | omega) | fail)) only [nn_S, nm_D, ck_T, c2_S, on_N, on_S, lit, mNEG, nI_add, pk_mul, inb_nI, nI_clamp, wrI_row, wrL_row, rdR_rowI, rdR_rowL, rdI_def, rdL_def, rowI_same, rowI_ne, rowI_rowI, rowL_same, rowL_ne, rowL_1, rowI_21, upd_same, upd_ne, nI_le_T, nI_le_F, nI_lt_T, nI_lt_F, nI_eq_F, nI_NEG, NEG_lt0, nI_p, eq_self, if_true, if_false, hP.2.1.2.2, hP.2.2.2.2.2.2.1, h3]
  induction p with
  | zero =>
    intro n g h1 h2 hP h3 hw ho1 ho2 ha
    obtain ⟨n, rfl⟩ : ∃ z, n = z + 1 := ⟨n - 1, by omega⟩
    refine ⟨rowI (rowI g (ad (b + 10)) (upd (g.1 (ad (b + 10))) (0) (nI ks))) (ad (b + 1)) (upd (g.1 (ad (b + 1))) 3 (nI (ks + 1))), 0, ?_, (Fr.row hI (Or.inr rfl)).tr (Fr.row hI (Or.inl rfl)), ?_, by omega, fun j hj => absurd hj (by omega), ?_, fun j j1 j2 => ?_, ha, fun h => absurd h (by omega)⟩
    · show b_X2_learn_52 N S (n_X2_learn_52 N S n) g _ (nI 0) = _
      unfold b_X2_learn_52
      rw [if_pos (by decide)]
      exact fin 0 g (by omega) hP h3
    · simp (disch := (first | assumption | omega | (apply Inj.ne <;> first | assumption | omega) | fail)) only [nn_S, nm_D, ck_T, c2_S, on_N, on_S, lit, mNEG, nI_add, pk_mul, inb_nI, nI_clamp, wrI_row, wrL_row, rdR_rowI, rdR_rowL, rdI_def, rdL_def, rowI_same, rowI_ne, rowI_rowI, rowL_same, rowL_ne, rowL_1, rowI_21, upd_same, upd_ne, nI_le_T, nI_le_F, nI_lt_T, nI_lt_F, nI_eq_F, nI_NEG, NEG_lt0, nI_p, eq_self, if_true, if_false]
    · simp (disch := (first | assumption | omega | (apply Inj.ne <;> first | assumption | omega) | fail)) only [nn_S, nm_D, ck_T, c2_S, on_N, on_S, lit, mNEG, nI_add, pk_mul, inb_nI, nI_clamp, wrI_row, wrL_row, rdR_rowI, rdR_rowL, rdI_def, rdL_def, rowI_same, rowI_ne, rowI_rowI, rowL_same, rowL_ne, rowL_1, rowI_21, upd_same, upd_ne, nI_le_T, nI_le_F, nI_lt_T, nI_lt_F, nI_eq_F, nI_NEG, NEG_lt0, nI_p, eq_self, if_true, if_false]
    · simp (disch := (first | assumption | omega | (apply Inj.ne <;> first | assumption | omega) | fail)) only [nn_S, nm_D, ck_T, c2_S, on_N, on_S, lit, mNEG, nI_add, pk_mul, inb_nI, nI_clamp, wrI_row, wrL_row, rdR_rowI, rdR_rowL, rdI_def, rdL_def, rowI_same, rowI_ne, rowI_rowI, rowL_same, rowL_ne, rowL_1, rowI_21, upd_same, upd_ne, nI_le_T, nI_le_F, nI_lt_T, nI_lt_F, nI_eq_F, nI_NEG, NEG_lt0, nI_p, eq_self, if_true, if_false]
      exact ho2 j j1 j2
  | succ p ih =>
    intro n g h1 h2 hP h3 hw ho1 ho2 ha
    obtain ⟨n, rfl⟩ : ∃ z, n = z + 1 := ⟨n - 1, by omega⟩
    have hop := ho1 p (by omega)
    have hpo := hod p (by omega)
    have hst : n_X2_learn_52 N S (n + 1) g (ad (b + 1)) (nI (p + 1)) = c2 (f_X2_isAhead N S g (ad (b + 1)) (nI ks) (nI (od p))) (fun x_4 g_3 => if x_4 = 0 then b_X2_learn_99 N S g_3 (ad (b + 1)) (nI (p + 1)) else nn (rdR g_3 (ad (b + 1)) 2) (fun a_6 => nn (rdR g_3 (ad (b + 1)) 2) (fun a_7 => ck (inb (nI (p + 1) - (1 : Int32)) (hpL S a_7)) (ck (inb (nI (p + 1)) (hpL S a_6)) (nm (wrI g_3 a_6 (nI (p + 1)).toNatClampNeg (rdI g_3 a_7 (nI (p + 1) - (1 : Int32)).toNatClampNeg)) (fun g_8 => nm (nI (p + 1) + (-1)) (fun x_9 => n_X2_learn_52 N S n g_8 (ad (b + 1)) x_9))))))) := by
      show b_X2_learn_52 N S (n_X2_learn_52 N S n) g _ (nI (p + 1)) = _
      unfold b_X2_learn_52
      rw [if_neg (nI_nle (by omega) (by omega)), nI_pred]
      simp (disch := (first | assumption | omega | (apply Inj.ne <;> first | assumption | omega) | fail)) only [nn_S, nm_D, ck_T, c2_S, on_N, on_S, mNEG, nI_add, pk_mul, inb_nI, nI_clamp, wrI_row, wrL_row, rdR_rowI, rdR_rowL, rdI_def, rdL_def, rowI_same, rowI_ne, rowI_rowI, rowL_same, rowL_ne, rowL_1, rowI_21, upd_same, upd_ne, nI_le_T, nI_le_F, nI_lt_T, nI_lt_F, nI_eq_F, nI_NEG, NEG_lt0, nI_p, eq_self, if_true, if_false, hP.2.1.2.2, hP.2.2.2.2.2.2.1, h3, hop]
    rcases c_isAhead2 N S g hP hks (show od p < 400 by omega) 8 N 0 (by omega) (by omega) (fun z hz => absurd hz (by omega)) with ⟨ah, hr⟩ | ⟨ah, hr⟩
    · have ah2 : Ahead (WAY (K ks)) (WAY (K (od p))) := ah.congr (hw ks (by omega)) (hw (od p) (by omega))
      have hst2 : n_X2_learn_52 N S (n + 1) g (ad (b + 1)) (nI (p + 1)) = n_X2_learn_52 N S n (rowI g (ad (b + 10)) (upd (g.1 (ad (b + 10))) (p + 1) (nI (od p)))) (ad (b + 1)) (nI p) := by
        rw [hst, show f_X2_isAhead N S g (ad (b + 1)) (nI ks) (nI (od p)) = _ from hr, c2_S, if_neg (by decide), nI_pred, show nI (p + 1) + (-1 : Int32) = nI p by rw [← Int32.sub_eq_add_neg]; exact nI_pred p]
        simp (disch := (first | assumption | omega | (apply Inj.ne <;> first | assumption | omega) | fail)) only [nn_S, nm_D, ck_T, c2_S, on_N, on_S, lit, mNEG, nI_add, pk_mul, inb_nI, nI_clamp, wrI_row, wrL_row, rdR_rowI, rdR_rowL, rdI_def, rdL_def, rowI_same, rowI_ne, rowI_rowI, rowL_same, rowL_ne, rowL_1, rowI_21, upd_same, upd_ne, nI_le_T, nI_le_F, nI_lt_T, nI_lt_F, nI_eq_F, nI_NEG, NEG_lt0, nI_p, eq_self, if_true, if_false, hP.2.1.2.2, hP.2.2.2.2.2.2.1, hop]
      rw [hst2]
      obtain ⟨g1, p1, a1, a2, a3, a4, a5, a6, a7, a8, a9⟩ := ih n (rowI g (ad (b + 10)) (upd (g.1 (ad (b + 10))) (p + 1) (nI (od p)))) (by omega) (by omega) (hP.fr rfl) (by simp (disch := (first | assumption | omega | (apply Inj.ne <;> first | assumption | omega) | fail)) only [nn_S, nm_D, ck_T, c2_S, on_N, on_S, lit, mNEG, nI_add, pk_mul, inb_nI, nI_clamp, wrI_row, wrL_row, rdR_rowI, rdR_rowL, rdI_def, rdL_def, rowI_same, rowI_ne, rowI_rowI, rowL_same, rowL_ne, rowL_1, rowI_21, upd_same, upd_ne, nI_le_T, nI_le_F, nI_lt_T, nI_lt_F, nI_eq_F, nI_NEG, NEG_lt0, nI_p, eq_self, if_true, if_false]; exact h3) (fun q hq => by simp (disch := (first | assumption | omega | (apply Inj.ne <;> first | assumption | omega) | fail)) only [nn_S, nm_D, ck_T, c2_S, on_N, on_S, lit, mNEG, nI_add, pk_mul, inb_nI, nI_clamp, wrI_row, wrL_row, rdR_rowI, rdR_rowL, rdI_def, rdL_def, rowI_same, rowI_ne, rowI_rowI, rowL_same, rowL_ne, rowL_1, rowI_21, upd_same, upd_ne, nI_le_T, nI_le_F, nI_lt_T, nI_lt_F, nI_eq_F, nI_NEG, NEG_lt0, nI_p, eq_self, if_true, if_false]; exact hw q hq) (fun j hj => by simp (disch := (first | assumption | omega | (apply Inj.ne <;> first | assumption | omega) | fail)) only [nn_S, nm_D, ck_T, c2_S, on_N, on_S, lit, mNEG, nI_add, pk_mul, inb_nI, nI_clamp, wrI_row, wrL_row, rdR_rowI, rdR_rowL, rdI_def, rdL_def, rowI_same, rowI_ne, rowI_rowI, rowL_same, rowL_ne, rowL_1, rowI_21, upd_same, upd_ne, nI_le_T, nI_le_F, nI_lt_T, nI_lt_F, nI_eq_F, nI_NEG, NEG_lt0, nI_p, eq_self, if_true, if_false]; exact ho1 j (by omega)) (fun j j1 j2 => by
        by_cases he : j = p + 1
        · subst he
          simp (disch := (first | assumption | omega | (apply Inj.ne <;> first | assumption | omega) | fail)) only [nn_S, nm_D, ck_T, c2_S, on_N, on_S, lit, mNEG, nI_add, pk_mul, inb_nI, nI_clamp, wrI_row, wrL_row, rdR_rowI, rdR_rowL, rdI_def, rdL_def, rowI_same, rowI_ne, rowI_rowI, rowL_same, rowL_ne, rowL_1, rowI_21, upd_same, upd_ne, nI_le_T, nI_le_F, nI_lt_T, nI_lt_F, nI_eq_F, nI_NEG, NEG_lt0, nI_p, eq_self, if_true, if_false]
          rw [Nat.add_sub_cancel]
        · simp (disch := (first | assumption | omega | (apply Inj.ne <;> first | assumption | omega) | fail)) only [nn_S, nm_D, ck_T, c2_S, on_N, on_S, lit, mNEG, nI_add, pk_mul, inb_nI, nI_clamp, wrI_row, wrL_row, rdR_rowI, rdR_rowL, rdI_def, rdL_def, rowI_same, rowI_ne, rowI_rowI, rowL_same, rowL_ne, rowL_1, rowI_21, upd_same, upd_ne, nI_le_T, nI_le_F, nI_lt_T, nI_lt_F, nI_eq_F, nI_NEG, NEG_lt0, nI_p, eq_self, if_true, if_false]
          exact ho2 j (by omega) j2) (fun j j1 j2 => by
        by_cases he : j = p
        · rw [he]; exact ah2
        · exact ha j (by omega) j2)
      refine ⟨g1, p1, a1, (Fr.row hI (Or.inr rfl)).tr a2, ?_, a4, a5, a6, a7, a8, a9⟩
      rw [a3]
      simp (disch := (first | assumption | omega | (apply Inj.ne <;> first | assumption | omega) | fail)) only [nn_S, nm_D, ck_T, c2_S, on_N, on_S, lit, mNEG, nI_add, pk_mul, inb_nI, nI_clamp, wrI_row, wrL_row, rdR_rowI, rdR_rowL, rdI_def, rdL_def, rowI_same, rowI_ne, rowI_rowI, rowL_same, rowL_ne, rowL_1, rowI_21, upd_same, upd_ne, nI_le_T, nI_le_F, nI_lt_T, nI_lt_F, nI_eq_F, nI_NEG, NEG_lt0, nI_p, eq_self, if_true, if_false]
    · have ah2 : ¬ Ahead (WAY (K ks)) (WAY (K (od p))) := fun h => ah (h.congr (hw ks (by omega)).sm (hw (od p) (by omega)).sm)
      refine ⟨rowI (rowI g (ad (b + 10)) (upd (g.1 (ad (b + 10))) (p + 1) (nI ks))) (ad (b + 1)) (upd (g.1 (ad (b + 1))) 3 (nI (ks + 1))), p + 1, ?_, (Fr.row hI (Or.inr rfl)).tr (Fr.row hI (Or.inl rfl)), ?_, by omega, fun j hj => ?_, ?_, fun j j1 j2 => ?_, ha, fun _ => ?_⟩
      · rw [hst, show f_X2_isAhead N S g (ad (b + 1)) (nI ks) (nI (od p)) = _ from hr, c2_S, if_pos (show nI 0 = (0 : Int32) from rfl)]
        exact fin (p + 1) g (by omega) hP h3
      · simp (disch := (first | assumption | omega | (apply Inj.ne <;> first | assumption | omega) | fail)) only [nn_S, nm_D, ck_T, c2_S, on_N, on_S, lit, mNEG, nI_add, pk_mul, inb_nI, nI_clamp, wrI_row, wrL_row, rdR_rowI, rdR_rowL, rdI_def, rdL_def, rowI_same, rowI_ne, rowI_rowI, rowL_same, rowL_ne, rowL_1, rowI_21, upd_same, upd_ne, nI_le_T, nI_le_F, nI_lt_T, nI_lt_F, nI_eq_F, nI_NEG, NEG_lt0, nI_p, eq_self, if_true, if_false]
      · simp (disch := (first | assumption | omega | (apply Inj.ne <;> first | assumption | omega) | fail)) only [nn_S, nm_D, ck_T, c2_S, on_N, on_S, lit, mNEG, nI_add, pk_mul, inb_nI, nI_clamp, wrI_row, wrL_row, rdR_rowI, rdR_rowL, rdI_def, rdL_def, rowI_same, rowI_ne, rowI_rowI, rowL_same, rowL_ne, rowL_1, rowI_21, upd_same, upd_ne, nI_le_T, nI_le_F, nI_lt_T, nI_lt_F, nI_eq_F, nI_NEG, NEG_lt0, nI_p, eq_self, if_true, if_false]
        exact ho1 j (by omega)
      · simp (disch := (first | assumption | omega | (apply Inj.ne <;> first | assumption | omega) | fail)) only [nn_S, nm_D, ck_T, c2_S, on_N, on_S, lit, mNEG, nI_add, pk_mul, inb_nI, nI_clamp, wrI_row, wrL_row, rdR_rowI, rdR_rowL, rdI_def, rdL_def, rowI_same, rowI_ne, rowI_rowI, rowL_same, rowL_ne, rowL_1, rowI_21, upd_same, upd_ne, nI_le_T, nI_le_F, nI_lt_T, nI_lt_F, nI_eq_F, nI_NEG, NEG_lt0, nI_p, eq_self, if_true, if_false]
      · simp (disch := (first | assumption | omega | (apply Inj.ne <;> first | assumption | omega) | fail)) only [nn_S, nm_D, ck_T, c2_S, on_N, on_S, lit, mNEG, nI_add, pk_mul, inb_nI, nI_clamp, wrI_row, wrL_row, rdR_rowI, rdR_rowL, rdI_def, rdL_def, rowI_same, rowI_ne, rowI_rowI, rowL_same, rowL_ne, rowL_1, rowI_21, upd_same, upd_ne, nI_le_T, nI_le_F, nI_lt_T, nI_lt_F, nI_eq_F, nI_NEG, NEG_lt0, nI_p, eq_self, if_true, if_false]
        exact ho2 j j1 j2
      · rw [Nat.add_sub_cancel]
        exact ah2
theorem Ahead.irr {u : Nat → Int32} (h : Ahead u u) : False := by
  obtain ⟨j, _, _, h⟩ := h
  omega
theorem Ord.ins {K : Nat → Int32} {ks : Nat} {od : Nat → Nat} (h : Ord K ks od) (hks : ks < 400) (hK : ∀ z, z < ks → K z ≠ K ks) {p : Nat} (hp : p ≤ ks) (ha : ∀ j, p ≤ j → j < ks → Ahead (WAY (K ks)) (WAY (K (od j)))) (hb : 0 < p → ¬ Ahead (WAY (K ks)) (WAY (K (od (p - 1))))) : Ord K (ks + 1) (fun j => if j < p then od j else if j = p then ks else od (j - 1)) := by
  obtain ⟨h1, h2, h3, h4, h5⟩ := h
  have low : ∀ j, j < p → Ahead (WAY (K (od j))) (WAY (K ks)) := by
    intro j hj
    have hl : Ahead (WAY (K (od (p - 1)))) (WAY (K ks)) := by
      rcases (Ahead.or (hb (by omega))) with h | h
      · exact h
      · exact absurd (WAY_inj h).symm (hK (od (p - 1)) (h3 _ (by omega)))
    by_cases he : j = p - 1
    · rw [he]; exact hl
    · exact (h4 j (p - 1) (by omega) (by omega)).trans hl
  refine ⟨by omega, fun i j hij hj => ?_, fun j hj => ?_, fun i j hij hj => ?_, fun q hq => ?_⟩
  · by_cases he : j = ks
    · rw [he]; exact hK i (by omega)
    · exact h2 i j hij (by omega)
  · by_cases c1 : j < p
    · simp only [c1, if_true]; have := h3 j (by omega); omega
    · by_cases c2 : j = p
      · simp only [c1, c2, if_true, if_false, Nat.lt_irrefl]; omega
      · simp only [c1, c2, if_false]; have := h3 (j - 1) (by omega); omega
  · by_cases c1 : j < p
    · simp only [c1, show i < p by omega, if_true]; exact h4 i j hij (by omega)
    · by_cases c2 : j = p
      · subst c2
        simp only [hij, Nat.lt_irrefl, if_true, if_false]
        exact low i hij
      · simp only [c1, c2, if_false]
        by_cases c3 : i < p
        · simp only [c3, if_true]; exact h4 i (j - 1) (by omega) (by omega)
        · by_cases c4 : i = p
          · subst c4
            simp only [Nat.lt_irrefl, if_true, if_false]
            exact ha (j - 1) (by omega) (by omega)
          · simp only [c3, c4, if_false]; exact h4 (i - 1) (j - 1) (by omega) (by omega)
  · by_cases he : q = ks
    · refine ⟨p, by omega, ?_⟩
      simp only [Nat.lt_irrefl, if_true, if_false]
      exact he.symm
    · obtain ⟨j, j1, j2⟩ := h5 q (by omega)
      by_cases c1 : j < p
      · exact ⟨j, by omega, by simp only [c1, if_true]; exact j2⟩
      · refine ⟨j + 1, by omega, ?_⟩
        simp only [show ¬ j + 1 < p by omega, show j + 1 ≠ p by omega, if_false, Nat.add_sub_cancel]
        exact j2
/-- learn: the KEY's number, and the KEYS with it -/
theorem c_learn {N : Nat} (hN : 40000 ≤ N) {S : Hs} {g : Hg} {ad : Nat → Nat} (hI : Inj ad) {b ks : Nat} {K : Nat → Int32} {od : Nat → Nat} (key : Int32) (hb : 100 ≤ b) (hS : ScP S g ad) (hP : LgP S g ad b) (hC : CKey g ad b K ks od) (hO : Ord K ks od) (hks : ks < 400) :
    (∃ z, z < ks ∧ K z = key ∧ f_X2_learn N S g (ad (b + 1)) (ad 1) key = some (nI z, g)) ∨
    ((∀ z, z < ks → K z ≠ key) ∧ ∃ g1 od1, f_X2_learn N S g (ad (b + 1)) (ad 1) key = some (nI ks, g1) ∧ Fr ad (fun r => r = 2 ∨ r = 3 ∨ r = b + 1 ∨ r = b + 8 ∨ r = b + 9 ∨ r = b + 10) g g1 ∧ CKey g1 ad b (upd K ks key) (ks + 1) od1 ∧ Ord (upd K ks key) (ks + 1) od1) := by
  obtain ⟨c1, c2, c3, c4⟩ := hC
  rcases c_find hN key hP c1 c2 (by omega) with ⟨z, z1, z2, z3⟩ | ⟨z1, z3⟩
  · left
    refine ⟨z, z1, z2, ?_⟩
    show b_X2_learn_0 N S g (ad (b + 1)) (ad 1) key = _
    unfold b_X2_learn_0
    rw [z3, c2_S]
    simp (disch := (first | assumption | omega | (apply Inj.ne <;> first | assumption | omega) | fail)) only [nn_S, nm_D, ck_T, c2_S, on_N, on_S, lit, mNEG, nI_add, pk_mul, inb_nI, nI_clamp, wrI_row, wrL_row, rdR_rowI, rdR_rowL, rdI_def, rdL_def, rowI_same, rowI_ne, rowI_rowI, rowL_same, rowL_ne, rowL_1, rowI_21, upd_same, upd_ne, nI_le_T, nI_le_F, nI_lt_T, nI_lt_F, nI_eq_F, nI_NEG, NEG_lt0, nI_p, eq_self, if_true, if_false]
  · right
    refine ⟨z1, ?_⟩
    have hx : hpL S (ad (b + 9)) = 3200 := hP.2.2.2.2.2.1
    obtain ⟨g2, w1, w2, w3⟩ := c_wayOf (N := N) (show 30 ≤ N by omega) (g := rowI g (ad (b + 8)) (upd (g.1 (ad (b + 8))) ks key)) (mx := ad 1) (W := ad 2) (A := ad 3) (to := ad (b + 9)) (p := ks) (x3 := nI ks) ((hS.fr rfl).mx hI) ⟨hI.ne (by omega), hI.ne (by omega), by omega, by omega⟩ rfl key
    have f2 : Fr ad (fun r => r = 2 ∨ r = 3 ∨ r = b + 9) (rowI g (ad (b + 8)) (upd (g.1 (ad (b + 8))) ks key)) g2 := Fr.ch w2 (fun r h => by rcases h with h | h | h <;> have h2 := hI _ _ h <;> omega)
    have r1 : g2.1 (ad (b + 1)) = g.1 (ad (b + 1)) := by rw [f2.I (by omega)]; simp (disch := (first | assumption | omega | (apply Inj.ne <;> first | assumption | omega) | fail)) only [nn_S, nm_D, ck_T, c2_S, on_N, on_S, lit, mNEG, nI_add, pk_mul, inb_nI, nI_clamp, wrI_row, wrL_row, rdR_rowI, rdR_rowL, rdI_def, rdL_def, rowI_same, rowI_ne, rowI_rowI, rowL_same, rowL_ne, rowL_1, rowI_21, upd_same, upd_ne, nI_le_T, nI_le_F, nI_lt_T, nI_lt_F, nI_eq_F, nI_NEG, NEG_lt0, nI_p, eq_self, if_true, if_false]
    have r8 : g2.1 (ad (b + 8)) = upd (g.1 (ad (b + 8))) ks key := by rw [f2.I (by omega)]; simp (disch := (first | assumption | omega | (apply Inj.ne <;> first | assumption | omega) | fail)) only [nn_S, nm_D, ck_T, c2_S, on_N, on_S, lit, mNEG, nI_add, pk_mul, inb_nI, nI_clamp, wrI_row, wrL_row, rdR_rowI, rdR_rowL, rdI_def, rdL_def, rowI_same, rowI_ne, rowI_rowI, rowL_same, rowL_ne, rowL_1, rowI_21, upd_same, upd_ne, nI_le_T, nI_le_F, nI_lt_T, nI_lt_F, nI_eq_F, nI_NEG, NEG_lt0, nI_p, eq_self, if_true, if_false]
    have r10 : g2.1 (ad (b + 10)) = g.1 (ad (b + 10)) := by rw [f2.I (by omega)]; simp (disch := (first | assumption | omega | (apply Inj.ne <;> first | assumption | omega) | fail)) only [nn_S, nm_D, ck_T, c2_S, on_N, on_S, lit, mNEG, nI_add, pk_mul, inb_nI, nI_clamp, wrI_row, wrL_row, rdR_rowI, rdR_rowL, rdI_def, rdL_def, rowI_same, rowI_ne, rowI_rowI, rowL_same, rowL_ne, rowL_1, rowI_21, upd_same, upd_ne, nI_le_T, nI_le_F, nI_lt_T, nI_lt_F, nI_eq_F, nI_NEG, NEG_lt0, nI_p, eq_self, if_true, if_false]
    have r9 : g2.1 (ad (b + 9)) = putA (g.1 (ad (b + 9))) (8 * ks) (WAY key) := by rw [w3]; simp (disch := (first | assumption | omega | (apply Inj.ne <;> first | assumption | omega) | fail)) only [nn_S, nm_D, ck_T, c2_S, on_N, on_S, lit, mNEG, nI_add, pk_mul, inb_nI, nI_clamp, wrI_row, wrL_row, rdR_rowI, rdR_rowL, rdI_def, rdL_def, rowI_same, rowI_ne, rowI_rowI, rowL_same, rowL_ne, rowL_1, rowI_21, upd_same, upd_ne, nI_le_T, nI_le_F, nI_lt_T, nI_lt_F, nI_eq_F, nI_NEG, NEG_lt0, nI_p, eq_self, if_true, if_false]
    have hP2 : LgP S g2 ad b := hP.fr (by rw [f2.1]; rfl)
    have u1 : upd K ks key ks = key := upd_same _ _ _
    have u2 : ∀ q, q < ks → upd K ks key q = K q := fun q hq => upd_ne _ _ (by omega)
    have hw : ∀ q, q ≤ ks → eq8 (seg (g2.1 (ad (b + 9))) (8 * q)) (WAY (upd K ks key q)) := fun q hq => by
      rw [r9]
      by_cases he : q = ks
      · subst he
        rw [u1]
        exact seg_putA
      · rw [u2 q (by omega)]
        intro j hj
        show putA _ _ _ (8 * q + j) = _
        rw [putA_out (by omega)]
        exact c3 q (by omega) j hj
    obtain ⟨g1, p1, a1, a2, a3, a4, a5, a6, a7, a8, a9⟩ := c_learn52 hN hI (K := upd K ks key) (od := od) hks hO.2.2.1 ks N g2 (by omega) (by omega) hP2 (by rw [r1]; exact c1) hw (fun j hj => by rw [r10]; exact c4 j hj) (fun j j1 j2 => absurd j2 (by omega)) (fun j j1 j2 => absurd j2 (by omega))
    have hO1 : Ord (upd K ks key) ks od := by
      obtain ⟨o1, o2, o3, o4, o5⟩ := hO
      refine ⟨o1, fun i j hij hj => by rw [u2 i (by omega), u2 j hj]; exact o2 i j hij hj, o3, fun i j hij hj => by rw [u2 _ (o3 i (by omega)), u2 _ (o3 j hj)]; exact o4 i j hij hj, o5⟩
    refine ⟨g1, fun j => if j < p1 then od j else if j = p1 then ks else od (j - 1), ?_, ?_, ⟨?_, fun q hq => ?_, fun q hq => ?_, fun j hj => ?_⟩, hO1.ins hks (fun z hz => by rw [u1, u2 z hz]; exact z1 z hz) a4 a8 a9⟩
    · show b_X2_learn_0 N S g (ad (b + 1)) (ad 1) key = _
      unfold b_X2_learn_0
      rw [z3, c2_S, if_pos mNEG'.symm]
      simp (disch := (first | assumption | omega | (apply Inj.ne <;> first | assumption | omega) | fail)) only [nn_S, nm_D, ck_T, c2_S, on_N, on_S, lit, mNEG, nI_add, pk_mul, inb_nI, nI_clamp, wrI_row, wrL_row, rdR_rowI, rdR_rowL, rdI_def, rdL_def, rowI_same, rowI_ne, rowI_rowI, rowL_same, rowL_ne, rowL_1, rowI_21, upd_same, upd_ne, nI_le_T, nI_le_F, nI_lt_T, nI_lt_F, nI_eq_F, nI_NEG, NEG_lt0, nI_p, eq_self, if_true, if_false, c1, hP.2.1.1, hP.2.1.2.1, hP.2.2.2.2.1]
      rw [w1, c2_S, r1, c1, a1]
    · exact ((Fr.row hI (Or.inr (Or.inr (Or.inr (Or.inl rfl))))).tr (f2.mono (fun r h => by omega))).tr (a2.mono (fun r h => by omega))
    · rw [a3]; simp (disch := (first | assumption | omega | (apply Inj.ne <;> first | assumption | omega) | fail)) only [nn_S, nm_D, ck_T, c2_S, on_N, on_S, lit, mNEG, nI_add, pk_mul, inb_nI, nI_clamp, wrI_row, wrL_row, rdR_rowI, rdR_rowL, rdI_def, rdL_def, rowI_same, rowI_ne, rowI_rowI, rowL_same, rowL_ne, rowL_1, rowI_21, upd_same, upd_ne, nI_le_T, nI_le_F, nI_lt_T, nI_lt_F, nI_eq_F, nI_NEG, NEG_lt0, nI_p, eq_self, if_true, if_false]
    · rw [a2.I (by omega), r8]
      by_cases he : q = ks
      · rw [he, upd_same, upd_same]
      · rw [upd_ne _ _ he, upd_ne _ _ he]; exact c2 q (by omega)
    · rw [a2.I (by omega)]
      exact hw q (by omega)
    · show _ = nI (if j < p1 then od j else if j = p1 then ks else od (j - 1))
      by_cases d1 : j < p1
      · rw [if_pos d1]; exact a5 j d1
      · rw [if_neg d1]
        by_cases d2 : j = p1
        · rw [if_pos d2, d2]; exact a6
        · rw [if_neg d2]; exact a7 j (by omega) (by omega)
theorem c_keyOf {N : Nat} {S : Hs} {g : Hg} {ad : Nat → Nat} {b ks q : Nat} {K : Nat → Int32} {x : Int32} (e : x = nI q) (hP : LgP S g ad b) (h3 : g.1 (ad (b + 1)) 3 = nI ks) (hK : ∀ q, q < ks → g.1 (ad (b + 8)) q = K q) (hks : ks ≤ 400) (hq : q < ks) : f_X2_keyOf N S g (ad (b + 1)) x = some (K q, g) := by
  subst e
  show b_X2_keyOf_0 N S g (ad (b + 1)) (nI q) = _
  unfold b_X2_keyOf_0
  rw [if_neg (nI_pos (by omega))]
  simp (disch := (first | assumption | omega | (apply Inj.ne <;> first | assumption | omega) | fail)) only [nn_S, nm_D, ck_T, c2_S, on_N, on_S, lit, mNEG, nI_add, pk_mul, inb_nI, nI_clamp, wrI_row, wrL_row, rdR_rowI, rdR_rowL, rdI_def, rdL_def, rowI_same, rowI_ne, rowI_rowI, rowL_same, rowL_ne, rowL_1, rowI_21, upd_same, upd_ne, nI_le_T, nI_le_F, nI_lt_T, nI_lt_F, nI_eq_F, nI_NEG, NEG_lt0, nI_p, eq_self, if_true, if_false, h3, hP.2.1.1, hP.2.2.2.2.1, hK q hq]
theorem c_keyOfN {N : Nat} {S : Hs} {g : Hg} {a : Nat} : f_X2_keyOf N S g a NEG = some (0, g) := by
  show b_X2_keyOf_0 N S g a NEG = _
  unfold b_X2_keyOf_0
  rw [if_pos (by decide)]
