/-- one behind the largest number among the first n entries -/
def unl (nu : Nat → Nat) : Nat → Nat
  | 0 => 0
  | i + 1 => if unl nu i < nu i + 1 then nu i + 1 else unl nu i
theorem unl_in (nu : Nat → Nat) : ∀ n i, i < n → nu i < unl nu n
  | 0, i, h => absurd h (by omega)
  | n + 1, i, h => by
    show nu i < (if unl nu n < nu n + 1 then nu n + 1 else unl nu n)
    by_cases e : i = n
    · subst e
      by_cases c : unl nu i < nu i + 1
      · rw [if_pos c]; omega
      · rw [if_neg c]; omega
    · have := unl_in nu n i (by omega)
      by_cases c : unl nu n < nu n + 1
      · rw [if_pos c]; omega
      · rw [if_neg c]; exact this
theorem unl_ex (nu : Nat → Nat) : ∀ n, unl nu n = 0 ∨ ∃ i, i < n ∧ unl nu n = nu i + 1
  | 0 => Or.inl rfl
  | n + 1 => by
    show (if unl nu n < nu n + 1 then nu n + 1 else unl nu n) = 0 ∨ ∃ i, i < n + 1 ∧ (if unl nu n < nu n + 1 then nu n + 1 else unl nu n) = nu i + 1
    by_cases c : unl nu n < nu n + 1
    · rw [if_pos c]
      exact Or.inr ⟨n, by omega, rfl⟩
    · rw [if_neg c]
      rcases unl_ex nu n with h | ⟨i, i1, i2⟩
      · exact Or.inl h
      · exact Or.inr ⟨i, by omega, i2⟩
theorem unl_le {A : ALog} (hK : KeyWf A) {n : Nat} (hn : n ≤ lsz A) : unl (lnu A) n ≤ lks A := by
  rcases unl_ex (lnu A) n with h | ⟨i, i1, i2⟩
  · omega
  · have := (hK.2.1 i (by omega)).1
    omega
theorem unl_sur {A : ALog} (hK : KeyWf A) {n : Nat} (hn : n ≤ lsz A) {q : Nat} (hq : q < unl (lnu A) n) : ∃ i, i < n ∧ lnu A i = q := by
  rcases unl_ex (lnu A) n with h | ⟨i, i1, i2⟩
  · omega
  · by_cases e : lnu A i = q
    · exact ⟨i, i1, e⟩
    · obtain ⟨j, j1, j2⟩ := hK.2.2.1 i (by omega) q (by omega)
      exact ⟨j, by omega, j2⟩
theorem unl_all {A : ALog} (hK : KeyWf A) : unl (lnu A) (lsz A) = lks A := by
  have h1 := unl_le hK (Nat.le_refl _)
  apply Nat.le_antisymm h1
  apply Classical.byContradiction
  intro h
  obtain ⟨i, i1, i2⟩ := hK.2.2.2 (unl (lnu A) (lsz A)) (by omega)
  have := unl_in (lnu A) (lsz A) i i1
  omega
/-- the first n entries of a LOG -/
def cutL (A : ALog) (n : Nat) (od : Nat → Nat) : ALog := ((lkp A, n), (lky A, lvl A, lft A), cutM A n (lmk A), (lnu A, unl (lnu A) n, lK A, od))
theorem cutL_wf {A : ALog} (hW : LogWf A) {n : Nat} (hn : n ≤ lsz A) {od : Nat → Nat} (hO : Ord (lK A) (unl (lnu A) n) od) : LogWf (cutL A n od) := by
  obtain ⟨w1, w2, w3, w4, w5, w6⟩ := hW
  refine ⟨by show n ≤ 400; omega, Nat.le_trans (cutM_le A n (lmk A)) w2, fun k hk => ?_, cutM_un A n (lmk A) w4, ⟨hO, fun i hi => ⟨unl_in _ n i hi, (w5.2.1 i (by have : i < n := hi; omega)).2⟩, fun i hi q hq => w5.2.2.1 i (by have : i < n := hi; omega) q hq, fun q hq => unl_sur w5 hn hq⟩, w6⟩
  obtain ⟨i, _, _, i3, _, i5⟩ := cutM_of A n (lmk A) k hk
  show (cutM A n (lmk A)).2.2.1 k ≤ n
  rw [i3]
  exact i5
theorem c_copyFirst113 {N : Nat} {S : Hs} {ad : Nat → Nat} (hI : Inj ad) {b c n_ sz : Nat} {key : Nat → Int32} {val : Nat → Int64} (hbc : b + 14 ≤ c ∨ c + 14 ≤ b) (hn : n_ ≤ sz) (hsz : sz ≤ 400) : ∀ (i n l : Nat) (g : Hg), l + i = 9 → i < n → LgP S g ad b → LgP S g ad c → SumsR key val sz (g.1 (ad (c + 6))) → SumsG key val (fun z => if z < l then n_ else 0) (g.1 (ad (b + 6))) →
    ∃ g1, n_X3_copyFirst_113 N S n g (ad b) (ad c) (nI n_) (nI l) = some ((), g1) ∧ Fr ad (fun r => r = b ∨ r = b + 6) g g1 ∧ g1.1 (ad b) = upd (g.1 (ad b)) 9 NEG ∧ SumsR key val n_ (g1.1 (ad (b + 6))) := by
  intro i
  induction i with
  | zero =>
    intro n l g e hn1 hP hQ hC hG
    obtain ⟨n, rfl⟩ : ∃ z, n = z + 1 := ⟨n - 1, by omega⟩
    refine ⟨rowI g (ad b) (upd (g.1 (ad b)) 9 NEG), ?_, Fr.row hI (Or.inl rfl), rowI_same _ _ _, fun l1 q a1 a2 => ?_⟩
    · show b_X3_copyFirst_113 N S (n_X3_copyFirst_113 N S n) g _ _ _ _ = _
      unfold b_X3_copyFirst_113
      simp (disch := (first | assumption | omega | (apply Inj.ne <;> first | assumption | omega) | fail)) only [nn_S, nm_D, ck_T, c2_S, on_N, on_S, lit, mNEG, nI_add, pk_mul, inb_nI, nI_clamp, wrI_row, wrL_row, rdR_rowI, rdR_rowL, rdI_def, rdL_def, rowI_same, rowI_ne, rowI_rowI, rowL_same, rowL_ne, rowL_1, rowI_21, upd_same, upd_ne, nI_le_T, nI_le_F, nI_lt_T, nI_lt_F, nI_eq_F, nI_NEG, NEG_lt0, nI_p, eq_self, if_true, if_false]
    · rw [rowI_ne _ _ (hI.ne (by omega))]
      exact hG l1 q a1 (by show _ ≤ (if l1 < l then n_ else 0); rw [if_pos (by omega)]; exact a2)
  | succ i ih =>
    intro n l g e hn1 hP hQ hC hG
    obtain ⟨n, rfl⟩ : ∃ z, n = z + 1 := ⟨n - 1, by omega⟩
    have l6 := hP.2.2.2.1.2.2.2.1
    have k6 := hQ.2.2.2.1.2.2.2.1
    have hp2 : 0 < 2 ^ l := Nat.two_pow_pos _
    have hdm := Nat.div_mul_le_self n_ (2 ^ l)
    have hlast : lvS l + n_ / 2 ^ l ≤ 797 := by
      generalize n_ / 2 ^ l = dd at hdm ⊢
      by_cases z : dd = 0
      · have : l = 0 ∨ l = 1 ∨ l = 2 ∨ l = 3 ∨ l = 4 ∨ l = 5 ∨ l = 6 ∨ l = 7 ∨ l = 8 := by omega
        rw [z]
        rcases this with rfl | rfl | rfl | rfl | rfl | rfl | rfl | rfl | rfl <;> simp [lvS]
      · have := lvS_in (l := l) (q := dd - 1) (by omega) (by rw [show dd - 1 + 1 = dd by omega]; omega)
        omega
    have hlv : lvS l ≤ 797 := Nat.le_trans (Nat.le_add_right _ _) hlast
    have f1 : Fr ad (fun r => r = b + 6) g (rowI g (ad (b + 6)) (va_cpy (g.1 (ad (c + 6))) (g.1 (ad (b + 6))) (lvS l * 8) (lvS l * 8) (n_ / 2 ^ l * 8))) := Fr.row hI rfl
    obtain ⟨g1, a1, a2, a3, a4⟩ := ih n (l + 1) (rowI g (ad (b + 6)) (va_cpy (g.1 (ad (c + 6))) (g.1 (ad (b + 6))) (lvS l * 8) (lvS l * 8) (n_ / 2 ^ l * 8))) (by omega) (by omega) (hP.fr rfl) (hQ.fr rfl) (by rw [f1.I (by omega)]; exact hC) (by
      intro l1 q h1 h2
      have h9 : (q + 1) * 2 ^ l1 ≤ (if l1 < l + 1 then n_ else 0) := h2
      clear h2
      rw [rowI_same]
      have hpl : 0 < 2 ^ l1 := Nat.two_pow_pos _
      have hlt : l1 < l + 1 := by
        apply Classical.byContradiction
        intro z
        rw [if_neg z] at h9
        have := Nat.mul_pos (show 0 < q + 1 by omega) hpl
        omega
      rw [if_pos hlt] at h9
      by_cases hl1 : l1 = l
      · subst hl1
        have hq : q + 1 ≤ n_ / 2 ^ l1 := (Nat.le_div_iff_mul_le hpl).mpr h9
        intro j hj
        show va_cpy _ _ _ _ _ (8 * (lvS l1 + q) + j) = _
        rw [pk_cpy_in (by omega) (by omega), show lvS l1 * 8 + (8 * (lvS l1 + q) + j - lvS l1 * 8) = 8 * (lvS l1 + q) + j by omega]
        exact hC l1 q h1 (by omega) j hj
      · have hne : lvS l1 + q < lvS l ∨ lvS l + n_ / 2 ^ l ≤ lvS l1 + q := by
          apply Classical.byContradiction
          intro z
          have z1 : lvS l ≤ lvS l1 + q := by omega
          have z2 : lvS l1 + q < lvS l + n_ / 2 ^ l := by omega
          have := lvS_inj (l := l1) (q := q) (l1 := l) (q1 := lvS l1 + q - lvS l) h1 (by omega) (by omega) (by
            have h5 : lvS l1 + q - lvS l + 1 ≤ n_ / 2 ^ l := by omega
            have h6 := Nat.mul_le_mul_right (2 ^ l) h5
            omega) (by omega)
          exact hl1 this.1
        intro j hj
        show va_cpy _ _ _ _ _ (8 * (lvS l1 + q) + j) = _
        rw [pk_cpy_out (by omega)]
        exact hG l1 q h1 (by show _ ≤ (if l1 < l then n_ else 0); rw [if_pos (by omega)]; exact h9) j hj)
    refine ⟨g1, ?_, (f1.mono (fun r h => by omega)).tr a2, ?_, a4⟩
    · show b_X3_copyFirst_113 N S (n_X3_copyFirst_113 N S n) g _ _ _ _ = _
      unfold b_X3_copyFirst_113
      rw [if_neg (show ¬ (9 : Int32) ≤ nI l from nI_ge (b := 9) (by omega) (by decide)), inb_nI (show l < 9 by omega) (by decide), ck_T, nI_clamp (show l < 2 ^ 31 by omega), lvT_lvS (show l < 9 by omega), shr_e (by omega) (by omega)]
      have hdd : n_ / 2 ^ l ≤ n_ := Nat.div_le_self _ _
      simp (disch := (first | assumption | omega | (apply Inj.ne <;> first | assumption | omega) | fail)) only [nn_S, nm_D, ck_T, c2_S, on_N, on_S, lit, mNEG, nI_add, pk_mul, inb_nI, nI_clamp, wrI_row, wrL_row, rdR_rowI, rdR_rowL, rdI_def, rdL_def, rowI_same, rowI_ne, rowI_rowI, rowL_same, rowL_ne, rowL_1, rowI_21, upd_same, upd_ne, nI_le_T, nI_le_F, nI_lt_T, nI_lt_F, nI_eq_F, nI_NEG, NEG_lt0, nI_p, eq_self, if_true, if_false, hQ.1.2.2.2.2.2.1, hP.1.2.2.2.2.2.1, l6, k6, cpok_nI, cpI_row]
      exact a1
    · rw [a3, f1.I (by omega)]
theorem c_copyFirst18 {N : Nat} (hN : 40000 ≤ N) {S : Hs} {ad : Nat → Nat} (hI : Inj ad) {b c n_ : Nat} {A : ALog} (hb : 100 ≤ b) (hbc : b + 14 ≤ c ∨ c + 14 ≤ b) (hn : n_ ≤ lsz A) : ∀ (i n j : Nat) (g : Hg), j + i = n_ → i < n → LgP S g ad b → CLO S g ad c A →
    ∃ g1 od1, n_X3_copyFirst_18 N S n g (ad b) (ad c) (nI n_) (nI (unl (lnu A) j)) (nI j) = some ((), g1) ∧ Fr ad (fun r => b ≤ r ∧ r < b + 14) g g1 ∧ g1.1 (ad b) = upd (g.1 (ad b)) 9 NEG ∧ LogWf (cutL A n_ od1) ∧ CNum g1 ad b (cutL A n_ od1) ∧ (∀ i, i < n_ → g1.1 (ad (b + 4)) i = nI (lft A i)) ∧ (∀ i, i < n_ → lft A i ≠ 2 → g1.2.1 (ad (b + 5)) i = lvl A i) ∧ SumsR (lky A) (lvl A) n_ (g1.1 (ad (b + 6))) ∧ CKy g1 ad b (cutL A n_ od1) ∧ CMark g1 ad b (cutL A n_ od1) := by
  intro i
  induction i with
  | zero =>
    intro n j g h1 h2 hP hC
    obtain ⟨n, rfl⟩ : ∃ z, n = z + 1 := ⟨n - 1, by omega⟩
    obtain rfl : j = n_ := by omega
    obtain ⟨hQ, hV, hW⟩ := id hC
    have hsz := hW.1
    have hK := hW.2.2.2.2.1
    obtain ⟨g1, od1, a1, a2, a3, a4⟩ := c_keysCopy hN hI hbc hK.1 (unl_le hK hn) hP hQ hV.2.2.2.2.2.1
    have hC1 := hC.fr a2 (fun r r1 r2 => by omega)
    have hP1 := hP.fr a2.1
    obtain ⟨g2, b1, b2, b3, b4⟩ := c_copyUpTo hN hI hbc hW (show j ≤ 400 by omega) hP1 hC1.1 hC1.2.1.2.2.2.2.2.2.1
    have hC2 := hC1.fr b2 (fun r r1 r2 => by omega)
    have hP2 := hP1.fr b2.1
    let g3 : Hg := rowL (rowI (rowI g2 (ad (b + 3)) (va_cpy (g2.1 (ad (c + 3))) (g2.1 (ad (b + 3))) 0 0 j)) (ad (b + 4)) (va_cpy (g2.1 (ad (c + 4))) (g2.1 (ad (b + 4))) 0 0 j)) (ad (b + 5)) (va_cpy (g2.2.1 (ad (c + 5))) (g2.2.1 (ad (b + 5))) 0 0 j)
    have f3 : Fr ad (fun r => r = b + 3 ∨ r = b + 4 ∨ r = b + 5) g2 g3 := Fr.rt hI (Fr.rt hI (Fr.rowL hI (Or.inr (Or.inr rfl))) (Or.inr (Or.inl rfl))) (Or.inl rfl)
    have hC3 := hC2.fr f3 (fun r r1 r2 => by omega)
    have hP3 := hP2.fr f3.1
    obtain ⟨g4, c1, c2', c3, c4⟩ := c_copyFirst113 (N := N) (S := S) hI (n_ := j) (sz := lsz A) (key := lky A) (val := lvl A) hbc hn hsz 9 N 0 g3 (by omega) (by omega) hP3 hC3.1 hC3.2.1.2.2.2.2.1 (fun l q h3 h4 => by
      have h4 : (q + 1) * 2 ^ l ≤ (if l < 0 then j else 0) := h4
      rw [if_neg (by omega)] at h4
      have := Nat.mul_pos (show 0 < q + 1 by omega) (Nat.two_pow_pos l)
      omega)
    have o : ∀ r, r ≠ b → r ≠ b + 6 → g4.1 (ad r) = g3.1 (ad r) ∧ g4.2.1 (ad r) = g3.2.1 (ad r) := fun r r1 r2 => c2'.2 r (by omega)
    refine ⟨g4, od1, ?_, (((a2.mono (fun r h => by omega)).tr (b2.mono (fun r h => by omega))).tr (f3.mono (fun r h => by omega))).tr (c2'.mono (fun r h => by omega)), ?_, cutL_wf hW hn a4, fun i hi => ?_, fun i hi => ?_, fun i hi hf => ?_, c4, ?_, ?_⟩
    · show b_X3_copyFirst_18 N S (n_X3_copyFirst_18 N S n) g _ _ _ _ _ = _
      unfold b_X3_copyFirst_18
      rw [if_pos (Int32.le_refl _), hP.1.1, nn_S, hQ.1.1, nn_S, a1, c2_S, hP1.1.2.1, nn_S, hC1.1.1.2.1, nn_S, b1, c2_S]
      have hl : ∀ (g : Hg) (a sp d dp m : Nat), cpL g a sp d dp m = rowL g d (va_cpy (g.2.1 a) (g.2.1 d) sp dp m) := fun _ _ _ _ _ _ => rfl
      simp (disch := (first | assumption | omega | (apply Inj.ne <;> first | assumption | omega) | fail)) only [nn_S, nm_D, ck_T, c2_S, on_N, on_S, lit, mNEG, nI_add, pk_mul, inb_nI, nI_clamp, wrI_row, wrL_row, rdR_rowI, rdR_rowL, rdI_def, rdL_def, rowI_same, rowI_ne, rowI_rowI, rowL_same, rowL_ne, rowL_1, rowI_21, upd_same, upd_ne, nI_le_T, nI_le_F, nI_lt_T, nI_lt_F, nI_eq_F, nI_NEG, NEG_lt0, nI_p, eq_self, if_true, if_false, hC2.1.1.2.2.1, hP2.1.2.2.1, hC2.1.1.2.2.2.1, hP2.1.2.2.2.1, hC2.1.1.2.2.2.2.1, hP2.1.2.2.2.2.1, hQ.2.2.2.1.1, hQ.2.2.2.1.2.1, hQ.2.2.2.1.2.2.1, hP.2.2.2.1.1, hP.2.2.2.1.2.1, hP.2.2.2.1.2.2.1, cpok_nI, cpI_row, hl]
      exact c1
    · rw [c3, f3.I (by omega), b2.I (by omega), a2.I (by omega)]
    · have hi : i < j := hi
      rw [(o (b + 3) (by omega) (by omega)).1]
      show (rowL (rowI (rowI g2 _ _) _ _) _ _).1 (ad (b + 3)) i = nI (lnu A i)
      simp (disch := (first | assumption | omega | (apply Inj.ne <;> first | assumption | omega) | fail)) only [nn_S, nm_D, ck_T, c2_S, on_N, on_S, lit, mNEG, nI_add, pk_mul, inb_nI, nI_clamp, wrI_row, wrL_row, rdR_rowI, rdR_rowL, rdI_def, rdL_def, rowI_same, rowI_ne, rowI_rowI, rowL_same, rowL_ne, rowL_1, rowI_21, upd_same, upd_ne, nI_le_T, nI_le_F, nI_lt_T, nI_lt_F, nI_eq_F, nI_NEG, NEG_lt0, nI_p, eq_self, if_true, if_false]
      rw [pk_cpy_in (by omega) (by omega)]
      simp only [Nat.zero_add, Nat.sub_zero]
      exact hC2.2.1.2.1 i (by omega)
    · rw [(o (b + 4) (by omega) (by omega)).1]
      show (rowL (rowI (rowI g2 _ _) _ _) _ _).1 (ad (b + 4)) i = nI (lft A i)
      simp (disch := (first | assumption | omega | (apply Inj.ne <;> first | assumption | omega) | fail)) only [nn_S, nm_D, ck_T, c2_S, on_N, on_S, lit, mNEG, nI_add, pk_mul, inb_nI, nI_clamp, wrI_row, wrL_row, rdR_rowI, rdR_rowL, rdI_def, rdL_def, rowI_same, rowI_ne, rowI_rowI, rowL_same, rowL_ne, rowL_1, rowI_21, upd_same, upd_ne, nI_le_T, nI_le_F, nI_lt_T, nI_lt_F, nI_eq_F, nI_NEG, NEG_lt0, nI_p, eq_self, if_true, if_false]
      rw [pk_cpy_in (by omega) (by omega)]
      simp only [Nat.zero_add, Nat.sub_zero]
      exact hC2.2.1.2.2.1 i (by omega)
    · rw [(o (b + 5) (by omega) (by omega)).2]
      show (rowL (rowI (rowI g2 _ _) _ _) _ _).2.1 (ad (b + 5)) i = lvl A i
      simp (disch := (first | assumption | omega | (apply Inj.ne <;> first | assumption | omega) | fail)) only [nn_S, nm_D, ck_T, c2_S, on_N, on_S, lit, mNEG, nI_add, pk_mul, inb_nI, nI_clamp, wrI_row, wrL_row, rdR_rowI, rdR_rowL, rdI_def, rdL_def, rowI_same, rowI_ne, rowI_rowI, rowL_same, rowL_ne, rowL_1, rowI_21, upd_same, upd_ne, nI_le_T, nI_le_F, nI_lt_T, nI_lt_F, nI_eq_F, nI_NEG, NEG_lt0, nI_p, eq_self, if_true, if_false]
      rw [pk_cpy_in (by omega) (by omega)]
      simp only [Nat.zero_add, Nat.sub_zero]
      exact hC2.2.1.2.2.2.1 i (by omega) hf
    · have h1 := (CKey.fr a3 b2 (by omega)).fr f3 (by omega)
      exact CKey.fr h1 c2' (by omega)
    · show g4.1 (ad (b + 2)) 3 = nI (cutM A j (lmk A)).1 ∧ ∀ k, k < (cutM A j (lmk A)).1 → g4.1 (ad (b + 11)) k = (cutM A j (lmk A)).2.1 k ∧ g4.1 (ad (b + 12)) k = nI ((cutM A j (lmk A)).2.2.1 k) ∧ g4.1 (ad (b + 13)) k = bI ((cutM A j (lmk A)).2.2.2 k)
      have w : ∀ r, r = b + 2 ∨ r = b + 11 ∨ r = b + 12 ∨ r = b + 13 → g4.1 (ad r) = g2.1 (ad r) := fun r hr => (o r (by omega) (by omega)).1.trans (f3.I (by omega))
      rw [w (b + 2) (by omega), w (b + 11) (by omega), w (b + 12) (by omega), w (b + 13) (by omega)]
      exact ⟨b3, b4⟩
  | succ i ih =>
    intro n j g h1 h2 hP hC
    obtain ⟨n, rfl⟩ : ∃ z, n = z + 1 := ⟨n - 1, by omega⟩
    obtain ⟨g1, od1, q1, q2⟩ := ih n (j + 1) g (by omega) (by omega) hP hC
    refine ⟨g1, od1, ?_, q2⟩
    have hsz := hC.2.2.1
    have hks := hC.2.2.2.2.2.2.1.1.1
    have hnu := hC.2.1.2.1 j (by omega)
    have hnk := (hC.2.2.2.2.2.2.1.2.1 j (by omega)).1
    have hul := unl_le hC.2.2.2.2.2.2.1 (n := j) (by omega)
    show b_X3_copyFirst_18 N S (n_X3_copyFirst_18 N S n) g _ _ _ _ _ = _
    unfold b_X3_copyFirst_18
    rw [if_neg (nI_ge (by omega) (by omega)), hC.1.1.2.2.1, nn_S, hC.1.2.2.2.1.1, inb_nI (by omega) (by decide), ck_T, nI_clamp (by omega), show rdI g (ad (c + 3)) j = _ from hnu, nI_1, nm_D, nm_D, nI_1]
    have e : (if nI (unl (lnu A) j) < nI (lnu A j + 1) then nI (lnu A j + 1) else nI (unl (lnu A) j)) = nI (unl (lnu A) (j + 1)) := by
      show _ = nI (if unl (lnu A) j < lnu A j + 1 then lnu A j + 1 else unl (lnu A) j)
      by_cases c : unl (lnu A) j < lnu A j + 1
      · rw [if_pos c, if_pos (nI_lt c (by omega))]
      · rw [if_neg c, if_neg (nI_nlt (by omega) (by omega))]
    rw [e]
    exact q1
/-- a LOG's first n entries come into another one -/
theorem c_copyFirst {N : Nat} (hN : 40000 ≤ N) {S : Hs} {g : Hg} {ad : Nat → Nat} (hI : Inj ad) {b c n : Nat} {A : ALog} {x : Int32} (e : x = nI n) (hb : 100 ≤ b) (hbc : b + 14 ≤ c ∨ c + 14 ≤ b) (hn : n ≤ lsz A) (hP : LgP S g ad b) (hC : CLO S g ad c A) :
    ∃ g1 od1, f_X3_copyFirst N S g (ad b) (ad c) x = some ((), g1) ∧ Fr ad (fun r => b ≤ r ∧ r < b + 14) g g1 ∧ CLO S g1 ad b (cutL A n od1) := by
  subst e
  have hsz := hC.2.2.1
  let g0 : Hg := rowI g (ad b) (upd (upd (g.1 (ad b)) 6 (lkp A)) 7 (nI n))
  have f0 : Fr ad (fun r => r = b) g g0 := Fr.row hI rfl
  obtain ⟨g1, od1, q1, q2, q3, q4, q5, q6, q7, q8, q9, q10⟩ := c_copyFirst18 hN hI (n_ := n) (A := A) hb hbc hn n N 0 g0 (by omega) (by omega) (hP.fr f0.1) (hC.fr f0 (fun r r1 r2 => by omega))
  have hr : g0.1 (ad b) = upd (upd (g.1 (ad b)) 6 (lkp A)) 7 (nI n) := rowI_same _ _ _
  refine ⟨g1, od1, ?_, (f0.mono (fun r h => by omega)).tr q2, hP.fr (by rw [q2.1]; rfl), ⟨⟨?_, ?_⟩, q5, q6, q7, q8, q9, q10, Or.inl ?_⟩, q4⟩
  · show b_X3_copyFirst_0 N S g _ _ _ = _
    unfold b_X3_copyFirst_0
    simp (disch := (first | assumption | omega | (apply Inj.ne <;> first | assumption | omega) | fail)) only [nn_S, nm_D, ck_T, c2_S, on_N, on_S, lit, mNEG, nI_add, pk_mul, inb_nI, nI_clamp, wrI_row, wrL_row, rdR_rowI, rdR_rowL, rdI_def, rdL_def, rowI_same, rowI_ne, rowI_rowI, rowL_same, rowL_ne, rowL_1, rowI_21, upd_same, upd_ne, nI_le_T, nI_le_F, nI_lt_T, nI_lt_F, nI_eq_F, nI_NEG, NEG_lt0, nI_p, eq_self, if_true, if_false, show g.1 (ad c) 6 = lkp A from hC.2.1.1.1]
    exact q1
  · rw [q3, hr]; simp (disch := (first | assumption | omega | (apply Inj.ne <;> first | assumption | omega) | fail)) only [nn_S, nm_D, ck_T, c2_S, on_N, on_S, lit, mNEG, nI_add, pk_mul, inb_nI, nI_clamp, wrI_row, wrL_row, rdR_rowI, rdR_rowL, rdI_def, rdL_def, rowI_same, rowI_ne, rowI_rowI, rowL_same, rowL_ne, rowL_1, rowI_21, upd_same, upd_ne, nI_le_T, nI_le_F, nI_lt_T, nI_lt_F, nI_eq_F, nI_NEG, NEG_lt0, nI_p, eq_self, if_true, if_false]; rfl
  · rw [q3, hr]; simp (disch := (first | assumption | omega | (apply Inj.ne <;> first | assumption | omega) | fail)) only [nn_S, nm_D, ck_T, c2_S, on_N, on_S, lit, mNEG, nI_add, pk_mul, inb_nI, nI_clamp, wrI_row, wrL_row, rdR_rowI, rdR_rowL, rdI_def, rdL_def, rowI_same, rowI_ne, rowI_rowI, rowL_same, rowL_ne, rowL_1, rowI_21, upd_same, upd_ne, nI_le_T, nI_le_F, nI_lt_T, nI_lt_F, nI_eq_F, nI_NEG, NEG_lt0, nI_p, eq_self, if_true, if_false]; rfl
  · rw [q3, upd_same]
def newL (kp : Int32) : ALog := ((kp, 0), ((fun _ => 0), (fun _ => 0), (fun _ => 0)), (0, (fun _ => 0), (fun _ => 0), (fun _ => false)), ((fun _ => 0), 0, (fun _ => 0), (fun _ => 0)))
theorem newL_wf (kp : Int32) : LogWf (newL kp) := ⟨by show 0 ≤ 400; omega, by show 0 ≤ 100; omega, fun k hk => absurd hk (by show ¬ k < 0; omega), fun i j _ hj => absurd hj (by show ¬ j < 0; omega), ⟨⟨by show 0 ≤ 400; omega, fun i j _ hj => absurd hj (by show ¬ j < 0; omega), fun j hj => absurd hj (by show ¬ j < 0; omega), fun i j _ hj => absurd hj (by show ¬ j < 0; omega), fun j hj => absurd hj (by show ¬ j < 0; omega)⟩, fun j hj => absurd hj (by show ¬ j < 0; omega), fun j hj => absurd hj (by show ¬ j < 0; omega), fun j hj => absurd hj (by show ¬ j < 0; omega)⟩, fun i => by show 0 ≤ 2; omega⟩
theorem c_clearLog {N : Nat} {S : Hs} {g : Hg} {ad : Nat → Nat} (hI : Inj ad) {b : Nat} (kp : Int32) (hP : LgP S g ad b) : ∃ g1, f_X3_clear N S g (ad b) kp = some ((), g1) ∧ Fr ad (fun r => b ≤ r ∧ r < b + 14) g g1 ∧ CLO S g1 ad b (newL kp) := by
  refine ⟨rowI (rowI (rowI (rowI g (ad b) (upd (upd (g.1 (ad b)) 6 kp) 7 (nI 0))) (ad (b + 1)) (upd (g.1 (ad (b + 1))) 3 (nI 0))) (ad (b + 2)) (upd (g.1 (ad (b + 2))) 3 (nI 0))) (ad b) (upd (upd (upd (g.1 (ad b)) 6 kp) 7 (nI 0)) 9 NEG), ?_, ?_, hP.fr rfl, ⟨⟨?_, ?_⟩, fun j hj => absurd hj (by show ¬ j < 0; omega), fun j hj => absurd hj (by show ¬ j < 0; omega), fun j hj => absurd hj (by show ¬ j < 0; omega), fun l q _ hq => ?_, ⟨?_, fun j hj => absurd hj (by show ¬ j < 0; omega), fun j hj => absurd hj (by show ¬ j < 0; omega), fun j hj => absurd hj (by show ¬ j < 0; omega)⟩, ⟨?_, fun j hj => absurd hj (by show ¬ j < 0; omega)⟩, Or.inl ?_⟩, newL_wf kp⟩
  · show b_X3_clear_0 N S g _ _ = _
    unfold b_X3_clear_0
    simp (disch := (first | assumption | omega | (apply Inj.ne <;> first | assumption | omega) | fail)) only [nn_S, nm_D, ck_T, c2_S, on_N, on_S, lit, mNEG, nI_add, pk_mul, inb_nI, nI_clamp, wrI_row, wrL_row, rdR_rowI, rdR_rowL, rdI_def, rdL_def, rowI_same, rowI_ne, rowI_rowI, rowL_same, rowL_ne, rowL_1, rowI_21, upd_same, upd_ne, nI_le_T, nI_le_F, nI_lt_T, nI_lt_F, nI_eq_F, nI_NEG, NEG_lt0, nI_p, eq_self, if_true, if_false, hP.1.1, hP.1.2.1]
  · exact Fr.rt hI (Fr.rt hI (Fr.rt hI (Fr.row hI (by omega)) (by omega)) (by omega)) (by omega)
  · simp (disch := (first | assumption | omega | (apply Inj.ne <;> first | assumption | omega) | fail)) only [nn_S, nm_D, ck_T, c2_S, on_N, on_S, lit, mNEG, nI_add, pk_mul, inb_nI, nI_clamp, wrI_row, wrL_row, rdR_rowI, rdR_rowL, rdI_def, rdL_def, rowI_same, rowI_ne, rowI_rowI, rowL_same, rowL_ne, rowL_1, rowI_21, upd_same, upd_ne, nI_le_T, nI_le_F, nI_lt_T, nI_lt_F, nI_eq_F, nI_NEG, NEG_lt0, nI_p, eq_self, if_true, if_false]; rfl
  · simp (disch := (first | assumption | omega | (apply Inj.ne <;> first | assumption | omega) | fail)) only [nn_S, nm_D, ck_T, c2_S, on_N, on_S, lit, mNEG, nI_add, pk_mul, inb_nI, nI_clamp, wrI_row, wrL_row, rdR_rowI, rdR_rowL, rdI_def, rdL_def, rowI_same, rowI_ne, rowI_rowI, rowL_same, rowL_ne, rowL_1, rowI_21, upd_same, upd_ne, nI_le_T, nI_le_F, nI_lt_T, nI_lt_F, nI_eq_F, nI_NEG, NEG_lt0, nI_p, eq_self, if_true, if_false]; rfl
  · exfalso
    have hq : (q + 1) * 2 ^ l ≤ 0 := hq
    have := Nat.mul_pos (show 0 < q + 1 by omega) (Nat.two_pow_pos l)
    omega
  · simp (disch := (first | assumption | omega | (apply Inj.ne <;> first | assumption | omega) | fail)) only [nn_S, nm_D, ck_T, c2_S, on_N, on_S, lit, mNEG, nI_add, pk_mul, inb_nI, nI_clamp, wrI_row, wrL_row, rdR_rowI, rdR_rowL, rdI_def, rdL_def, rowI_same, rowI_ne, rowI_rowI, rowL_same, rowL_ne, rowL_1, rowI_21, upd_same, upd_ne, nI_le_T, nI_le_F, nI_lt_T, nI_lt_F, nI_eq_F, nI_NEG, NEG_lt0, nI_p, eq_self, if_true, if_false]; rfl
  · simp (disch := (first | assumption | omega | (apply Inj.ne <;> first | assumption | omega) | fail)) only [nn_S, nm_D, ck_T, c2_S, on_N, on_S, lit, mNEG, nI_add, pk_mul, inb_nI, nI_clamp, wrI_row, wrL_row, rdR_rowI, rdR_rowL, rdI_def, rdL_def, rowI_same, rowI_ne, rowI_rowI, rowL_same, rowL_ne, rowL_1, rowI_21, upd_same, upd_ne, nI_le_T, nI_le_F, nI_lt_T, nI_lt_F, nI_eq_F, nI_NEG, NEG_lt0, nI_p, eq_self, if_true, if_false]; rfl
  · simp (disch := (first | assumption | omega | (apply Inj.ne <;> first | assumption | omega) | fail)) only [nn_S, nm_D, ck_T, c2_S, on_N, on_S, lit, mNEG, nI_add, pk_mul, inb_nI, nI_clamp, wrI_row, wrL_row, rdR_rowI, rdR_rowL, rdI_def, rdL_def, rowI_same, rowI_ne, rowI_rowI, rowL_same, rowL_ne, rowL_1, rowI_21, upd_same, upd_ne, nI_le_T, nI_le_F, nI_lt_T, nI_lt_F, nI_eq_F, nI_NEG, NEG_lt0, nI_p, eq_self, if_true, if_false]
