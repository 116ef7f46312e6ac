/-! the class: small questions and changes of a LOG -/
theorem ge_gt {x : Int32} {m : Nat} (hm : m + 1 < 2 ^ 31) (h : nI (m + 1) ≤ x) : nI m < x ∧ ¬ x < 0 ∧ nI m ≤ x := by
  have h1 := Int32.le_iff_toInt_le.mp h
  rw [nI_toInt hm] at h1
  refine ⟨Int32.lt_iff_toInt_lt.mpr ?_, fun c => ?_, Int32.le_iff_toInt_le.mpr ?_⟩
  · rw [nI_toInt (by omega)]; omega
  · have h2 := Int32.lt_iff_toInt_lt.mp c
    rw [Int32.toInt_zero] at h2
    omega
  · rw [nI_toInt (by omega)]; omega
theorem ge_nn {x : Int32} {m : Nat} (hm : m < 2 ^ 31) (h : nI m ≤ x) : ¬ x < 0 := by
  have h1 := Int32.le_iff_toInt_le.mp h
  rw [nI_toInt hm] at h1
  intro c
  have h2 := Int32.lt_iff_toInt_lt.mp c
  rw [Int32.toInt_zero] at h2
  omega
theorem c_reachesT {N : Nat} {S : Hs} {g : Hg} {ad : Nat → Nat} {b n : Nat} {A : ALog} (hC : CLO S g ad b A) (hn : n ≤ lsz A) : f_X3_reaches N S g (ad b) (nI n) = some (nI 1, g) := by
  have h7 := hC.2.1.1.2
  have hsz := hC.2.2.1
  show b_X3_reaches_0 N S g (ad b) (nI n) = _
  unfold b_X3_reaches_0
  simp (disch := (first | assumption | omega | (apply Inj.ne <;> first | assumption | omega) | fail)) only [nn_S, nm_D, ck_T, c2_S, on_N, on_S, lit, mNEG, nI_add, pk_mul, inb_nI, nI_clamp, wrI_row, wrL_row, rdR_rowI, rdR_rowL, rdI_def, rdL_def, rowI_same, rowI_ne, rowI_rowI, rowL_same, rowL_ne, rowL_1, rowI_21, upd_same, upd_ne, nI_le_T, nI_le_F, nI_lt_T, nI_lt_F, nI_eq_F, nI_NEG, NEG_lt0, nI_p, eq_self, if_true, if_false, h7]
theorem c_reachesF {N : Nat} {S : Hs} {g : Hg} {ad : Nat → Nat} {b : Nat} {A : ALog} {x : Int32} (hC : CLO S g ad b A) (h : x < 0 ∨ nI (lsz A + 1) ≤ x) : f_X3_reaches N S g (ad b) x = some (nI 0, g) := by
  have h7 := hC.2.1.1.2
  have hsz := hC.2.2.1
  show b_X3_reaches_0 N S g (ad b) x = _
  unfold b_X3_reaches_0
  by_cases c : x < 0
  · rw [if_pos c]; rfl
  · rcases h with h | h
    · exact absurd h c
    · have h2 := ge_gt (show lsz A + 1 < 2 ^ 31 by omega) h
      rw [if_neg c, rdI_def, h7, if_pos h2.1]; rfl
theorem c_showsT {N : Nat} {S : Hs} {g : Hg} {ad : Nat → Nat} {b i : Nat} {A : ALog} (hC : CLO S g ad b A) (hi : i < lsz A) (hl : lft A i ≠ 2) : f_X3_shows N S g (ad b) (nI i) = some (nI 1, g) := by
  have h7 := hC.2.1.1.2
  have hsz := hC.2.2.1
  have hf := hC.2.1.2.2.1 i hi
  have hf2 := hC.2.2.2.2.2.2.2 i
  have l4 := hC.1.2.2.2.1.2.1
  show b_X3_shows_0 N S g (ad b) (nI i) = _
  unfold b_X3_shows_0
  simp (disch := (first | assumption | omega | (apply Inj.ne <;> first | assumption | omega) | fail)) only [nn_S, nm_D, ck_T, c2_S, on_N, on_S, lit, mNEG, nI_add, pk_mul, inb_nI, nI_clamp, wrI_row, wrL_row, rdR_rowI, rdR_rowL, rdI_def, rdL_def, rowI_same, rowI_ne, rowI_rowI, rowL_same, rowL_ne, rowL_1, rowI_21, upd_same, upd_ne, nI_le_T, nI_le_F, nI_lt_T, nI_lt_F, nI_eq_F, nI_NEG, NEG_lt0, nI_p, eq_self, if_true, if_false, h7, hC.1.1.2.2.2.1, l4, hf]
theorem c_showsG {N : Nat} {S : Hs} {g : Hg} {ad : Nat → Nat} {b i : Nat} {A : ALog} (hC : CLO S g ad b A) (hi : i < lsz A) (hl : lft A i = 2) : f_X3_shows N S g (ad b) (nI i) = some (nI 0, g) := by
  have h7 := hC.2.1.1.2
  have hsz := hC.2.2.1
  have hf := hC.2.1.2.2.1 i hi
  rw [hl] at hf
  have l4 := hC.1.2.2.2.1.2.1
  show b_X3_shows_0 N S g (ad b) (nI i) = _
  unfold b_X3_shows_0
  simp (disch := (first | assumption | omega | (apply Inj.ne <;> first | assumption | omega) | fail)) only [nn_S, nm_D, ck_T, c2_S, on_N, on_S, lit, mNEG, nI_add, pk_mul, inb_nI, nI_clamp, wrI_row, wrL_row, rdR_rowI, rdR_rowL, rdI_def, rdL_def, rowI_same, rowI_ne, rowI_rowI, rowL_same, rowL_ne, rowL_1, rowI_21, upd_same, upd_ne, nI_le_T, nI_le_F, nI_lt_T, nI_lt_F, nI_eq_F, nI_NEG, NEG_lt0, nI_p, eq_self, if_true, if_false, h7, hC.1.1.2.2.2.1, l4, hf]
theorem c_showsF {N : Nat} {S : Hs} {g : Hg} {ad : Nat → Nat} {b : Nat} {A : ALog} {x : Int32} (hC : CLO S g ad b A) (h : x < 0 ∨ nI (lsz A) ≤ x) : f_X3_shows N S g (ad b) x = some (nI 0, g) := by
  have h7 := hC.2.1.1.2
  show b_X3_shows_0 N S g (ad b) x = _
  unfold b_X3_shows_0
  by_cases c : x < 0
  · rw [if_pos c]; rfl
  · rcases h with h | h
    · exact absurd h c
    · rw [if_neg c, rdI_def, h7, if_pos h]; rfl
theorem c_showsAll2 {N : Nat} {S : Hs} {g : Hg} {ad : Nat → Nat} {b to fr : Nat} {A : ALog} (hC : CLO S g ad b A) (hto : to ≤ lsz A) : ∀ (f n i : Nat), i + f = to → fr ≤ i → f < n → (∀ z, fr ≤ z → z < i → lft A z ≠ 2) →
    ((∀ z, fr ≤ z → z < to → lft A z ≠ 2) ∧ n_X3_showsAll_2 N S n g (ad b) (nI to) (nI i) = some (nI 1, g)) ∨ ((∃ z, fr ≤ z ∧ z < to ∧ lft A z = 2) ∧ n_X3_showsAll_2 N S n g (ad b) (nI to) (nI i) = some (nI 0, g)) := by
  have hsz := hC.2.2.1
  intro f
  induction f with
  | zero =>
    intro n i h1 h2 h3 hz
    obtain ⟨n, rfl⟩ : ∃ z, n = z + 1 := ⟨n - 1, by omega⟩
    left
    refine ⟨fun z z1 z2 => hz z z1 (by omega), ?_⟩
    show b_X3_showsAll_2 N S (n_X3_showsAll_2 N S n) g _ _ _ = _
    unfold b_X3_showsAll_2
    simp (disch := (first | assumption | omega | (apply Inj.ne <;> first | assumption | omega) | fail)) only [nn_S, nm_D, ck_T, c2_S, on_N, on_S, lit, mNEG, nI_add, pk_mul, inb_nI, nI_clamp, wrI_row, wrL_row, rdR_rowI, rdR_rowL, rdI_def, rdL_def, rowI_same, rowI_ne, rowI_rowI, rowL_same, rowL_ne, rowL_1, rowI_21, upd_same, upd_ne, nI_le_T, nI_le_F, nI_lt_T, nI_lt_F, nI_eq_F, nI_NEG, NEG_lt0, nI_p, eq_self, if_true, if_false]
  | succ f ih =>
    intro n i h1 h2 h3 hz
    obtain ⟨n, rfl⟩ : ∃ z, n = z + 1 := ⟨n - 1, by omega⟩
    by_cases hl : lft A i = 2
    · right
      refine ⟨⟨i, h2, by omega, hl⟩, ?_⟩
      show b_X3_showsAll_2 N S (n_X3_showsAll_2 N S n) g _ _ _ = _
      unfold b_X3_showsAll_2
      rw [c_showsG hC (by omega) hl]
      simp (disch := (first | assumption | omega | (apply Inj.ne <;> first | assumption | omega) | fail)) only [nn_S, nm_D, ck_T, c2_S, on_N, on_S, lit, mNEG, nI_add, pk_mul, inb_nI, nI_clamp, wrI_row, wrL_row, rdR_rowI, rdR_rowL, rdI_def, rdL_def, rowI_same, rowI_ne, rowI_rowI, rowL_same, rowL_ne, rowL_1, rowI_21, upd_same, upd_ne, nI_le_T, nI_le_F, nI_lt_T, nI_lt_F, nI_eq_F, nI_NEG, NEG_lt0, nI_p, eq_self, if_true, if_false]
    · have hst : n_X3_showsAll_2 N S (n + 1) g (ad b) (nI to) (nI i) = n_X3_showsAll_2 N S n g (ad b) (nI to) (nI (i + 1)) := by
        show b_X3_showsAll_2 N S (n_X3_showsAll_2 N S n) g _ _ _ = _
        unfold b_X3_showsAll_2
        rw [c_showsT hC (by omega) hl]
        simp (disch := (first | assumption | omega | (apply Inj.ne <;> first | assumption | omega) | fail)) only [nn_S, nm_D, ck_T, c2_S, on_N, on_S, lit, mNEG, nI_add, pk_mul, inb_nI, nI_clamp, wrI_row, wrL_row, rdR_rowI, rdR_rowL, rdI_def, rdL_def, rowI_same, rowI_ne, rowI_rowI, rowL_same, rowL_ne, rowL_1, rowI_21, upd_same, upd_ne, nI_le_T, nI_le_F, nI_lt_T, nI_lt_F, nI_eq_F, nI_NEG, NEG_lt0, nI_p, eq_self, if_true, if_false]
      rw [hst]
      exact ih n (i + 1) (by omega) (by omega) (by omega) (fun z z1 z2 => by
        by_cases e : z = i
        · rw [e]; exact hl
        · exact hz z z1 (by omega))
theorem c_showsAll {N : Nat} (hN : 40000 ≤ N) {S : Hs} {g : Hg} {ad : Nat → Nat} {b to fr : Nat} {A : ALog} (hC : CLO S g ad b A) (hft : fr ≤ to) (hto : to ≤ lsz A) :
    ((∀ z, fr ≤ z → z < to → lft A z ≠ 2) ∧ f_X3_showsAll N S g (ad b) (nI fr) (nI to) = some (nI 1, g)) ∨ ((∃ z, fr ≤ z ∧ z < to ∧ lft A z = 2) ∧ f_X3_showsAll N S g (ad b) (nI fr) (nI to) = some (nI 0, g)) :=
  c_showsAll2 (N := N) hC hto (to - fr) N fr (by omega) (Nat.le_refl _) (by have := hC.2.2.1; omega) (fun z z1 z2 => absurd z2 (by omega))
/-! marks -/
theorem c_isTold2 {N : Nat} {S : Hs} {g : Hg} {ad : Nat → Nat} {b : Nat} {A : ALog} (key : Int32) (hP : LgP S g ad b) (hM : CMark g ad b A) (hm : lmk A ≤ 100) : ∀ (f n k : Nat), k + f = lmk A → f < n → (∀ z, z < k → mky A z ≠ key) →
    ((∃ z, z < lmk A ∧ mky A z = key) ∧ n_X5_isTold_2 N S n g (ad (b + 2)) key (nI k) = some (nI 1, g)) ∨ ((∀ z, z < lmk A → mky A z ≠ key) ∧ n_X5_isTold_2 N S n g (ad (b + 2)) key (nI k) = some (nI 0, g)) := by
  have h3 := hM.1
  intro f
  induction f with
  | zero =>
    intro n k h1 h2 hz
    obtain ⟨n, rfl⟩ : ∃ z, n = z + 1 := ⟨n - 1, by omega⟩
    right
    refine ⟨fun z z1 => hz z (by omega), ?_⟩
    show b_X5_isTold_2 N S (n_X5_isTold_2 N S n) g _ _ _ = _
    unfold b_X5_isTold_2
    simp (disch := (first | assumption | omega | (apply Inj.ne <;> first | assumption | omega) | fail)) only [nn_S, nm_D, ck_T, c2_S, on_N, on_S, lit, mNEG, nI_add, pk_mul, inb_nI, nI_clamp, wrI_row, wrL_row, rdR_rowI, rdR_rowL, rdI_def, rdL_def, rowI_same, rowI_ne, rowI_rowI, rowL_same, rowL_ne, rowL_1, rowI_21, upd_same, upd_ne, nI_le_T, nI_le_F, nI_lt_T, nI_lt_F, nI_eq_F, nI_NEG, NEG_lt0, nI_p, eq_self, if_true, if_false, h3]
  | succ f ih =>
    intro n k h1 h2 hz
    obtain ⟨n, rfl⟩ : ∃ z, n = z + 1 := ⟨n - 1, by omega⟩
    have hk := (hM.2 k (by omega)).1
    have l11 := hP.2.2.2.2.2.2.2.1
    have hst : n_X5_isTold_2 N S (n + 1) g (ad (b + 2)) key (nI k) = if mky A k = key then some (nI 1, g) else n_X5_isTold_2 N S n g (ad (b + 2)) key (nI (k + 1)) := by
      show b_X5_isTold_2 N S (n_X5_isTold_2 N S n) g _ _ _ = _
      unfold b_X5_isTold_2
      simp (disch := (first | assumption | omega | (apply Inj.ne <;> first | assumption | omega) | fail)) only [nn_S, nm_D, ck_T, c2_S, on_N, on_S, lit, mNEG, nI_add, pk_mul, inb_nI, nI_clamp, wrI_row, wrL_row, rdR_rowI, rdR_rowL, rdI_def, rdL_def, rowI_same, rowI_ne, rowI_rowI, rowL_same, rowL_ne, rowL_1, rowI_21, upd_same, upd_ne, nI_le_T, nI_le_F, nI_lt_T, nI_lt_F, nI_eq_F, nI_NEG, NEG_lt0, nI_p, eq_self, if_true, if_false, h3, hP.2.2.1.1, l11, hk]
    rw [hst]
    by_cases e : mky A k = key
    · rw [if_pos e]
      exact Or.inl ⟨⟨k, by omega, e⟩, rfl⟩
    · rw [if_neg e]
      exact ih n (k + 1) (by omega) (by omega) (fun z z1 => by
        by_cases e2 : z = k
        · rw [e2]; exact e
        · exact hz z (by omega))
theorem c_isTold {N : Nat} (hN : 40000 ≤ N) {S : Hs} {g : Hg} {ad : Nat → Nat} {b : Nat} {A : ALog} (key : Int32) (hP : LgP S g ad b) (hM : CMark g ad b A) (hm : lmk A ≤ 100) :
    ((∃ z, z < lmk A ∧ mky A z = key) ∧ f_X5_isTold N S g (ad (b + 2)) key = some (nI 1, g)) ∨ ((∀ z, z < lmk A → mky A z ≠ key) ∧ f_X5_isTold N S g (ad (b + 2)) key = some (nI 0, g)) := c_isTold2 key hP hM hm (lmk A) N 0 (by omega) (by omega) (fun z z1 => absurd z1 (by omega))
/-- one mark more -/
def markL (A : ALog) (key : Int32) (h : Bool) : ALog := (A.1, A.2.1, (lmk A + 1, upd (mky A) (lmk A) key, va_up (msi A) (lmk A) (lsz A), va_up (mhi A) (lmk A) h), A.2.2.2)
theorem va_same {α : Type} (f : Nat → α) (a : Nat) (x : α) : va_up f a x a = x := by simp [va_up]
theorem va_ne {α : Type} (f : Nat → α) {a b : Nat} (x : α) (h : b ≠ a) : va_up f a x b = f b := by simp [va_up, h]
theorem markL_wf {A : ALog} (hW : LogWf A) {key : Int32} {h : Bool} (hm : lmk A < 100) (hk : ∀ z, z < lmk A → mky A z ≠ key) : LogWf (markL A key h) := by
  obtain ⟨w1, w2, w3, w4, w5, w6⟩ := hW
  refine ⟨w1, by show lmk A + 1 ≤ 100; omega, fun k hk1 => ?_, fun i j hij hj => ?_, w5, w6⟩
  · have hk1 : k < lmk A + 1 := hk1
    show va_up (msi A) (lmk A) (lsz A) k ≤ lsz A
    by_cases e : k = lmk A
    · rw [e, va_same]; exact Nat.le_refl _
    · rw [va_ne _ _ e]; exact w3 k (by omega)
  · have hj : j < lmk A + 1 := hj
    show upd (mky A) (lmk A) key i ≠ upd (mky A) (lmk A) key j
    rw [upd_ne _ _ (by omega)]
    by_cases e : j = lmk A
    · rw [e, upd_same]; exact hk i (by omega)
    · rw [upd_ne _ _ e]; exact w4 i j hij (by omega)
theorem c_tellMark {N : Nat} (hN : 40000 ≤ N) {S : Hs} {g : Hg} {ad : Nat → Nat} (hI : Inj ad) {b : Nat} {A : ALog} (key : Int32) (h : Bool) (hC : CLO S g ad b A) :
    ((lmk A = 100 ∨ ∃ z, z < lmk A ∧ mky A z = key) ∧ ∃ g1, f_X3_tellMark N S g (ad b) key (bI h) = some (nI 0, g1) ∧ Fr ad (fun r => b ≤ r ∧ r < b + 14) g g1 ∧ CLO S g1 ad b A) ∨
    ((lmk A < 100 ∧ ∀ z, z < lmk A → mky A z ≠ key) ∧ ∃ g1, f_X3_tellMark N S g (ad b) key (bI h) = some (nI 1, g1) ∧ Fr ad (fun r => b ≤ r ∧ r < b + 14) g g1 ∧ CLO S g1 ad b (markL A key h)) := by
  obtain ⟨hP, hV, hW⟩ := hC
  obtain ⟨⟨v1, v2⟩, v3, v4, v5, v6, v7, v8, v9⟩ := hV
  have hm := hW.2.1
  have hsz := hW.1
  have f0 : Fr ad (fun r => r = b) g (rowI g (ad b) (upd (g.1 (ad b)) 9 NEG)) := Fr.row hI rfl
  have hC0 : CLO S (rowI g (ad b) (upd (g.1 (ad b)) 9 NEG)) ad b A := by
    refine ⟨hP.fr rfl, ⟨⟨?_, ?_⟩, v3.fr f0 (by omega), ?_, ?_, ?_, v7.fr f0 (by omega), v8.fr f0 (by omega), Or.inl ?_⟩, hW⟩
    · simp (disch := (first | assumption | omega | (apply Inj.ne <;> first | assumption | omega) | fail)) only [nn_S, nm_D, ck_T, c2_S, on_N, on_S, lit, mNEG, nI_add, pk_mul, inb_nI, nI_clamp, wrI_row, wrL_row, rdR_rowI, rdR_rowL, rdI_def, rdL_def, rowI_same, rowI_ne, rowI_rowI, rowL_same, rowL_ne, rowL_1, rowI_21, upd_same, upd_ne, nI_le_T, nI_le_F, nI_lt_T, nI_lt_F, nI_eq_F, nI_NEG, NEG_lt0, nI_p, eq_self, if_true, if_false]; exact v1
    · simp (disch := (first | assumption | omega | (apply Inj.ne <;> first | assumption | omega) | fail)) only [nn_S, nm_D, ck_T, c2_S, on_N, on_S, lit, mNEG, nI_add, pk_mul, inb_nI, nI_clamp, wrI_row, wrL_row, rdR_rowI, rdR_rowL, rdI_def, rdL_def, rowI_same, rowI_ne, rowI_rowI, rowL_same, rowL_ne, rowL_1, rowI_21, upd_same, upd_ne, nI_le_T, nI_le_F, nI_lt_T, nI_lt_F, nI_eq_F, nI_NEG, NEG_lt0, nI_p, eq_self, if_true, if_false]; exact v2
    · rw [f0.I (by omega)]; exact v4
    · rw [f0.L (by omega)]; exact v5
    · rw [f0.I (by omega)]; exact v6
    · simp (disch := (first | assumption | omega | (apply Inj.ne <;> first | assumption | omega) | fail)) only [nn_S, nm_D, ck_T, c2_S, on_N, on_S, lit, mNEG, nI_add, pk_mul, inb_nI, nI_clamp, wrI_row, wrL_row, rdR_rowI, rdR_rowL, rdI_def, rdL_def, rowI_same, rowI_ne, rowI_rowI, rowL_same, rowL_ne, rowL_1, rowI_21, upd_same, upd_ne, nI_le_T, nI_le_F, nI_lt_T, nI_lt_F, nI_eq_F, nI_NEG, NEG_lt0, nI_p, eq_self, if_true, if_false]
  have h3 : (rowI g (ad b) (upd (g.1 (ad b)) 9 NEG)).1 (ad (b + 2)) 3 = nI (lmk A) := hC0.2.1.2.2.2.2.2.2.1.1
  by_cases c : lmk A = 100
  · left
    refine ⟨Or.inl c, rowI g (ad b) (upd (g.1 (ad b)) 9 NEG), ?_, f0.mono (fun r h => by omega), hC0⟩
    have ht : f_X5_tell N S (rowI g (ad b) (upd (g.1 (ad b)) 9 NEG)) (ad (b + 2)) key (nI (lsz A)) (bI h) = some (nI 0, rowI g (ad b) (upd (g.1 (ad b)) 9 NEG)) := by
      show b_X5_tell_0 N S _ _ _ _ _ = _
      unfold b_X5_tell_0
      rw [rdI_def, h3, c]
      simp (disch := (first | assumption | omega | (apply Inj.ne <;> first | assumption | omega) | fail)) only [nn_S, nm_D, ck_T, c2_S, on_N, on_S, lit, mNEG, nI_add, pk_mul, inb_nI, nI_clamp, wrI_row, wrL_row, rdR_rowI, rdR_rowL, rdI_def, rdL_def, rowI_same, rowI_ne, rowI_rowI, rowL_same, rowL_ne, rowL_1, rowI_21, upd_same, upd_ne, nI_le_T, nI_le_F, nI_lt_T, nI_lt_F, nI_eq_F, nI_NEG, NEG_lt0, nI_p, eq_self, if_true, if_false]
    show b_X3_tellMark_0 N S g (ad b) key (bI h) = _
    unfold b_X3_tellMark_0
    simp (disch := (first | assumption | omega | (apply Inj.ne <;> first | assumption | omega) | fail)) only [nn_S, nm_D, ck_T, c2_S, on_N, on_S, lit, mNEG, nI_add, pk_mul, inb_nI, nI_clamp, wrI_row, wrL_row, rdR_rowI, rdR_rowL, rdI_def, rdL_def, rowI_same, rowI_ne, rowI_rowI, rowL_same, rowL_ne, rowL_1, rowI_21, upd_same, upd_ne, nI_le_T, nI_le_F, nI_lt_T, nI_lt_F, nI_eq_F, nI_NEG, NEG_lt0, nI_p, eq_self, if_true, if_false, hP.1.2.1, v2, ht]
    rfl
  · rcases c_isTold hN key (hP.fr (g1 := rowI g (ad b) (upd (g.1 (ad b)) 9 NEG)) rfl) hC0.2.1.2.2.2.2.2.2.1 hm with ⟨c1, c2⟩ | ⟨c1, c2⟩
    · left
      refine ⟨Or.inr c1, rowI g (ad b) (upd (g.1 (ad b)) 9 NEG), ?_, f0.mono (fun r h => by omega), hC0⟩
      have ht : f_X5_tell N S (rowI g (ad b) (upd (g.1 (ad b)) 9 NEG)) (ad (b + 2)) key (nI (lsz A)) (bI h) = some (nI 0, rowI g (ad b) (upd (g.1 (ad b)) 9 NEG)) := by
        show b_X5_tell_0 N S _ _ _ _ _ = _
        unfold b_X5_tell_0
        rw [rdI_def, h3, c2]
        simp (disch := (first | assumption | omega | (apply Inj.ne <;> first | assumption | omega) | fail)) only [nn_S, nm_D, ck_T, c2_S, on_N, on_S, lit, mNEG, nI_add, pk_mul, inb_nI, nI_clamp, wrI_row, wrL_row, rdR_rowI, rdR_rowL, rdI_def, rdL_def, rowI_same, rowI_ne, rowI_rowI, rowL_same, rowL_ne, rowL_1, rowI_21, upd_same, upd_ne, nI_le_T, nI_le_F, nI_lt_T, nI_lt_F, nI_eq_F, nI_NEG, NEG_lt0, nI_p, eq_self, if_true, if_false]
      show b_X3_tellMark_0 N S g (ad b) key (bI h) = _
      unfold b_X3_tellMark_0
      simp (disch := (first | assumption | omega | (apply Inj.ne <;> first | assumption | omega) | fail)) only [nn_S, nm_D, ck_T, c2_S, on_N, on_S, lit, mNEG, nI_add, pk_mul, inb_nI, nI_clamp, wrI_row, wrL_row, rdR_rowI, rdR_rowL, rdI_def, rdL_def, rowI_same, rowI_ne, rowI_rowI, rowL_same, rowL_ne, rowL_1, rowI_21, upd_same, upd_ne, nI_le_T, nI_le_F, nI_lt_T, nI_lt_F, nI_eq_F, nI_NEG, NEG_lt0, nI_p, eq_self, if_true, if_false, hP.1.2.1, v2, ht]
      rfl
    · right
      refine ⟨⟨by omega, c1⟩, ?_⟩
      have l11 := hP.2.2.2.2.2.2.2.1
      have l12 := hP.2.2.2.2.2.2.2.2.1
      have l13 := hP.2.2.2.2.2.2.2.2.2
      generalize hg0 : rowI g (ad b) (upd (g.1 (ad b)) 9 NEG) = g0 at *
      obtain ⟨hP0, hV0, _⟩ := id hC0
      have hM0 := hV0.2.2.2.2.2.2.1
      let g1 : Hg := rowI (rowI (rowI (rowI g0 (ad (b + 11)) (upd (g0.1 (ad (b + 11))) (lmk A) key)) (ad (b + 12)) (upd (g0.1 (ad (b + 12))) (lmk A) (nI (lsz A)))) (ad (b + 13)) (upd (g0.1 (ad (b + 13))) (lmk A) (bI h))) (ad (b + 2)) (upd (g0.1 (ad (b + 2))) 3 (nI (lmk A + 1)))
      have f1 : Fr ad (fun r => r = b + 2 ∨ 11 + b ≤ r ∧ r ≤ b + 13) g0 g1 := Fr.rt hI (Fr.rt hI (Fr.rt hI (Fr.row hI (Or.inl rfl)) (by omega)) (by omega)) (by omega)
      refine ⟨g1, ?_, (f0.mono (fun r h => by omega)).tr (f1.mono (fun r h => by omega)), ?_⟩
      · have ht : f_X5_tell N S g0 (ad (b + 2)) key (nI (lsz A)) (bI h) = some (nI 1, g1) := by
          show b_X5_tell_0 N S _ _ _ _ _ = _
          unfold b_X5_tell_0
          rw [c2]
          simp (disch := (first | assumption | omega | (apply Inj.ne <;> first | assumption | omega) | fail)) only [nn_S, nm_D, ck_T, c2_S, on_N, on_S, lit, mNEG, nI_add, pk_mul, inb_nI, nI_clamp, wrI_row, wrL_row, rdR_rowI, rdR_rowL, rdI_def, rdL_def, rowI_same, rowI_ne, rowI_rowI, rowL_same, rowL_ne, rowL_1, rowI_21, upd_same, upd_ne, nI_le_T, nI_le_F, nI_lt_T, nI_lt_F, nI_eq_F, nI_NEG, NEG_lt0, nI_p, eq_self, if_true, if_false, h3, hP0.2.2.1.1, hP0.2.2.1.2.1, hP0.2.2.1.2.2, l11, l12, l13, zb_bI]
          rfl
        have e2 : g0.1 (ad b) 7 = nI (lsz A) := hV0.1.2
        show b_X3_tellMark_0 N S g (ad b) key (bI h) = _
        unfold b_X3_tellMark_0
        simp only [nm_D, wrI_row, mNEG']
        rw [hg0, hP0.1.2.1, nn_S, rdI_def, e2, ht]
        simp (disch := (first | assumption | omega | (apply Inj.ne <;> first | assumption | omega) | fail)) only [nn_S, nm_D, ck_T, c2_S, on_N, on_S, lit, mNEG, nI_add, pk_mul, inb_nI, nI_clamp, wrI_row, wrL_row, rdR_rowI, rdR_rowL, rdI_def, rdL_def, rowI_same, rowI_ne, rowI_rowI, rowL_same, rowL_ne, rowL_1, rowI_21, upd_same, upd_ne, nI_le_T, nI_le_F, nI_lt_T, nI_lt_F, nI_eq_F, nI_NEG, NEG_lt0, nI_p, eq_self, if_true, if_false]
        rfl
      · obtain ⟨⟨u1, u2⟩, u3, u4, u5, u6, u7, u8, u9⟩ := hV0
        refine ⟨hP0.fr f1.1, ⟨⟨?_, ?_⟩, ?_, ?_, ?_, ?_, ?_, ⟨?_, fun k hk => ?_⟩, ?_⟩, markL_wf hW (by omega) c1⟩
        · rw [f1.I (by omega)]; exact u1
        · rw [f1.I (by omega)]; exact u2
        · exact CNum.fr (A := A) u3 f1 (by omega)
        · rw [f1.I (by omega)]; exact u4
        · rw [f1.L (by omega)]; exact u5
        · rw [f1.I (by omega)]; exact u6
        · exact CKy.fr (A := A) u7 f1 (by omega)
        · show g1.1 (ad (b + 2)) 3 = nI (lmk A + 1)
          simp (disch := (first | assumption | omega | (apply Inj.ne <;> first | assumption | omega) | fail)) only [nn_S, nm_D, ck_T, c2_S, on_N, on_S, lit, mNEG, nI_add, pk_mul, inb_nI, nI_clamp, wrI_row, wrL_row, rdR_rowI, rdR_rowL, rdI_def, rdL_def, rowI_same, rowI_ne, rowI_rowI, rowL_same, rowL_ne, rowL_1, rowI_21, upd_same, upd_ne, nI_le_T, nI_le_F, nI_lt_T, nI_lt_F, nI_eq_F, nI_NEG, NEG_lt0, nI_p, eq_self, if_true, if_false, g1]
        · have hk : k < lmk A + 1 := hk
          show g1.1 (ad (b + 11)) k = upd (mky A) (lmk A) key k ∧ g1.1 (ad (b + 12)) k = nI (va_up (msi A) (lmk A) (lsz A) k) ∧ g1.1 (ad (b + 13)) k = bI (va_up (mhi A) (lmk A) h k)
          simp (disch := (first | assumption | omega | (apply Inj.ne <;> first | assumption | omega) | fail)) only [nn_S, nm_D, ck_T, c2_S, on_N, on_S, lit, mNEG, nI_add, pk_mul, inb_nI, nI_clamp, wrI_row, wrL_row, rdR_rowI, rdR_rowL, rdI_def, rdL_def, rowI_same, rowI_ne, rowI_rowI, rowL_same, rowL_ne, rowL_1, rowI_21, upd_same, upd_ne, nI_le_T, nI_le_F, nI_lt_T, nI_lt_F, nI_eq_F, nI_NEG, NEG_lt0, nI_p, eq_self, if_true, if_false, g1]
          by_cases e : k = lmk A
          · subst e
            rw [upd_same, upd_same, upd_same, upd_same, va_same, va_same]
            exact ⟨rfl, rfl, rfl⟩
          · rw [upd_ne _ _ e, upd_ne _ _ e, upd_ne _ _ e, upd_ne _ _ e, va_ne _ _ e, va_ne _ _ e]
            exact hM0.2 k (by omega)
        · left
          rw [f1.I (by omega), ← hg0]
          simp (disch := (first | assumption | omega | (apply Inj.ne <;> first | assumption | omega) | fail)) only [nn_S, nm_D, ck_T, c2_S, on_N, on_S, lit, mNEG, nI_add, pk_mul, inb_nI, nI_clamp, wrI_row, wrL_row, rdR_rowI, rdR_rowL, rdI_def, rdL_def, rowI_same, rowI_ne, rowI_rowI, rowL_same, rowL_ne, rowL_1, rowI_21, upd_same, upd_ne, nI_le_T, nI_le_F, nI_lt_T, nI_lt_F, nI_eq_F, nI_NEG, NEG_lt0, nI_p, eq_self, if_true, if_false]
/-- how many of the first k marks hide, or lag -/
def hidC (A : ALog) (h : Bool) : Nat → Nat
  | 0 => 0
  | k + 1 => if mhi A k = h then hidC A h k + 1 else hidC A h k
theorem hidC_le (A : ALog) (h : Bool) : ∀ k, hidC A h k ≤ k
  | 0 => Nat.le_refl _
  | k + 1 => by
    have := hidC_le A h k
    unfold hidC
    by_cases c : mhi A k = h
    · rw [if_pos c]; omega
    · rw [if_neg c]; omega
theorem bI_eq (a b : Bool) : (bI a = bI b) = (a = b) := by cases a <;> cases b <;> decide
theorem c_howMany4 {N : Nat} {S : Hs} {g : Hg} {ad : Nat → Nat} {b : Nat} {A : ALog} (h : Bool) (hP : LgP S g ad b) (hM : CMark g ad b A) (hm : lmk A ≤ 100) : ∀ (f n k : Nat), k + f = lmk A → f < n →
    n_X5_howMany_4 N S n g (ad (b + 2)) (bI h) (nI (hidC A h k)) (nI k) = some (nI (hidC A h (lmk A)), g) := by
  have h3 := hM.1
  have l13 := hP.2.2.2.2.2.2.2.2.2
  intro f
  induction f with
  | zero =>
    intro n k h1 h2
    obtain ⟨n, rfl⟩ : ∃ z, n = z + 1 := ⟨n - 1, by omega⟩
    obtain rfl : k = lmk A := by omega
    show b_X5_howMany_4 N S (n_X5_howMany_4 N S n) g _ _ _ _ = _
    unfold b_X5_howMany_4
    simp (disch := (first | assumption | omega | (apply Inj.ne <;> first | assumption | omega) | fail)) only [nn_S, nm_D, ck_T, c2_S, on_N, on_S, lit, mNEG, nI_add, pk_mul, inb_nI, nI_clamp, wrI_row, wrL_row, rdR_rowI, rdR_rowL, rdI_def, rdL_def, rowI_same, rowI_ne, rowI_rowI, rowL_same, rowL_ne, rowL_1, rowI_21, upd_same, upd_ne, nI_le_T, nI_le_F, nI_lt_T, nI_lt_F, nI_eq_F, nI_NEG, NEG_lt0, nI_p, eq_self, if_true, if_false, h3]
  | succ f ih =>
    intro n k h1 h2
    obtain ⟨n, rfl⟩ : ∃ z, n = z + 1 := ⟨n - 1, by omega⟩
    have hk := (hM.2 k (by omega)).2.2
    have hi := ih n (k + 1) (by omega) (by omega)
    show b_X5_howMany_4 N S (n_X5_howMany_4 N S n) g _ _ _ _ = _
    unfold b_X5_howMany_4
    simp (disch := (first | assumption | omega | (apply Inj.ne <;> first | assumption | omega) | fail)) only [nn_S, nm_D, ck_T, c2_S, on_N, on_S, lit, mNEG, nI_add, pk_mul, inb_nI, nI_clamp, wrI_row, wrL_row, rdR_rowI, rdR_rowL, rdI_def, rdL_def, rowI_same, rowI_ne, rowI_rowI, rowL_same, rowL_ne, rowL_1, rowI_21, upd_same, upd_ne, nI_le_T, nI_le_F, nI_lt_T, nI_lt_F, nI_eq_F, nI_NEG, NEG_lt0, nI_p, eq_self, if_true, if_false, h3, hP.2.2.1.2.2, l13, hk, bI_eq]
    have e1 : hidC A h (k + 1) = if mhi A k = h then hidC A h k + 1 else hidC A h k := rfl
    rw [e1] at hi
    by_cases c : mhi A k = h
    · rw [if_pos c] at hi ⊢; exact hi
    · rw [if_neg c] at hi ⊢; exact hi
theorem c_howMany {N : Nat} (hN : 40000 ≤ N) {S : Hs} {g : Hg} {ad : Nat → Nat} {b : Nat} {A : ALog} (h : Bool) (hP : LgP S g ad b) (hM : CMark g ad b A) (hm : lmk A ≤ 100) : f_X5_howMany N S g (ad (b + 2)) (bI h) = some (nI (hidC A h (lmk A)), g) := c_howMany4 h hP hM hm (lmk A) N 0 (by omega) (by omega)
/-- how many of the first i entries have a fate -/
def ftC (A : ALog) (t : Nat) : Nat → Nat
  | 0 => 0
  | i + 1 => if lft A i = t then ftC A t i + 1 else ftC A t i
theorem ftC_le (A : ALog) (t : Nat) : ∀ k, ftC A t k ≤ k
  | 0 => Nat.le_refl _
  | k + 1 => by
    have := ftC_le A t k
    unfold ftC
    by_cases c : lft A k = t
    · rw [if_pos c]; omega
    · rw [if_neg c]; omega
theorem nI_eqP {a b : Nat} (ha : a < 2 ^ 31) (hb : b < 2 ^ 31) : (nI a = nI b) = (a = b) := propext (nI_eq ha hb)
theorem c_gone4 {N : Nat} {S : Hs} {g : Hg} {ad : Nat → Nat} {b : Nat} {A : ALog} (hC : CLO S g ad b A) : ∀ (f n i : Nat), i + f = lsz A → f < n →
    n_X3_goneEntries_4 N S n g (ad b) (nI (ftC A 2 i)) (nI i) = some (nI (ftC A 2 (lsz A)), g) := by
  have h7 := hC.2.1.1.2
  have hsz := hC.2.2.1
  have l4 := hC.1.2.2.2.1.2.1
  intro f
  induction f with
  | zero =>
    intro n k h1 h2
    obtain ⟨n, rfl⟩ : ∃ z, n = z + 1 := ⟨n - 1, by omega⟩
    obtain rfl : k = lsz A := by omega
    show b_X3_goneEntries_4 N S (n_X3_goneEntries_4 N S n) g _ _ _ = _
    unfold b_X3_goneEntries_4
    simp (disch := (first | assumption | omega | (apply Inj.ne <;> first | assumption | omega) | fail)) only [nn_S, nm_D, ck_T, c2_S, on_N, on_S, lit, mNEG, nI_add, pk_mul, inb_nI, nI_clamp, wrI_row, wrL_row, rdR_rowI, rdR_rowL, rdI_def, rdL_def, rowI_same, rowI_ne, rowI_rowI, rowL_same, rowL_ne, rowL_1, rowI_21, upd_same, upd_ne, nI_le_T, nI_le_F, nI_lt_T, nI_lt_F, nI_eq_F, nI_NEG, NEG_lt0, nI_p, eq_self, if_true, if_false, h7]
  | succ f ih =>
    intro n k h1 h2
    obtain ⟨n, rfl⟩ : ∃ z, n = z + 1 := ⟨n - 1, by omega⟩
    have hk := hC.2.1.2.2.1 k (by omega)
    have hf2 := hC.2.2.2.2.2.2.2 k
    have hi := ih n (k + 1) (by omega) (by omega)
    show b_X3_goneEntries_4 N S (n_X3_goneEntries_4 N S n) g _ _ _ = _
    unfold b_X3_goneEntries_4
    simp (disch := (first | assumption | omega | (apply Inj.ne <;> first | assumption | omega) | fail)) only [nn_S, nm_D, ck_T, c2_S, on_N, on_S, lit, mNEG, nI_add, pk_mul, inb_nI, nI_clamp, wrI_row, wrL_row, rdR_rowI, rdR_rowL, rdI_def, rdL_def, rowI_same, rowI_ne, rowI_rowI, rowL_same, rowL_ne, rowL_1, rowI_21, upd_same, upd_ne, nI_le_T, nI_le_F, nI_lt_T, nI_lt_F, nI_NEG, NEG_lt0, nI_p, eq_self, if_true, if_false, h7, hC.1.1.2.2.2.1, l4, hk, nI_eqP]
    have e1 : ftC A 2 (k + 1) = if lft A k = 2 then ftC A 2 k + 1 else ftC A 2 k := rfl
    rw [e1] at hi
    by_cases c : lft A k = 2
    · rw [if_pos c] at hi ⊢; exact hi
    · rw [if_neg c] at hi ⊢; exact hi
theorem c_goneEntries {N : Nat} (hN : 40000 ≤ N) {S : Hs} {g : Hg} {ad : Nat → Nat} {b : Nat} {A : ALog} (hC : CLO S g ad b A) : f_X3_goneEntries N S g (ad b) = some (nI (ftC A 2 (lsz A)), g) := c_gone4 hC (lsz A) N 0 (by omega) (by have := hC.2.2.1; omega)
/-- prune: the first n entries that are free go -/
def pruneL (A : ALog) (n : Nat) : ALog := (A.1, (lky A, lvl A, fun i => if i < n ∧ lft A i = 0 then 2 else lft A i), A.2.2)
theorem pruneL_wf {A : ALog} (hW : LogWf A) (n : Nat) : LogWf (pruneL A n) := by
  obtain ⟨w1, w2, w3, w4, w5, w6⟩ := hW
  refine ⟨w1, w2, w3, w4, w5, fun i => ?_⟩
  show (if i < n ∧ lft A i = 0 then 2 else lft A i) ≤ 2
  have := w6 i
  by_cases c : i < n ∧ lft A i = 0
  · rw [if_pos c]; omega
  · rw [if_neg c]; exact this
theorem pruneL_tree {A : ALog} {n m : Nat} : TREEA (pruneL A n) m = TREEA A m := by
  have h1 : ∀ z k, MW (pruneL A n) z k = MW A z k := by
    intro z k
    induction k with
    | zero => rfl
    | succ k ih => unfold MW; rw [ih]; rfl
  have h2 : ∀ i, CNT (pruneL A n) m i = CNT A m i := by
    intro i
    unfold CNT
    rw [show MW (pruneL A n) (lky (pruneL A n) i) (lmk (pruneL A n)) = MW A (lky A i) (lmk A) from h1 _ _]
    rfl
  have h3 : ∀ z i, LATF (pruneL A n) m z i = LATF A m z i := by
    intro z i
    induction i with
    | zero => rfl
    | succ i ih => unfold LATF; rw [ih, h2]; rfl
  have h4 : LAT (pruneL A n) m = LAT A m := by
    funext z
    exact h3 z m
  unfold TREEA KL
  rw [h4]
  rfl
theorem c_forget4 {N : Nat} {S : Hs} {ad : Nat → Nat} (hI : Inj ad) {b nn_ : Nat} {A : ALog} (hnn : nn_ ≤ lsz A) : ∀ (f n i : Nat) (g : Hg), i + f = nn_ → f < n → CLO S g ad b (pruneL A i) →
    ∃ g1, n_X3_forget_4 N S n g (ad b) (nI nn_) (nI (ftC A 0 i)) (nI i) = some (nI (ftC A 0 nn_), g1) ∧ Fr ad (fun r => r = b + 4 ∨ r = b + 5) g g1 ∧ CLO S g1 ad b (pruneL A nn_) := by
  intro f
  induction f with
  | zero =>
    intro n i g h1 h2 hC
    obtain ⟨n, rfl⟩ : ∃ z, n = z + 1 := ⟨n - 1, by omega⟩
    obtain rfl : i = nn_ := by omega
    have hsz : lsz A ≤ 400 := hC.2.2.1
    refine ⟨g, ?_, Fr.rf, hC⟩
    show b_X3_forget_4 N S (n_X3_forget_4 N S n) g _ _ _ _ = _
    unfold b_X3_forget_4
    simp (disch := (first | assumption | omega | (apply Inj.ne <;> first | assumption | omega) | fail)) only [nn_S, nm_D, ck_T, c2_S, on_N, on_S, lit, mNEG, nI_add, pk_mul, inb_nI, nI_clamp, wrI_row, wrL_row, rdR_rowI, rdR_rowL, rdI_def, rdL_def, rowI_same, rowI_ne, rowI_rowI, rowL_same, rowL_ne, rowL_1, rowI_21, upd_same, upd_ne, nI_le_T, nI_le_F, nI_lt_T, nI_lt_F, nI_eq_F, nI_NEG, NEG_lt0, nI_p, eq_self, if_true, if_false]
  | succ f ih =>
    intro n i g h1 h2 hC
    obtain ⟨n, rfl⟩ : ∃ z, n = z + 1 := ⟨n - 1, by omega⟩
    have hsz : lsz A ≤ 400 := hC.2.2.1
    have h7 : g.1 (ad b) 7 = nI (lsz A) := hC.2.1.1.2
    have hk : g.1 (ad (b + 4)) i = nI (lft A i) := by
      rw [hC.2.1.2.2.1 i (by show i < lsz A; omega)]
      show nI (if i < i ∧ lft A i = 0 then 2 else lft A i) = _
      rw [if_neg (by omega)]
    have hf2 : lft A i ≤ 2 := by
      have := hC.2.2.2.2.2.2.2 i
      have e : lft (pruneL A i) i = lft A i := by
        show (if i < i ∧ lft A i = 0 then 2 else lft A i) = _
        rw [if_neg (by omega)]
      omega
    have l4 := hC.1.2.2.2.1.2.1
    have l5 := hC.1.2.2.2.1.2.2.1
    by_cases c : lft A i = 0
    · rw [c] at hk
      let g0 : Hg := rowL (rowI g (ad (b + 4)) (upd (g.1 (ad (b + 4))) i (nI 2))) (ad (b + 5)) (fun k => if k = i then 0 else g.2.1 (ad (b + 5)) k)
      have f0 : Fr ad (fun r => r = b + 4 ∨ r = b + 5) g g0 := Fr.rt hI (Fr.rowL hI (Or.inr rfl)) (Or.inl rfl)
      obtain ⟨hP, ⟨v1, v3, v4, v5, v6, v7, v8, v9⟩, hW⟩ := id hC
      obtain ⟨g1, a1, a2, a3⟩ := ih n (i + 1) g0 (by omega) (by omega) (by
        refine ⟨hP.fr f0.1, ⟨?_, CNum.fr (A := pruneL A i) v3 f0 (by omega), fun j hj => ?_, fun j hj hl => ?_, ?_, CKy.fr (A := pruneL A i) v7 f0 (by omega), CMark.fr (A := pruneL A i) v8 f0 (by omega), ?_⟩, ?_⟩
        · rw [f0.I (by omega)]; exact v1
        · have hj : j < lsz A := hj
          show g0.1 (ad (b + 4)) j = nI (if j < i + 1 ∧ lft A j = 0 then 2 else lft A j)
          simp (disch := (first | assumption | omega | (apply Inj.ne <;> first | assumption | omega) | fail)) only [nn_S, nm_D, ck_T, c2_S, on_N, on_S, lit, mNEG, nI_add, pk_mul, inb_nI, nI_clamp, wrI_row, wrL_row, rdR_rowI, rdR_rowL, rdI_def, rdL_def, rowI_same, rowI_ne, rowI_rowI, rowL_same, rowL_ne, rowL_1, rowI_21, upd_same, upd_ne, nI_le_T, nI_le_F, nI_lt_T, nI_lt_F, nI_eq_F, nI_NEG, NEG_lt0, nI_p, eq_self, if_true, if_false, g0]
          by_cases e : j = i
          · subst e
            rw [upd_same, if_pos ⟨by omega, c⟩]
          · rw [upd_ne _ _ e, v4 j hj]
            show nI (if j < i ∧ lft A j = 0 then 2 else lft A j) = _
            congr 1
            by_cases d : j < i ∧ lft A j = 0
            · rw [if_pos d, if_pos ⟨by omega, d.2⟩]
            · rw [if_neg d, if_neg (by omega)]
        · have hj : j < lsz A := hj
          have hl : (if j < i + 1 ∧ lft A j = 0 then 2 else lft A j) ≠ 2 := hl
          have e : j ≠ i := by
            intro e
            subst e
            rw [if_pos ⟨by omega, c⟩] at hl
            exact hl rfl
          show g0.2.1 (ad (b + 5)) j = _
          simp (disch := (first | assumption | omega | (apply Inj.ne <;> first | assumption | omega) | fail)) only [nn_S, nm_D, ck_T, c2_S, on_N, on_S, lit, mNEG, nI_add, pk_mul, inb_nI, nI_clamp, wrI_row, wrL_row, rdR_rowI, rdR_rowL, rdI_def, rdL_def, rowI_same, rowI_ne, rowI_rowI, rowL_same, rowL_ne, rowL_1, rowI_21, upd_same, upd_ne, nI_le_T, nI_le_F, nI_lt_T, nI_lt_F, nI_eq_F, nI_NEG, NEG_lt0, nI_p, eq_self, if_true, if_false, g0]
          rw [if_neg e]
          refine v5 j hj ?_
          show (if j < i ∧ lft A j = 0 then 2 else lft A j) ≠ 2
          by_cases d : j < i ∧ lft A j = 0
          · rw [if_pos ⟨by omega, d.2⟩] at hl; exact absurd rfl hl
          · rw [if_neg (by omega)] at hl; rw [if_neg d]; exact hl
        · rw [f0.I (by omega)]; exact v6
        · rw [f0.I (by omega), f0.I (by omega)]
          rw [show (∃ n, n ≤ lsz (pruneL A (i + 1)) ∧ g.1 (ad b) 9 = nI n ∧ eq8 (g.1 (ad (b + 7))) (TREEA (pruneL A (i + 1)) n)) = (∃ n, n ≤ lsz (pruneL A i) ∧ g.1 (ad b) 9 = nI n ∧ eq8 (g.1 (ad (b + 7))) (TREEA (pruneL A i) n)) by simp only [pruneL_tree]; rfl]
          exact v9
        · obtain ⟨w1, w2, w3, w4, w5, w6⟩ := hW
          refine ⟨w1, w2, w3, w4, w5, fun j => ?_⟩
          show (if j < i + 1 ∧ lft A j = 0 then 2 else lft A j) ≤ 2
          have h6 : (if j < i ∧ lft A j = 0 then 2 else lft A j) ≤ 2 := w6 j
          by_cases d : j < i + 1 ∧ lft A j = 0
          · rw [if_pos d]; omega
          · rw [if_neg d]
            rw [if_neg (by omega)] at h6
            exact h6)
      refine ⟨g1, ?_, f0.tr a2, a3⟩
      have e1 : ftC A 0 (i + 1) = ftC A 0 i + 1 := by
        show (if lft A i = 0 then ftC A 0 i + 1 else ftC A 0 i) = _
        rw [if_pos c]
      rw [e1] at a1
      show b_X3_forget_4 N S (n_X3_forget_4 N S n) g _ _ _ _ = _
      unfold b_X3_forget_4
      simp (disch := (first | assumption | omega | (apply Inj.ne <;> first | assumption | omega) | fail)) only [nn_S, nm_D, ck_T, c2_S, on_N, on_S, lit, mNEG, nI_add, pk_mul, inb_nI, nI_clamp, wrI_row, wrL_row, rdR_rowI, rdR_rowL, rdI_def, rdL_def, rowI_same, rowI_ne, rowI_rowI, rowL_same, rowL_ne, rowL_1, rowI_21, upd_same, upd_ne, nI_le_T, nI_le_F, nI_lt_T, nI_lt_F, nI_eq_F, nI_NEG, NEG_lt0, nI_p, eq_self, if_true, if_false, h7, hC.1.1.2.2.2.1, hC.1.1.2.2.2.2.1, l4, l5, hk]
      exact a1
    · have e0 : pruneL A (i + 1) = pruneL A i := by
        unfold pruneL
        congr 3
        congr 1
        funext j
        by_cases d : j < i ∧ lft A j = 0
        · rw [if_pos d, if_pos ⟨by omega, d.2⟩]
        · rw [if_neg d, if_neg (fun h => by
            by_cases e : j = i
            · rw [e] at h; exact c h.2
            · exact d ⟨by omega, h.2⟩)]
      obtain ⟨g1, a1, a2, a3⟩ := ih n (i + 1) g (by omega) (by omega) (by rw [e0]; exact hC)
      refine ⟨g1, ?_, a2, a3⟩
      have e1 : ftC A 0 (i + 1) = ftC A 0 i := by
        show (if lft A i = 0 then ftC A 0 i + 1 else ftC A 0 i) = _
        rw [if_neg c]
      rw [e1] at a1
      show b_X3_forget_4 N S (n_X3_forget_4 N S n) g _ _ _ _ = _
      unfold b_X3_forget_4
      simp (disch := (first | assumption | omega | (apply Inj.ne <;> first | assumption | omega) | fail)) only [nn_S, nm_D, ck_T, c2_S, on_N, on_S, lit, mNEG, nI_add, pk_mul, inb_nI, nI_clamp, wrI_row, wrL_row, rdR_rowI, rdR_rowL, rdI_def, rdL_def, rowI_same, rowI_ne, rowI_rowI, rowL_same, rowL_ne, rowL_1, rowI_21, upd_same, upd_ne, nI_le_T, nI_le_F, nI_lt_T, nI_lt_F, nI_eq_F, nI_NEG, NEG_lt0, nI_p, eq_self, if_true, if_false, h7, hC.1.1.2.2.2.1, l4, hk]
      exact a1
theorem pruneL_0 (A : ALog) : pruneL A 0 = A := by
  obtain ⟨a1, ⟨a2, a3, a4⟩, a5⟩ := A
  unfold pruneL
  congr 2
theorem c_forget {N : Nat} (hN : 40000 ≤ N) {S : Hs} {g : Hg} {ad : Nat → Nat} (hI : Inj ad) {b n : Nat} {A : ALog} (hn : n ≤ lsz A) (hC : CLO S g ad b A) :
    ∃ g1, f_X3_forget N S g (ad b) (nI n) = some (nI (ftC A 0 n), g1) ∧ Fr ad (fun r => r = b + 4 ∨ r = b + 5) g g1 ∧ CLO S g1 ad b (pruneL A n) :=
  c_forget4 hI hn n N 0 g (by omega) (by have := hC.2.2.1; omega) (by rw [pruneL_0]; exact hC)
