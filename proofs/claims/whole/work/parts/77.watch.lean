theorem rowI_comm {g : Hg} {a b : Nat} {r q : Nat → Int32} (h : a ≠ b) : rowI (rowI g a r) b q = rowI (rowI g b q) a r := by
  unfold rowI
  congr 1
  funext c
  by_cases h1 : c = a
  · subst h1; simp [va_up, h]
  · by_cases h2 : c = b
    · subst h2; simp [va_up, h1]
    · simp [va_up, h1, h2]
/-! keep -/
def keepL (A : ALog) (i : Nat) : ALog := (A.1, (lky A, lvl A, va_up (lft A) i 1), A.2.2)
theorem keepL_tree {A : ALog} {i m : Nat} : TREEA (keepL A i) m = TREEA A m := by
  have h1 : ∀ z k, MW (keepL A i) z k = MW A z k := by
    intro z k
    induction k with
    | zero => rfl
    | succ k ih => unfold MW; rw [ih]; rfl
  have h2 : ∀ j, CNT (keepL A i) m j = CNT A m j := by
    intro j
    unfold CNT
    rw [show MW (keepL A i) (lky (keepL A i) j) (lmk (keepL A i)) = MW A (lky A j) (lmk A) from h1 _ _]
    rfl
  have h3 : ∀ z j, LATF (keepL A i) m z j = LATF A m z j := by
    intro z j
    induction j with
    | zero => rfl
    | succ j ih => unfold LATF; rw [ih, h2]; rfl
  have h4 : LAT (keepL A i) m = LAT A m := by
    funext z
    exact h3 z m
  unfold TREEA KL
  rw [h4]
  rfl
theorem keepL_clo {S : Hs} {g : Hg} {ad : Nat → Nat} (hI : Inj ad) {b i : Nat} {A : ALog} (hl : lft A i ≠ 2) (hC : CLO S g ad b A) : CLO S (rowI g (ad (b + 4)) (upd (g.1 (ad (b + 4))) i (nI 1))) ad b (keepL A i) := by
  obtain ⟨hP, ⟨v1, v3, v4, v5, v6, v7, v8, v9⟩, hW⟩ := hC
  have f0 : Fr ad (fun r => r = b + 4) g (rowI g (ad (b + 4)) (upd (g.1 (ad (b + 4))) i (nI 1))) := Fr.row hI rfl
  refine ⟨hP.fr rfl, ⟨?_, CNum.fr (A := A) v3 f0 (by omega), fun j hj => ?_, fun j hj hl2 => ?_, ?_, CKy.fr (A := A) v7 f0 (by omega), CMark.fr (A := A) v8 f0 (by omega), ?_⟩, ?_⟩
  · rw [f0.I (by omega)]; exact v1
  · rw [rowI_same]
    show _ = nI (va_up (lft A) i 1 j)
    by_cases e : j = i
    · rw [e, upd_same, va_same]
    · rw [upd_ne _ _ e, va_ne _ _ e]; exact v4 j hj
  · refine v5 j hj ?_
    have hl2 : va_up (lft A) i 1 j ≠ 2 := hl2
    by_cases e : j = i
    · rw [e]; exact hl
    · rw [va_ne _ _ e] at hl2; exact hl2
  · rw [f0.I (by omega)]; exact v6
  · rw [f0.I (by omega), f0.I (by omega)]
    simp only [keepL_tree]
    exact v9
  · obtain ⟨w1, w2, w3, w4, w5, w6⟩ := hW
    refine ⟨w1, w2, w3, w4, w5, fun j => ?_⟩
    show va_up (lft A) i 1 j ≤ 2
    by_cases e : j = i
    · rw [e, va_same]; omega
    · rw [va_ne _ _ e]; exact w6 j
/-! watchers: there, (log, low, high), (position, how many KEYS), (last read by KEY, KEYS as they came) -/
abbrev AWt : Type := Bool × (Int32 × Int32 × Int32) × (Nat × Nat) × ((Int32 → Int32) × (Nat → Int32))
def WtV (g : Hg) (ad : Nat → Nat) (b : Nat) (A : ALog) (W : AWt) : Prop := g.1 (ad b) 1 = bI W.1 ∧ (W.1 = true → (g.1 (ad b) 2 = W.2.1.1 ∧ g.1 (ad b) 5 = W.2.1.2.1 ∧ g.1 (ad b) 6 = W.2.1.2.2 ∧ g.1 (ad b) 3 = nI W.2.2.1.1 ∧ g.1 (ad b) 4 = nI W.2.2.1.2) ∧ ∀ q, q < 400 → g.1 (ad (b + 1)) q = if q < lks A then W.2.2.2.1 (lK A q) else NEG)
def WtO (S : Hs) (g : Hg) (ad : Nat → Nat) (b : Nat) (A : ALog) (W : AWt) : Prop := WtP S g ad b ∧ WtV g ad b A W
/-- what is so of a watcher at LOG A -/
def WtWf (A : ALog) (W : AWt) : Prop := W.2.2.1.1 ≤ lsz A ∧ (∀ k, k < W.2.2.1.2 → W.2.2.2.1 (W.2.2.2.2 k) ≠ NEG) ∧ (∀ i j, i < j → j < W.2.2.1.2 → W.2.2.2.2 i ≠ W.2.2.2.2 j) ∧ (∀ key, W.2.2.2.1 key ≠ NEG → ∃ k, k < W.2.2.1.2 ∧ W.2.2.2.2 k = key) ∧ (∀ key, W.2.2.2.1 key ≠ NEG → ∃ i, i < W.2.2.1.1 ∧ lky A i = key)
theorem WtV.eq {g g1 : Hg} {ad ad1 : Nat → Nat} {b : Nat} {A : ALog} {W : AWt} (h : WtV g ad b A W) (e1 : g1.1 (ad1 b) = g.1 (ad b)) (e2 : g1.1 (ad1 (b + 1)) = g.1 (ad (b + 1))) : WtV g1 ad1 b A W := by
  unfold WtV
  rw [e1, e2]
  exact h
theorem WtO.fr {R : Nat → Prop} {ad : Nat → Nat} {S : Hs} {g g1 : Hg} {b : Nat} {A : ALog} {W : AWt} (h : WtO S g ad b A W) (hf : Fr ad R g g1) (n : ∀ r, b ≤ r → r < b + 2 → ¬ R r) : WtO S g1 ad b A W := ⟨h.1.fr hf.1, h.2.eq (hf.I (n _ (by omega) (by omega))) (hf.I (n _ (by omega) (by omega)))⟩
theorem WtO.mv {R : Nat → Prop} {ad ad1 : Nat → Nat} {S S1 : Hs} {g g1 : Hg} {b : Nat} {A : ALog} {W : AWt} (h : WtO S g ad b A W) (hm : Mv R ad S g ad1 S1 g1) (n : ∀ r, b ≤ r → r < b + 2 → ¬ R r) : WtO S1 g1 ad1 b A W := ⟨h.1.mv hm n, h.2.eq (hm.I (n _ (by omega) (by omega))) (hm.I (n _ (by omega) (by omega)))⟩
def newW (log low high : Int32) : AWt := (true, (log, low, high), (0, 0), (fun _ => NEG, fun _ => 0))
theorem newW_wf (A : ALog) (log low high : Int32) : WtWf A (newW log low high) := ⟨Nat.zero_le _, fun k hk => absurd hk (by show ¬ k < 0; omega), fun i j hij hj => absurd hj (by show ¬ j < 0; omega), fun key h => absurd rfl h, fun key h => absurd rfl h⟩
theorem j_fillA5 (N : Nat) (S : Hs) (a : Nat) (v : Int32) (hl : hpL S a < 2 ^ 31) : ∀ (i n : Nat) (g : Hg), i ≤ hpL S a → i < n → n_J7_fill_53178_5 N S n g a v (nI (hpL S a - i)) (nI (hpL S a)) = some ((), rowI g a (fillR (g.1 a) (hpL S a - i) (hpL S a) v)) := by
  intro i
  induction i with
  | zero =>
    intro n g h1 h2
    obtain ⟨n, rfl⟩ : ∃ z, n = z + 1 := ⟨n - 1, by omega⟩
    have e : fillR (g.1 a) (hpL S a - 0) (hpL S a) v = g.1 a := by
      funext j
      unfold fillR
      rw [if_neg (by omega)]
    rw [e, rowI_self]
    show b_J7_fill_53178_5 N S (n_J7_fill_53178_5 N S n) g _ _ _ _ = _
    unfold b_J7_fill_53178_5
    simp (disch := (first | assumption | omega | (apply Inj.ne <;> first | assumption | omega) | fail)) only [nn_S, nm_D, ck_T, c2_S, on_N, on_S, lit, mNEG, nI_add, pk_mul, inb_nI, nI_clamp, wrI_row, wrL_row, rdR_rowI, rdR_rowL, rdI_def, rdL_def, rowI_same, rowI_ne, rowI_rowI, rowL_same, rowL_ne, rowL_1, rowI_21, upd_same, upd_ne, nI_le_T, nI_le_F, nI_lt_T, nI_lt_F, nI_eq_F, nI_NEG, NEG_lt0, nI_p, eq_self, if_true, if_false]
  | succ i ih =>
    intro n g h1 h2
    obtain ⟨n, rfl⟩ : ∃ z, n = z + 1 := ⟨n - 1, by omega⟩
    show b_J7_fill_53178_5 N S (n_J7_fill_53178_5 N S n) g _ _ _ _ = _
    unfold b_J7_fill_53178_5
    have e : hpL S a - (i + 1) + 1 = hpL S a - i := by omega
    simp (disch := (first | assumption | omega | (apply Inj.ne <;> first | assumption | omega) | fail)) only [nn_S, nm_D, ck_T, c2_S, on_N, on_S, lit, mNEG, nI_add, pk_mul, inb_nI, nI_clamp, wrI_row, wrL_row, rdR_rowI, rdR_rowL, rdI_def, rdL_def, rowI_same, rowI_ne, rowI_rowI, rowL_same, rowL_ne, rowL_1, rowI_21, upd_same, upd_ne, nI_le_T, nI_le_F, nI_lt_T, nI_lt_F, nI_eq_F, nI_NEG, NEG_lt0, nI_p, eq_self, if_true, if_false, e]
    rw [ih n _ (by omega) (by omega), rowI_rowI, rowI_same]
    congr 3
    funext j
    unfold fillR
    by_cases c : j = hpL S a - (i + 1)
    · rw [if_neg (by omega), if_pos (by omega), c, upd_same]
    · by_cases d : hpL S a - i ≤ j ∧ j < hpL S a
      · rw [if_pos d, if_pos (by omega)]
      · rw [if_neg d, if_neg (by omega), upd_ne _ _ c]
theorem c_wBegin {N : Nat} (hN : 40000 ≤ N) {S : Hs} {g : Hg} {ad : Nat → Nat} (hI : Inj ad) {b : Nat} (A : ALog) (log low high : Int32) (hP : WtP S g ad b) : ∃ g1, f_X10_begin N S g (ad b) log low high = some ((), g1) ∧ Fr ad (fun r => r = b ∨ r = b + 1) g g1 ∧ WtO S g1 ad b A (newW log low high) := by
  let g0 : Hg := rowI g (ad b) (upd (upd (upd (upd (upd (upd (g.1 (ad b)) 1 (nI 1)) 2 log) 5 low) 6 high) 3 (nI 0)) 4 (nI 0))
  have hl := hP.2
  refine ⟨rowI g0 (ad (b + 1)) (fillR (g.1 (ad (b + 1))) 0 400 NEG), ?_, Fr.rt hI (Fr.row hI (Or.inr rfl)) (Or.inl rfl), hP.fr rfl, ?_, fun _ => ⟨⟨?_, ?_, ?_, ?_, ?_⟩, fun q hq => ?_⟩⟩
  · have hf : f_J7_fill_53178 N S g0 (ad (b + 1)) NEG = some ((), rowI g0 (ad (b + 1)) (fillR (g.1 (ad (b + 1))) 0 400 NEG)) := by
      have := j_fillA5 N S (ad (b + 1)) NEG (by omega) (hpL S (ad (b + 1))) N g0 (Nat.le_refl _) (by omega)
      rw [Nat.sub_self, hl] at this
      show b_J7_fill_53178_0 N S g0 (ad (b + 1)) NEG = _
      unfold b_J7_fill_53178_0
      rw [nm_D, hl]
      rw [show g0.1 (ad (b + 1)) = g.1 (ad (b + 1)) from rowI_ne _ _ (hI.ne (by omega))] at this
      exact this
    show b_X10_begin_0 N S g (ad b) log low high = _
    unfold b_X10_begin_0
    simp (disch := (first | assumption | omega | (apply Inj.ne <;> first | assumption | omega) | fail)) only [nn_S, nm_D, ck_T, c2_S, on_N, on_S, lit, mNEG, nI_add, pk_mul, inb_nI, nI_clamp, wrI_row, wrL_row, rdR_rowI, rdR_rowL, rdI_def, rdL_def, rowI_same, rowI_ne, rowI_rowI, rowL_same, rowL_ne, rowL_1, rowI_21, upd_same, upd_ne, nI_le_T, nI_le_F, nI_lt_T, nI_lt_F, nI_eq_F, nI_NEG, NEG_lt0, nI_p, eq_self, if_true, if_false, hP.1]
    rw [show rowI g (ad b) (upd (upd (upd (upd (upd (upd (g.1 (ad b)) 1 (nI 1)) 2 log) 5 low) 6 high) 3 (nI 0)) 4 (nI 0)) = g0 from rfl, hf, c2_S]
  · rw [rowI_ne _ _ (hI.ne (by omega))]
    simp (disch := (first | assumption | omega | (apply Inj.ne <;> first | assumption | omega) | fail)) only [nn_S, nm_D, ck_T, c2_S, on_N, on_S, lit, mNEG, nI_add, pk_mul, inb_nI, nI_clamp, wrI_row, wrL_row, rdR_rowI, rdR_rowL, rdI_def, rdL_def, rowI_same, rowI_ne, rowI_rowI, rowL_same, rowL_ne, rowL_1, rowI_21, upd_same, upd_ne, nI_le_T, nI_le_F, nI_lt_T, nI_lt_F, nI_eq_F, nI_NEG, NEG_lt0, nI_p, eq_self, if_true, if_false, g0]
    rfl
  · rw [rowI_ne _ _ (hI.ne (by omega))]
    simp (disch := (first | assumption | omega | (apply Inj.ne <;> first | assumption | omega) | fail)) only [nn_S, nm_D, ck_T, c2_S, on_N, on_S, lit, mNEG, nI_add, pk_mul, inb_nI, nI_clamp, wrI_row, wrL_row, rdR_rowI, rdR_rowL, rdI_def, rdL_def, rowI_same, rowI_ne, rowI_rowI, rowL_same, rowL_ne, rowL_1, rowI_21, upd_same, upd_ne, nI_le_T, nI_le_F, nI_lt_T, nI_lt_F, nI_eq_F, nI_NEG, NEG_lt0, nI_p, eq_self, if_true, if_false, g0]
    rfl
  · rw [rowI_ne _ _ (hI.ne (by omega))]
    simp (disch := (first | assumption | omega | (apply Inj.ne <;> first | assumption | omega) | fail)) only [nn_S, nm_D, ck_T, c2_S, on_N, on_S, lit, mNEG, nI_add, pk_mul, inb_nI, nI_clamp, wrI_row, wrL_row, rdR_rowI, rdR_rowL, rdI_def, rdL_def, rowI_same, rowI_ne, rowI_rowI, rowL_same, rowL_ne, rowL_1, rowI_21, upd_same, upd_ne, nI_le_T, nI_le_F, nI_lt_T, nI_lt_F, nI_eq_F, nI_NEG, NEG_lt0, nI_p, eq_self, if_true, if_false, g0]
    rfl
  · rw [rowI_ne _ _ (hI.ne (by omega))]
    simp (disch := (first | assumption | omega | (apply Inj.ne <;> first | assumption | omega) | fail)) only [nn_S, nm_D, ck_T, c2_S, on_N, on_S, lit, mNEG, nI_add, pk_mul, inb_nI, nI_clamp, wrI_row, wrL_row, rdR_rowI, rdR_rowL, rdI_def, rdL_def, rowI_same, rowI_ne, rowI_rowI, rowL_same, rowL_ne, rowL_1, rowI_21, upd_same, upd_ne, nI_le_T, nI_le_F, nI_lt_T, nI_lt_F, nI_eq_F, nI_NEG, NEG_lt0, nI_p, eq_self, if_true, if_false, g0]
    rfl
  · rw [rowI_ne _ _ (hI.ne (by omega))]
    simp (disch := (first | assumption | omega | (apply Inj.ne <;> first | assumption | omega) | fail)) only [nn_S, nm_D, ck_T, c2_S, on_N, on_S, lit, mNEG, nI_add, pk_mul, inb_nI, nI_clamp, wrI_row, wrL_row, rdR_rowI, rdR_rowL, rdI_def, rdL_def, rowI_same, rowI_ne, rowI_rowI, rowL_same, rowL_ne, rowL_1, rowI_21, upd_same, upd_ne, nI_le_T, nI_le_F, nI_lt_T, nI_lt_F, nI_eq_F, nI_NEG, NEG_lt0, nI_p, eq_self, if_true, if_false, g0]
    rfl
  · rw [rowI_ne _ _ (hI.ne (by omega))]
    simp (disch := (first | assumption | omega | (apply Inj.ne <;> first | assumption | omega) | fail)) only [nn_S, nm_D, ck_T, c2_S, on_N, on_S, lit, mNEG, nI_add, pk_mul, inb_nI, nI_clamp, wrI_row, wrL_row, rdR_rowI, rdR_rowL, rdI_def, rdL_def, rowI_same, rowI_ne, rowI_rowI, rowL_same, rowL_ne, rowL_1, rowI_21, upd_same, upd_ne, nI_le_T, nI_le_F, nI_lt_T, nI_lt_F, nI_eq_F, nI_NEG, NEG_lt0, nI_p, eq_self, if_true, if_false, g0]
    rfl
  · rw [rowI_same]
    unfold fillR
    rw [if_pos (by omega)]
    by_cases c : q < lks A
    · rw [if_pos c]; rfl
    · rw [if_neg c]
theorem c_wCopy {N : Nat} {S : Hs} {g : Hg} {ad : Nat → Nat} (hI : Inj ad) {b c : Nat} {A : ALog} {W : AWt} (hbc : b + 2 ≤ c ∨ c + 2 ≤ b) (hP : WtP S g ad b) (hO : WtO S g ad c A W) : ∃ g1, f_X10_copy N S g (ad b) (ad c) = some ((), g1) ∧ Fr ad (fun r => r = b ∨ r = b + 1) g g1 ∧ WtO S g1 ad b A W := by
  obtain ⟨hQ, v1, v2⟩ := hO
  have l1 := hP.2
  have l2 := hQ.2
  let g0 : Hg := rowI g (ad b) (upd (upd (upd (upd (upd (upd (g.1 (ad b)) 1 (bI W.1)) 2 (g.1 (ad c) 2)) 5 (g.1 (ad c) 5)) 6 (g.1 (ad c) 6)) 3 (g.1 (ad c) 3)) 4 (g.1 (ad c) 4))
  refine ⟨rowI g0 (ad (b + 1)) (va_cpy (g.1 (ad (c + 1))) (g.1 (ad (b + 1))) 0 0 400), ?_, Fr.rt hI (Fr.row hI (Or.inr rfl)) (Or.inl rfl), hP.fr rfl, ?_, fun hw => ⟨⟨?_, ?_, ?_, ?_, ?_⟩, fun q hq => ?_⟩⟩
  · show b_X10_copy_0 N S g (ad b) (ad c) = _
    unfold b_X10_copy_0
    simp (disch := (first | assumption | omega | (apply Inj.ne <;> first | assumption | omega) | fail)) only [nn_S, nm_D, ck_T, c2_S, on_N, on_S, lit, mNEG, nI_add, pk_mul, inb_nI, nI_clamp, wrI_row, wrL_row, rdR_rowI, rdR_rowL, rdI_def, rdL_def, rowI_same, rowI_ne, rowI_rowI, rowL_same, rowL_ne, rowL_1, rowI_21, upd_same, upd_ne, nI_le_T, nI_le_F, nI_lt_T, nI_lt_F, nI_eq_F, nI_NEG, NEG_lt0, nI_p, eq_self, if_true, if_false, hP.1, hQ.1, v1, zb_bI, l1, l2, cpok_nI, cpI_row]
    rfl
  · rw [rowI_ne _ _ (hI.ne (by omega))]
    simp (disch := (first | assumption | omega | (apply Inj.ne <;> first | assumption | omega) | fail)) only [nn_S, nm_D, ck_T, c2_S, on_N, on_S, lit, mNEG, nI_add, pk_mul, inb_nI, nI_clamp, wrI_row, wrL_row, rdR_rowI, rdR_rowL, rdI_def, rdL_def, rowI_same, rowI_ne, rowI_rowI, rowL_same, rowL_ne, rowL_1, rowI_21, upd_same, upd_ne, nI_le_T, nI_le_F, nI_lt_T, nI_lt_F, nI_eq_F, nI_NEG, NEG_lt0, nI_p, eq_self, if_true, if_false, g0]
  · rw [rowI_ne _ _ (hI.ne (by omega))]
    simp (disch := (first | assumption | omega | (apply Inj.ne <;> first | assumption | omega) | fail)) only [nn_S, nm_D, ck_T, c2_S, on_N, on_S, lit, mNEG, nI_add, pk_mul, inb_nI, nI_clamp, wrI_row, wrL_row, rdR_rowI, rdR_rowL, rdI_def, rdL_def, rowI_same, rowI_ne, rowI_rowI, rowL_same, rowL_ne, rowL_1, rowI_21, upd_same, upd_ne, nI_le_T, nI_le_F, nI_lt_T, nI_lt_F, nI_eq_F, nI_NEG, NEG_lt0, nI_p, eq_self, if_true, if_false, g0]
    exact (v2 hw).1.1
  · rw [rowI_ne _ _ (hI.ne (by omega))]
    simp (disch := (first | assumption | omega | (apply Inj.ne <;> first | assumption | omega) | fail)) only [nn_S, nm_D, ck_T, c2_S, on_N, on_S, lit, mNEG, nI_add, pk_mul, inb_nI, nI_clamp, wrI_row, wrL_row, rdR_rowI, rdR_rowL, rdI_def, rdL_def, rowI_same, rowI_ne, rowI_rowI, rowL_same, rowL_ne, rowL_1, rowI_21, upd_same, upd_ne, nI_le_T, nI_le_F, nI_lt_T, nI_lt_F, nI_eq_F, nI_NEG, NEG_lt0, nI_p, eq_self, if_true, if_false, g0]
    exact (v2 hw).1.2.1
  · rw [rowI_ne _ _ (hI.ne (by omega))]
    simp (disch := (first | assumption | omega | (apply Inj.ne <;> first | assumption | omega) | fail)) only [nn_S, nm_D, ck_T, c2_S, on_N, on_S, lit, mNEG, nI_add, pk_mul, inb_nI, nI_clamp, wrI_row, wrL_row, rdR_rowI, rdR_rowL, rdI_def, rdL_def, rowI_same, rowI_ne, rowI_rowI, rowL_same, rowL_ne, rowL_1, rowI_21, upd_same, upd_ne, nI_le_T, nI_le_F, nI_lt_T, nI_lt_F, nI_eq_F, nI_NEG, NEG_lt0, nI_p, eq_self, if_true, if_false, g0]
    exact (v2 hw).1.2.2.1
  · rw [rowI_ne _ _ (hI.ne (by omega))]
    simp (disch := (first | assumption | omega | (apply Inj.ne <;> first | assumption | omega) | fail)) only [nn_S, nm_D, ck_T, c2_S, on_N, on_S, lit, mNEG, nI_add, pk_mul, inb_nI, nI_clamp, wrI_row, wrL_row, rdR_rowI, rdR_rowL, rdI_def, rdL_def, rowI_same, rowI_ne, rowI_rowI, rowL_same, rowL_ne, rowL_1, rowI_21, upd_same, upd_ne, nI_le_T, nI_le_F, nI_lt_T, nI_lt_F, nI_eq_F, nI_NEG, NEG_lt0, nI_p, eq_self, if_true, if_false, g0]
    exact (v2 hw).1.2.2.2.1
  · rw [rowI_ne _ _ (hI.ne (by omega))]
    simp (disch := (first | assumption | omega | (apply Inj.ne <;> first | assumption | omega) | fail)) only [nn_S, nm_D, ck_T, c2_S, on_N, on_S, lit, mNEG, nI_add, pk_mul, inb_nI, nI_clamp, wrI_row, wrL_row, rdR_rowI, rdR_rowL, rdI_def, rdL_def, rowI_same, rowI_ne, rowI_rowI, rowL_same, rowL_ne, rowL_1, rowI_21, upd_same, upd_ne, nI_le_T, nI_le_F, nI_lt_T, nI_lt_F, nI_eq_F, nI_NEG, NEG_lt0, nI_p, eq_self, if_true, if_false, g0]
    exact (v2 hw).1.2.2.2.2
  · rw [rowI_same, pk_cpy_in (by omega) (by omega), show 0 + (q - 0) = q by omega]
    exact (v2 hw).2 q hq
/-- a watcher takes note of entry i -/
def notW (A : ALog) (i : Nat) (W : AWt) : AWt := (W.1, W.2.1, (W.2.2.1.1, if W.2.2.2.1 (lky A i) = NEG then W.2.2.1.2 + 1 else W.2.2.1.2), (fun z => if z = lky A i then nI i else W.2.2.2.1 z, if W.2.2.2.1 (lky A i) = NEG then upd W.2.2.2.2 W.2.2.1.2 (lky A i) else W.2.2.2.2))
/-- and reads on by one entry -/
def rd1W (A : ALog) (W : AWt) : AWt :=
  let V := if lft A W.2.2.1.1 ≠ 2 ∧ ¬ lky A W.2.2.1.1 < W.2.1.2.1 ∧ ¬ W.2.1.2.2 < lky A W.2.2.1.1 then notW A W.2.2.1.1 W else W
  (V.1, V.2.1, (V.2.2.1.1 + 1, V.2.2.1.2), V.2.2.2)
def rdW (A : ALog) : Nat → AWt → AWt
  | 0, W => W
  | f + 1, W => rdW A f (rd1W A W)
theorem notW_pos (A : ALog) (i : Nat) (W : AWt) : (notW A i W).1 = W.1 ∧ (notW A i W).2.1 = W.2.1 ∧ (notW A i W).2.2.1.1 = W.2.2.1.1 := ⟨rfl, rfl, rfl⟩
theorem rd1W_pos (A : ALog) (W : AWt) : (rd1W A W).1 = W.1 ∧ (rd1W A W).2.1 = W.2.1 ∧ (rd1W A W).2.2.1.1 = W.2.2.1.1 + 1 := by
  unfold rd1W
  by_cases c : lft A W.2.2.1.1 ≠ 2 ∧ ¬ lky A W.2.2.1.1 < W.2.1.2.1 ∧ ¬ W.2.1.2.2 < lky A W.2.2.1.1
  · rw [if_pos c]; exact ⟨rfl, rfl, rfl⟩
  · rw [if_neg c]; exact ⟨rfl, rfl, rfl⟩
theorem rdW_pos (A : ALog) : ∀ (f : Nat) (W : AWt), (rdW A f W).1 = W.1 ∧ (rdW A f W).2.1 = W.2.1 ∧ (rdW A f W).2.2.1.1 = W.2.2.1.1 + f
  | 0, W => ⟨rfl, rfl, rfl⟩
  | f + 1, W => by
    obtain ⟨a1, a2, a3⟩ := rdW_pos A f (rd1W A W)
    obtain ⟨b1, b2, b3⟩ := rd1W_pos A W
    exact ⟨a1.trans b1, a2.trans b2, by show (rdW A f (rd1W A W)).2.2.1.1 = _; rw [a3, b3]; omega⟩
theorem rd1W_wf {A : ALog} {W : AWt} (h : WtWf A W) (hp : W.2.2.1.1 < lsz A) (hsz : lsz A ≤ 400) : WtWf A (rd1W A W) := by
  obtain ⟨w1, w2, w3, w4, w5⟩ := h
  unfold rd1W
  by_cases c : lft A W.2.2.1.1 ≠ 2 ∧ ¬ lky A W.2.2.1.1 < W.2.1.2.1 ∧ ¬ W.2.1.2.2 < lky A W.2.2.1.1
  · rw [if_pos c]
    generalize hi : W.2.2.1.1 = i at *
    have ni : nI i ≠ NEG := by rw [ne_eq, nI_NEG (by omega)]; exact id
    by_cases d : W.2.2.2.1 (lky A i) = NEG
    · unfold notW
      simp only [if_pos d]
      have hw : ∀ k, k < W.2.2.1.2 → W.2.2.2.2 k ≠ lky A i := fun k hk e => w2 k hk (by rw [e]; exact d)
      refine ⟨by show W.2.2.1.1 + 1 ≤ _; omega, fun k hk => ?_, fun x y hxy hy => ?_, fun key hk => ?_, fun key hk => ?_⟩
      · have hk : k < W.2.2.1.2 + 1 := hk
        show (if upd W.2.2.2.2 W.2.2.1.2 (lky A i) k = lky A i then nI i else W.2.2.2.1 (upd W.2.2.2.2 W.2.2.1.2 (lky A i) k)) ≠ NEG
        by_cases e : k = W.2.2.1.2
        · rw [e, upd_same, if_pos rfl]; exact ni
        · rw [upd_ne _ _ e]
          rw [if_neg (hw k (by omega))]
          exact w2 k (by omega)
      · have hy : y < W.2.2.1.2 + 1 := hy
        show upd W.2.2.2.2 W.2.2.1.2 (lky A i) x ≠ upd W.2.2.2.2 W.2.2.1.2 (lky A i) y
        rw [upd_ne _ _ (by omega)]
        by_cases e : y = W.2.2.1.2
        · rw [e, upd_same]; exact hw x (by omega)
        · rw [upd_ne _ _ e]; exact w3 x y hxy (by omega)
      · have hk : (if key = lky A i then nI i else W.2.2.2.1 key) ≠ NEG := hk
        show ∃ k, k < W.2.2.1.2 + 1 ∧ upd W.2.2.2.2 W.2.2.1.2 (lky A i) k = key
        by_cases e : key = lky A i
        · exact ⟨W.2.2.1.2, by omega, by rw [upd_same, e]⟩
        · rw [if_neg e] at hk
          obtain ⟨k, k1, k2⟩ := w4 key hk
          exact ⟨k, by omega, by rw [upd_ne _ _ (by omega)]; exact k2⟩
      · have hk : (if key = lky A i then nI i else W.2.2.2.1 key) ≠ NEG := hk
        show ∃ j, j < W.2.2.1.1 + 1 ∧ lky A j = key
        by_cases e : key = lky A i
        · exact ⟨i, by omega, e.symm⟩
        · rw [if_neg e] at hk
          obtain ⟨j, j1, j2⟩ := w5 key hk
          exact ⟨j, by omega, j2⟩
    · unfold notW
      simp only [if_neg d]
      refine ⟨by show W.2.2.1.1 + 1 ≤ _; omega, fun k hk => ?_, w3, fun key hk => ?_, fun key hk => ?_⟩
      · show (if W.2.2.2.2 k = lky A i then nI i else W.2.2.2.1 (W.2.2.2.2 k)) ≠ NEG
        by_cases e : W.2.2.2.2 k = lky A i
        · rw [if_pos e]; exact ni
        · rw [if_neg e]; exact w2 k hk
      · have hk : (if key = lky A i then nI i else W.2.2.2.1 key) ≠ NEG := hk
        by_cases e : key = lky A i
        · rw [e]; exact w4 _ d
        · rw [if_neg e] at hk; exact w4 key hk
      · have hk : (if key = lky A i then nI i else W.2.2.2.1 key) ≠ NEG := hk
        show ∃ j, j < W.2.2.1.1 + 1 ∧ lky A j = key
        by_cases e : key = lky A i
        · exact ⟨i, by omega, e.symm⟩
        · rw [if_neg e] at hk
          obtain ⟨j, j1, j2⟩ := w5 key hk
          exact ⟨j, by omega, j2⟩
  · rw [if_neg c]
    refine ⟨by show W.2.2.1.1 + 1 ≤ _; omega, w2, w3, w4, fun key hk => ?_⟩
    obtain ⟨j, j1, j2⟩ := w5 key hk
    exact ⟨j, by show j < W.2.2.1.1 + 1; omega, j2⟩
theorem WtWf.cnt {A : ALog} {W : AWt} (h : WtWf A W) : W.2.2.1.2 ≤ W.2.2.1.1 := by
  obtain ⟨w1, w2, w3, w4, w5⟩ := h
  have hex : ∀ k, ∃ i, k < W.2.2.1.2 → i < W.2.2.1.1 ∧ lky A i = W.2.2.2.2 k := fun k => by
    by_cases c : k < W.2.2.1.2
    · obtain ⟨i, i1, i2⟩ := w5 _ (w2 k c)
      exact ⟨i, fun _ => ⟨i1, i2⟩⟩
    · exact ⟨0, fun h => absurd h c⟩
  obtain ⟨f, hf⟩ := Classical.axiomOfChoice hex
  refine php_le (f := f) (fun i hi => (hf i hi).1) (fun i j hij hj e => ?_)
  have h1 := (hf i (by omega)).2
  have h2 := (hf j hj).2
  rw [e, h2] at h1
  exact w3 i j hij hj h1.symm
theorem c_readOn0 {N : Nat} {S : Hs} {ad : Nat → Nat} (hI : Inj ad) {b c : Nat} {A : ALog} (hbc : b + 2 ≤ c ∨ c + 14 ≤ b) : ∀ (f n : Nat) (g : Hg) (W : AWt), W.2.2.1.1 + f = lsz A → f < n → W.1 = true → WtWf A W → CLO S g ad c A → WtO S g ad b A W →
    ∃ g1, n_X10_readOn_0 N S n g (ad b) (ad c) = some ((), g1) ∧ Fr ad (fun r => r = b ∨ r = b + 1) g g1 ∧ WtO S g1 ad b A (rdW A f W) ∧ WtWf A (rdW A f W) := by
  intro f
  induction f with
  | zero =>
    intro n g W h1 h2 hw hF hC hO
    obtain ⟨n, rfl⟩ : ∃ z, n = z + 1 := ⟨n - 1, by omega⟩
    have h7 := hC.2.1.1.2
    have hsz := hC.2.2.1
    have h3 := (hO.2.2 hw).1.2.2.2.1
    refine ⟨g, ?_, Fr.rf, hO, hF⟩
    show b_X10_readOn_0 N S (n_X10_readOn_0 N S n) g _ _ = _
    unfold b_X10_readOn_0
    simp (disch := (first | assumption | omega | (apply Inj.ne <;> first | assumption | omega) | fail)) only [nn_S, nm_D, ck_T, c2_S, on_N, on_S, lit, mNEG, nI_add, pk_mul, inb_nI, nI_clamp, wrI_row, wrL_row, rdR_rowI, rdR_rowL, rdI_def, rdL_def, rowI_same, rowI_ne, rowI_rowI, rowL_same, rowL_ne, rowL_1, rowI_21, upd_same, upd_ne, nI_le_T, nI_le_F, nI_lt_T, nI_lt_F, nI_eq_F, nI_NEG, NEG_lt0, nI_p, eq_self, if_true, if_false, h7, h3]
  | succ f ih =>
    intro n g W h1 h2 hw hF hC hO
    obtain ⟨n, rfl⟩ : ∃ z, n = z + 1 := ⟨n - 1, by omega⟩
    have h7 := hC.2.1.1.2
    have hsz := hC.2.2.1
    obtain ⟨hP, hV1, hV2⟩ := id hO
    obtain ⟨⟨u2, u5, u6, u3, u4⟩, ul⟩ := hV2 hw
    have hcnt := hF.cnt
    have hlt : W.2.2.1.1 < lsz A := by omega
    have hF1 := rd1W_wf hF hlt hsz
    obtain ⟨z1, z2, z3⟩ := rd1W_pos A W
    have hnu := (hC.2.2.2.2.2.2.1.2.1 W.2.2.1.1 hlt)
    have hnr := hC.2.1.2.1 W.2.2.1.1 hlt
    have hks : lks A ≤ 400 := hC.2.2.2.2.2.2.1.1.1
    have l3 := hC.1.2.2.2.1.1
    have lr := hP.2
    -- one entry read
    have hone : ∃ g0, n_X10_readOn_0 N S (n + 1) g (ad b) (ad c) = n_X10_readOn_0 N S n g0 (ad b) (ad c) ∧ Fr ad (fun r => r = b ∨ r = b + 1) g g0 ∧ WtO S g0 ad b A (rd1W A W) := by
      have skip : ∀ (hrd : rd1W A W = (W.1, W.2.1, (W.2.2.1.1 + 1, W.2.2.1.2), W.2.2.2)), Fr ad (fun r => r = b ∨ r = b + 1) g (rowI g (ad b) (upd (g.1 (ad b)) 3 (nI (W.2.2.1.1 + 1)))) ∧ WtO S (rowI g (ad b) (upd (g.1 (ad b)) 3 (nI (W.2.2.1.1 + 1)))) ad b A (rd1W A W) := by
        intro hrd
        rw [hrd]
        refine ⟨Fr.row hI (Or.inl rfl), hP.fr rfl, ?_, fun _ => ⟨⟨?_, ?_, ?_, ?_, ?_⟩, ?_⟩⟩
        · simp (disch := (first | assumption | omega | (apply Inj.ne <;> first | assumption | omega) | fail)) only [nn_S, nm_D, ck_T, c2_S, on_N, on_S, lit, mNEG, nI_add, pk_mul, inb_nI, nI_clamp, wrI_row, wrL_row, rdR_rowI, rdR_rowL, rdI_def, rdL_def, rowI_same, rowI_ne, rowI_rowI, rowL_same, rowL_ne, rowL_1, rowI_21, upd_same, upd_ne, nI_le_T, nI_le_F, nI_lt_T, nI_lt_F, nI_eq_F, nI_NEG, NEG_lt0, nI_p, eq_self, if_true, if_false]; exact hV1
        · simp (disch := (first | assumption | omega | (apply Inj.ne <;> first | assumption | omega) | fail)) only [nn_S, nm_D, ck_T, c2_S, on_N, on_S, lit, mNEG, nI_add, pk_mul, inb_nI, nI_clamp, wrI_row, wrL_row, rdR_rowI, rdR_rowL, rdI_def, rdL_def, rowI_same, rowI_ne, rowI_rowI, rowL_same, rowL_ne, rowL_1, rowI_21, upd_same, upd_ne, nI_le_T, nI_le_F, nI_lt_T, nI_lt_F, nI_eq_F, nI_NEG, NEG_lt0, nI_p, eq_self, if_true, if_false]; exact u2
        · simp (disch := (first | assumption | omega | (apply Inj.ne <;> first | assumption | omega) | fail)) only [nn_S, nm_D, ck_T, c2_S, on_N, on_S, lit, mNEG, nI_add, pk_mul, inb_nI, nI_clamp, wrI_row, wrL_row, rdR_rowI, rdR_rowL, rdI_def, rdL_def, rowI_same, rowI_ne, rowI_rowI, rowL_same, rowL_ne, rowL_1, rowI_21, upd_same, upd_ne, nI_le_T, nI_le_F, nI_lt_T, nI_lt_F, nI_eq_F, nI_NEG, NEG_lt0, nI_p, eq_self, if_true, if_false]; exact u5
        · simp (disch := (first | assumption | omega | (apply Inj.ne <;> first | assumption | omega) | fail)) only [nn_S, nm_D, ck_T, c2_S, on_N, on_S, lit, mNEG, nI_add, pk_mul, inb_nI, nI_clamp, wrI_row, wrL_row, rdR_rowI, rdR_rowL, rdI_def, rdL_def, rowI_same, rowI_ne, rowI_rowI, rowL_same, rowL_ne, rowL_1, rowI_21, upd_same, upd_ne, nI_le_T, nI_le_F, nI_lt_T, nI_lt_F, nI_eq_F, nI_NEG, NEG_lt0, nI_p, eq_self, if_true, if_false]; exact u6
        · simp (disch := (first | assumption | omega | (apply Inj.ne <;> first | assumption | omega) | fail)) only [nn_S, nm_D, ck_T, c2_S, on_N, on_S, lit, mNEG, nI_add, pk_mul, inb_nI, nI_clamp, wrI_row, wrL_row, rdR_rowI, rdR_rowL, rdI_def, rdL_def, rowI_same, rowI_ne, rowI_rowI, rowL_same, rowL_ne, rowL_1, rowI_21, upd_same, upd_ne, nI_le_T, nI_le_F, nI_lt_T, nI_lt_F, nI_eq_F, nI_NEG, NEG_lt0, nI_p, eq_self, if_true, if_false]
        · simp (disch := (first | assumption | omega | (apply Inj.ne <;> first | assumption | omega) | fail)) only [nn_S, nm_D, ck_T, c2_S, on_N, on_S, lit, mNEG, nI_add, pk_mul, inb_nI, nI_clamp, wrI_row, wrL_row, rdR_rowI, rdR_rowL, rdI_def, rdL_def, rowI_same, rowI_ne, rowI_rowI, rowL_same, rowL_ne, rowL_1, rowI_21, upd_same, upd_ne, nI_le_T, nI_le_F, nI_lt_T, nI_lt_F, nI_eq_F, nI_NEG, NEG_lt0, nI_p, eq_self, if_true, if_false]; exact u4
        · rw [rowI_ne _ _ (hI.ne (by omega))]; exact ul
      by_cases c1 : lft A W.2.2.1.1 = 2
      · have hrd : rd1W A W = (W.1, W.2.1, (W.2.2.1.1 + 1, W.2.2.1.2), W.2.2.2) := by
          unfold rd1W
          rw [if_neg (fun h => h.1 c1)]
        refine ⟨_, ?_, skip hrd⟩
        show b_X10_readOn_0 N S (n_X10_readOn_0 N S n) g _ _ = _
        unfold b_X10_readOn_0 b_X10_readOn_60
        simp (disch := (first | assumption | omega | (apply Inj.ne <;> first | assumption | omega) | fail)) only [nn_S, nm_D, ck_T, c2_S, on_N, on_S, lit, mNEG, nI_add, pk_mul, inb_nI, nI_clamp, wrI_row, wrL_row, rdR_rowI, rdR_rowL, rdI_def, rdL_def, rowI_same, rowI_ne, rowI_rowI, rowL_same, rowL_ne, rowL_1, rowI_21, upd_same, upd_ne, nI_le_T, nI_le_F, nI_lt_T, nI_lt_F, nI_eq_F, nI_NEG, NEG_lt0, nI_p, eq_self, if_true, if_false, h7, u3, CLO.keyAt rfl hC hlt, c_showsG hC hlt c1]
      · by_cases c2' : lky A W.2.2.1.1 < W.2.1.2.1
        · have hrd : rd1W A W = (W.1, W.2.1, (W.2.2.1.1 + 1, W.2.2.1.2), W.2.2.2) := by
            unfold rd1W
            rw [if_neg (fun h => h.2.1 c2')]
          refine ⟨_, ?_, skip hrd⟩
          show b_X10_readOn_0 N S (n_X10_readOn_0 N S n) g _ _ = _
          unfold b_X10_readOn_0 b_X10_readOn_60
          simp (disch := (first | assumption | omega | (apply Inj.ne <;> first | assumption | omega) | fail)) only [nn_S, nm_D, ck_T, c2_S, on_N, on_S, lit, mNEG, nI_add, pk_mul, inb_nI, nI_clamp, wrI_row, wrL_row, rdR_rowI, rdR_rowL, rdI_def, rdL_def, rowI_same, rowI_ne, rowI_rowI, rowL_same, rowL_ne, rowL_1, rowI_21, upd_same, upd_ne, nI_le_T, nI_le_F, nI_lt_T, nI_lt_F, nI_eq_F, nI_NEG, NEG_lt0, nI_p, eq_self, if_true, if_false, h7, u3, CLO.keyAt rfl hC hlt, c_showsT hC hlt c1, u5, c2']
        · by_cases c3 : W.2.1.2.2 < lky A W.2.2.1.1
          · have hrd : rd1W A W = (W.1, W.2.1, (W.2.2.1.1 + 1, W.2.2.1.2), W.2.2.2) := by
              unfold rd1W
              rw [if_neg (fun h => h.2.2 c3)]
            refine ⟨_, ?_, skip hrd⟩
            show b_X10_readOn_0 N S (n_X10_readOn_0 N S n) g _ _ = _
            unfold b_X10_readOn_0 b_X10_readOn_60
            simp (disch := (first | assumption | omega | (apply Inj.ne <;> first | assumption | omega) | fail)) only [nn_S, nm_D, ck_T, c2_S, on_N, on_S, lit, mNEG, nI_add, pk_mul, inb_nI, nI_clamp, wrI_row, wrL_row, rdR_rowI, rdR_rowL, rdI_def, rdL_def, rowI_same, rowI_ne, rowI_rowI, rowL_same, rowL_ne, rowL_1, rowI_21, upd_same, upd_ne, nI_le_T, nI_le_F, nI_lt_T, nI_lt_F, nI_eq_F, nI_NEG, NEG_lt0, nI_p, eq_self, if_true, if_false, h7, u3, CLO.keyAt rfl hC hlt, c_showsT hC hlt c1, u5, c2', u6, c3]
          · have hrd : rd1W A W = ((notW A W.2.2.1.1 W).1, (notW A W.2.2.1.1 W).2.1, ((notW A W.2.2.1.1 W).2.2.1.1 + 1, (notW A W.2.2.1.1 W).2.2.1.2), (notW A W.2.2.1.1 W).2.2.2) := by
              unfold rd1W
              rw [if_pos ⟨c1, c2', c3⟩]
            have hq : g.1 (ad (b + 1)) (lnu A W.2.2.1.1) = W.2.2.2.1 (lky A W.2.2.1.1) := by
              rw [ul _ (by omega), if_pos hnu.1, hnu.2]
            -- note
            have hnote : ∃ r, f_X10_note N S g (ad b) (nI (lnu A W.2.2.1.1)) = some ((), rowI (rowI g (ad b) r) (ad (b + 1)) (upd (g.1 (ad (b + 1))) (lnu A W.2.2.1.1) (nI W.2.2.1.1))) ∧ r 1 = g.1 (ad b) 1 ∧ r 2 = g.1 (ad b) 2 ∧ r 3 = g.1 (ad b) 3 ∧ r 5 = g.1 (ad b) 5 ∧ r 6 = g.1 (ad b) 6 ∧ r 4 = nI (if W.2.2.2.1 (lky A W.2.2.1.1) = NEG then W.2.2.1.2 + 1 else W.2.2.1.2) := by
              by_cases d : W.2.2.2.1 (lky A W.2.2.1.1) = NEG
              · refine ⟨upd (g.1 (ad b)) 4 (nI (W.2.2.1.2 + 1)), ?_, upd_ne _ _ (by decide), upd_ne _ _ (by decide), upd_ne _ _ (by decide), upd_ne _ _ (by decide), upd_ne _ _ (by decide), by rw [upd_same, if_pos d]⟩
                show b_X10_note_0 N S g (ad b) _ = _
                unfold b_X10_note_0 b_X10_note_20
                simp (disch := (first | assumption | omega | (apply Inj.ne <;> first | assumption | omega) | fail)) only [nn_S, nm_D, ck_T, c2_S, on_N, on_S, lit, mNEG, nI_add, pk_mul, inb_nI, nI_clamp, wrI_row, wrL_row, rdR_rowI, rdR_rowL, rdI_def, rdL_def, rowI_same, rowI_ne, rowI_rowI, rowL_same, rowL_ne, rowL_1, rowI_21, upd_same, upd_ne, nI_le_T, nI_le_F, nI_lt_T, nI_lt_F, nI_eq_F, nI_NEG, NEG_lt0, nI_p, eq_self, if_true, if_false, hP.1, lr, hq, d, u4, u3]
              · refine ⟨g.1 (ad b), ?_, rfl, rfl, rfl, rfl, rfl, by rw [if_neg d]; exact u4⟩
                rw [rowI_self]
                show b_X10_note_0 N S g (ad b) _ = _
                unfold b_X10_note_0 b_X10_note_20
                simp (disch := (first | assumption | omega | (apply Inj.ne <;> first | assumption | omega) | fail)) only [nn_S, nm_D, ck_T, c2_S, on_N, on_S, lit, mNEG, nI_add, pk_mul, inb_nI, nI_clamp, wrI_row, wrL_row, rdR_rowI, rdR_rowL, rdI_def, rdL_def, rowI_same, rowI_ne, rowI_rowI, rowL_same, rowL_ne, rowL_1, rowI_21, upd_same, upd_ne, nI_le_T, nI_le_F, nI_lt_T, nI_lt_F, nI_eq_F, nI_NEG, NEG_lt0, nI_p, eq_self, if_true, if_false, hP.1, lr, hq, d, u3]
            obtain ⟨r, r0, r1, r2, r3, r5, r6, r4⟩ := hnote
            let g0 : Hg := rowI (rowI g (ad b) (upd r 3 (nI (W.2.2.1.1 + 1)))) (ad (b + 1)) (upd (g.1 (ad (b + 1))) (lnu A W.2.2.1.1) (nI W.2.2.1.1))
            refine ⟨g0, ?_, Fr.rt hI (Fr.row hI (Or.inr rfl)) (Or.inl rfl), ?_⟩
            · show b_X10_readOn_0 N S (n_X10_readOn_0 N S n) g _ _ = _
              unfold b_X10_readOn_0 b_X10_readOn_60
              have er : r 3 = nI W.2.2.1.1 := r3.trans u3
              simp (disch := (first | assumption | omega | (apply Inj.ne <;> first | assumption | omega) | fail)) only [nn_S, nm_D, ck_T, c2_S, on_N, on_S, lit, mNEG, nI_add, pk_mul, inb_nI, nI_clamp, wrI_row, wrL_row, rdR_rowI, rdR_rowL, rdI_def, rdL_def, rowI_same, rowI_ne, rowI_rowI, rowL_same, rowL_ne, rowL_1, rowI_21, upd_same, upd_ne, nI_le_T, nI_le_F, nI_lt_T, nI_lt_F, nI_eq_F, nI_NEG, NEG_lt0, nI_p, eq_self, if_true, if_false, h7, u3, CLO.keyAt rfl hC hlt, c_showsT hC hlt c1, u5, c2', u6, c3, hC.1.1.2.2.1, l3, hnr, r0, er]
              congr 1
              show rowI (rowI (rowI g (ad b) r) (ad (b + 1)) _) (ad b) _ = _
              rw [rowI_comm (hI.ne (by omega)), rowI_rowI]
            · rw [hrd]
              have e0 : g0.1 (ad b) = upd r 3 (nI (W.2.2.1.1 + 1)) := by
                show (rowI (rowI g (ad b) _) (ad (b + 1)) _).1 (ad b) = _
                rw [rowI_ne _ _ (hI.ne (by omega)), rowI_same]
              have e1 : g0.1 (ad (b + 1)) = upd (g.1 (ad (b + 1))) (lnu A W.2.2.1.1) (nI W.2.2.1.1) := rowI_same _ _ _
              refine ⟨hP.fr rfl, ?_, fun _ => ⟨⟨?_, ?_, ?_, ?_, ?_⟩, fun q hq1 => ?_⟩⟩
              · rw [e0, upd_ne _ _ (by decide), r1]; exact hV1
              · rw [e0, upd_ne _ _ (by decide), r2]; exact u2
              · rw [e0, upd_ne _ _ (by decide), r5]; exact u5
              · rw [e0, upd_ne _ _ (by decide), r6]; exact u6
              · rw [e0, upd_same]; rfl
              · rw [e0, upd_ne _ _ (by decide), r4]; rfl
              · rw [e1]
                show _ = if q < lks A then (if lK A q = lky A W.2.2.1.1 then nI W.2.2.1.1 else W.2.2.2.1 (lK A q)) else NEG
                by_cases e : q = lnu A W.2.2.1.1
                · rw [e, upd_same, if_pos hnu.1, if_pos hnu.2]
                · rw [upd_ne _ _ e, ul q hq1]
                  by_cases d : q < lks A
                  · rw [if_pos d, if_pos d, if_neg (fun h => e ((key_nu hC.2.2.2.2.2.2.1 hlt d).mp h.symm).symm)]
                  · rw [if_neg d, if_neg d]
    obtain ⟨g0, s1, s2, s3⟩ := hone
    obtain ⟨g1, a1, a2, a3, a4⟩ := ih n g0 (rd1W A W) (by rw [z3]; omega) (by omega) (z1.trans hw) hF1 (hC.fr s2 (fun r r1 r2 => by omega)) s3
    exact ⟨g1, s1.trans a1, s2.tr a2, a3, a4⟩
theorem c_readOn {N : Nat} (hN : 40000 ≤ N) {S : Hs} {g : Hg} {ad : Nat → Nat} (hI : Inj ad) {b c : Nat} {A : ALog} {W : AWt} (hbc : b + 2 ≤ c ∨ c + 14 ≤ b) (hw : W.1 = true) (hF : WtWf A W) (hC : CLO S g ad c A) (hO : WtO S g ad b A W) :
    ∃ g1, f_X10_readOn N S g (ad b) (ad c) = some ((), g1) ∧ Fr ad (fun r => r = b ∨ r = b + 1) g g1 ∧ WtO S g1 ad b A (rdW A (lsz A - W.2.2.1.1) W) ∧ WtWf A (rdW A (lsz A - W.2.2.1.1) W) := by
  have := hF.1
  have hsz := hC.2.2.1
  exact c_readOn0 hI hbc (lsz A - W.2.2.1.1) N g W (by omega) (by omega) hw hF hC hO
/-- how many of the first q KEYS are not as they were read last -/
def unlW (A : ALog) (n : Nat) (W : AWt) : Nat → Nat
  | 0 => 0
  | q + 1 => if W.2.2.2.1 (lK A q) = NEG ∨ W.2.2.2.1 (lK A q) = LAT A n (lK A q) then unlW A n W q else unlW A n W q + 1
theorem unlW_le (A : ALog) (n : Nat) (W : AWt) : ∀ q, unlW A n W q ≤ q
  | 0 => Nat.le_refl _
  | q + 1 => by
    have := unlW_le A n W q
    unfold unlW
    by_cases c : W.2.2.2.1 (lK A q) = NEG ∨ W.2.2.2.1 (lK A q) = LAT A n (lK A q)
    · rw [if_pos c]; omega
    · rw [if_neg c]; omega
theorem c_unlike5 {N : Nat} {S : Hs} {g : Hg} {ad : Nat → Nat} {b n_ m : Nat} {ins : Nat → Nat} {A : ALog} {W : AWt} (hks : lks A ≤ 400) (hw : W.1 = true) (hS : ScP S g ad) (hR : MapR g ad A n_ m ins) (hO : WtO S g ad b A W) : ∀ (f n q : Nat), q + f = lks A → f < n →
    n_X10_unlikeKeys_5 N S n g (ad b) (ad 4) (nI (lks A)) (nI (unlW A n_ W q)) (nI q) = some (nI (unlW A n_ W (lks A)), g) := by
  have hl := hO.1.2
  have hu := (hO.2.2 hw).2
  intro f
  induction f with
  | zero =>
    intro n q h1 h2
    obtain ⟨n, rfl⟩ : ∃ z, n = z + 1 := ⟨n - 1, by omega⟩
    obtain rfl : q = lks A := by omega
    show b_X10_unlikeKeys_5 N S (n_X10_unlikeKeys_5 N S n) g _ _ _ _ _ = _
    unfold b_X10_unlikeKeys_5
    simp (disch := (first | assumption | omega | (apply Inj.ne <;> first | assumption | omega) | fail)) only [nn_S, nm_D, ck_T, c2_S, on_N, on_S, lit, mNEG, nI_add, pk_mul, inb_nI, nI_clamp, wrI_row, wrL_row, rdR_rowI, rdR_rowL, rdI_def, rdL_def, rowI_same, rowI_ne, rowI_rowI, rowL_same, rowL_ne, rowL_1, rowI_21, upd_same, upd_ne, nI_le_T, nI_le_F, nI_lt_T, nI_lt_F, nI_eq_F, nI_NEG, NEG_lt0, nI_p, eq_self, if_true, if_false]
  | succ f ih =>
    intro n q h1 h2
    obtain ⟨n, rfl⟩ : ∃ z, n = z + 1 := ⟨n - 1, by omega⟩
    have hi := ih n (q + 1) (by omega) (by omega)
    have hq : g.1 (ad (b + 1)) q = W.2.2.2.1 (lK A q) := by rw [hu q (by omega), if_pos (by omega)]
    have hlat : f_X4_latestOf N S g (ad 4) (nI q) = some (LAT A n_ (lK A q), g) := by
      rw [c_latestOf rfl (by omega) hS, hR.1 q (by omega)]
    have e1 : unlW A n_ W (q + 1) = if W.2.2.2.1 (lK A q) = NEG ∨ W.2.2.2.1 (lK A q) = LAT A n_ (lK A q) then unlW A n_ W q else unlW A n_ W q + 1 := rfl
    rw [e1] at hi
    show b_X10_unlikeKeys_5 N S (n_X10_unlikeKeys_5 N S n) g _ _ _ _ _ = _
    unfold b_X10_unlikeKeys_5
    by_cases c1 : W.2.2.2.1 (lK A q) = NEG
    · rw [if_pos (Or.inl c1)] at hi
      simp (disch := (first | assumption | omega | (apply Inj.ne <;> first | assumption | omega) | fail)) only [nn_S, nm_D, ck_T, c2_S, on_N, on_S, lit, mNEG, nI_add, pk_mul, inb_nI, nI_clamp, wrI_row, wrL_row, rdR_rowI, rdR_rowL, rdI_def, rdL_def, rowI_same, rowI_ne, rowI_rowI, rowL_same, rowL_ne, rowL_1, rowI_21, upd_same, upd_ne, nI_le_T, nI_le_F, nI_lt_T, nI_lt_F, nI_eq_F, nI_NEG, NEG_lt0, nI_p, eq_self, if_true, if_false, hO.1.1, hl, hq, c1]
      exact hi
    · by_cases c2' : W.2.2.2.1 (lK A q) = LAT A n_ (lK A q)
      · rw [if_pos (Or.inr c2')] at hi
        simp (disch := (first | assumption | omega | (apply Inj.ne <;> first | assumption | omega) | fail)) only [nn_S, nm_D, ck_T, c2_S, on_N, on_S, lit, mNEG, nI_add, pk_mul, inb_nI, nI_clamp, wrI_row, wrL_row, rdR_rowI, rdR_rowL, rdI_def, rdL_def, rowI_same, rowI_ne, rowI_rowI, rowL_same, rowL_ne, rowL_1, rowI_21, upd_same, upd_ne, nI_le_T, nI_le_F, nI_lt_T, nI_lt_F, nI_eq_F, nI_NEG, NEG_lt0, nI_p, eq_self, if_true, if_false, hO.1.1, hl, hq, hlat]
        rw [if_neg c1, if_pos c2']
        exact hi
      · rw [if_neg (fun h => h.elim c1 c2')] at hi
        simp (disch := (first | assumption | omega | (apply Inj.ne <;> first | assumption | omega) | fail)) only [nn_S, nm_D, ck_T, c2_S, on_N, on_S, lit, mNEG, nI_add, pk_mul, inb_nI, nI_clamp, wrI_row, wrL_row, rdR_rowI, rdR_rowL, rdI_def, rdL_def, rowI_same, rowI_ne, rowI_rowI, rowL_same, rowL_ne, rowL_1, rowI_21, upd_same, upd_ne, nI_le_T, nI_le_F, nI_lt_T, nI_lt_F, nI_eq_F, nI_NEG, NEG_lt0, nI_p, eq_self, if_true, if_false, hO.1.1, hl, hq, hlat]
        rw [if_neg c1, if_neg c2']
        exact hi
theorem c_unlike {N : Nat} (hN : 40000 ≤ N) {S : Hs} {g : Hg} {ad : Nat → Nat} {b n_ m : Nat} {ins : Nat → Nat} {A : ALog} {W : AWt} (hks : lks A ≤ 400) (hw : W.1 = true) (hS : ScP S g ad) (hR : MapR g ad A n_ m ins) (hO : WtO S g ad b A W) :
    f_X10_unlikeKeys N S g (ad b) (ad 4) (nI (lks A)) = some (nI (unlW A n_ W (lks A)), g) := c_unlike5 hks hw hS hR hO (lks A) N 0 (by omega) (by omega)
