/-! the reference: KEYS parted by a bit, the TREE -/
theorem lst_shift (f : Nat → Int32) (c m : Nat) : lst (fun j => f (j - c)) c (c + m) = lst f 0 m := by
  induction m with
  | zero => rw [lst_nil _ (by omega), lst_nil _ (by omega)]
  | succ m ih => rw [show c + (m + 1) = (c + m) + 1 by omega, lst_snoc _ (by omega), lst_snoc _ (by omega), ih, show c + m - c = m by omega]
theorem m_part82 {N : Nat} {S : Hs} {ad : Nat → Nat} (hI : Inj ad) {n_ m_ M : Nat} {od ot : Nat → Nat} (hM : M ≤ 400) (hnm : n_ + m_ ≤ M) : ∀ (f n k : Nat) (g : Hg), k + f = m_ → f < n → RfP S g ad → (∀ j, j < m_ → g.1 (ad 20057) j = nI (ot j)) → (∀ j, j < M → j < n_ + k ∨ n_ + m_ ≤ j → g.1 (ad 20056) j = nI (if n_ ≤ j ∧ j < n_ + m_ then ot (j - n_) else od j)) →
    ∃ g1, n_X12_part_82 N S n g (ad 20000) (nI n_) (nI m_) (nI k) = some (nI n_, g1) ∧ Fr ad (fun r => r = 20056) g g1 ∧ OdM g1 ad M (fun j => if n_ ≤ j ∧ j < n_ + m_ then ot (j - n_) else od j) := by
  intro f
  induction f with
  | zero =>
    intro n k g h1 h2 hR hT hO
    obtain ⟨n, rfl⟩ : ∃ z, n = z + 1 := ⟨n - 1, by omega⟩
    refine ⟨g, ?_, Fr.rf, fun j hj => hO j hj (by omega)⟩
    show b_X12_part_82 N S (n_X12_part_82 N S n) g _ _ _ _ = _
    unfold b_X12_part_82
    simp (disch := (first | assumption | omega | (apply Inj.ne <;> first | assumption | omega) | fail)) only [nn_S, nm_D, ck_T, c2_S, on_N, on_S, lit, mNEG, nI_add, pk_mul, inb_nI, nI_clamp, wrI_row, wrL_row, rdR_rowI, rdR_rowL, rdI_def, rdL_def, rowI_same, rowI_ne, rowI_rowI, rowL_same, rowL_ne, rowL_1, rowI_21, upd_same, upd_ne, nI_le_T, nI_le_F, nI_lt_T, nI_lt_F, nI_eq_F, nI_NEG, NEG_lt0, nI_p, eq_self, if_true, if_false]
  | succ f ih =>
    intro n k g h1 h2 hR hT hO
    obtain ⟨n, rfl⟩ : ∃ z, n = z + 1 := ⟨n - 1, by omega⟩
    have p55 : rdR _ (ad 20000) 55 = some (ad 20056) := hR.p 55 (by decide)
    have l55 : hpL _ (ad 20056) = 400 := hR.l 55 (by decide) rfl
    have p56 : rdR _ (ad 20000) 56 = some (ad 20057) := hR.p 56 (by decide)
    have l56 : hpL _ (ad 20057) = 400 := hR.l 56 (by decide) rfl
    have hk := hT k (by omega)
    have f0 : Fr ad (fun r => r = 20056) g (rowI g (ad 20056) (upd (g.1 (ad 20056)) (n_ + k) (nI (ot k)))) := Fr.row hI rfl
    obtain ⟨g1, a1, a2, a3⟩ := ih n (k + 1) (rowI g (ad 20056) (upd (g.1 (ad 20056)) (n_ + k) (nI (ot k)))) (by omega) (by omega) (hR.fr rfl) (fun j hj => by rw [f0.I (by decide)]; exact hT j hj) (fun j hj hc => by
      rw [rowI_same]
      by_cases e : j = n_ + k
      · rw [e, upd_same, if_pos (by omega), show n_ + k - n_ = k by omega]
      · rw [upd_ne _ _ e]; exact hO j hj (by omega))
    refine ⟨g1, ?_, f0.tr a2, a3⟩
    show b_X12_part_82 N S (n_X12_part_82 N S n) g _ _ _ _ = _
    unfold b_X12_part_82
    simp (disch := (first | assumption | omega | (apply Inj.ne <;> first | assumption | omega) | fail)) only [nn_S, nm_D, ck_T, c2_S, on_N, on_S, lit, mNEG, nI_add, pk_mul, inb_nI, nI_clamp, wrI_row, wrL_row, rdR_rowI, rdR_rowL, rdI_def, rdL_def, rowI_same, rowI_ne, rowI_rowI, rowL_same, rowL_ne, rowL_1, rowI_21, upd_same, upd_ne, nI_le_T, nI_le_F, nI_lt_T, nI_lt_F, nI_eq_F, nI_NEG, NEG_lt0, nI_p, eq_self, if_true, if_false, p55, l55, p56, l56, hk]
    exact a1
theorem m_part9 {N : Nat} (hN : 40000 ≤ N) {S : Hs} {ad : Nat → Nat} (hI : Inj ad) {A : ALog} {nn_ M a b d : Nat} {K : Nat → Int32} {od : Nat → Nat} (hM : M ≤ 400) (hb : b ≤ M) (hd : d < 256) (hod : ∀ j, j < M → od j < M) : ∀ (f n k : Nat) (g : Hg) (n_ m_ : Nat) (o1 ot : Nat → Nat), k + f = b → f < n → a ≤ n_ → n_ + m_ = k → RfP S g ad → MapM g ad A nn_ M K → (∀ j, j < M → j < n_ ∨ k ≤ j → g.1 (ad 20056) j = nI (o1 j)) → (∀ j, j < m_ → g.1 (ad 20057) j = nI (ot j)) → (∀ j, j < a ∨ k ≤ j → o1 j = od j) → (∀ j, j < M → o1 j < M) → (∀ j, j < m_ → ot j < M) → (lst (fun j => K (od j)) a k).filter (fun z => !kbit d z) = lst (fun j => K (o1 j)) a n_ → (lst (fun j => K (od j)) a k).filter (fun z => kbit d z) = lst (fun j => K (ot j)) 0 m_ →
    ∃ g1 p o2, n_X12_part_9 N S n g (ad 20000) (nI b) (nI d) (nI n_) (nI m_) (nI k) = some (nI p, g1) ∧ Fr ad (fun r => r = 20056 ∨ r = 20057) g g1 ∧ OdM g1 ad M o2 ∧ a ≤ p ∧ p ≤ b ∧ (∀ j, j < a ∨ b ≤ j → o2 j = od j) ∧ (∀ j, j < M → o2 j < M) ∧ (lst (fun j => K (od j)) a b).filter (fun z => !kbit d z) = lst (fun j => K (o2 j)) a p ∧ (lst (fun j => K (od j)) a b).filter (fun z => kbit d z) = lst (fun j => K (o2 j)) p b := by
  intro f
  induction f with
  | zero =>
    intro n k g n_ m_ o1 ot h1 h2 h3 h4 hR hMp hO hT ho1 hoM htM hf0 hf1
    obtain ⟨n, rfl⟩ : ∃ z, n = z + 1 := ⟨n - 1, by omega⟩
    obtain rfl : k = b := by omega
    obtain ⟨g1, a1, a2, a3⟩ := m_part82 (N := N) hI (n_ := n_) (m_ := m_) (M := M) (od := o1) (ot := ot) hM (by omega) m_ N 0 g (by omega) (by omega) hR hT (fun j hj hc => by
      rw [if_neg (by omega)]
      exact hO j hj (by omega))
    refine ⟨g1, n_, fun j => if n_ ≤ j ∧ j < n_ + m_ then ot (j - n_) else o1 j, ?_, a2.mono (fun r h => by omega), a3, h3, by omega, fun j hj => ?_, fun j hj => ?_, ?_, ?_⟩
    · show b_X12_part_9 N S (n_X12_part_9 N S n) g _ _ _ _ _ _ = _
      unfold b_X12_part_9
      simp (disch := (first | assumption | omega | (apply Inj.ne <;> first | assumption | omega) | fail)) only [nn_S, nm_D, ck_T, c2_S, on_N, on_S, lit, mNEG, nI_add, pk_mul, inb_nI, nI_clamp, wrI_row, wrL_row, rdR_rowI, rdR_rowL, rdI_def, rdL_def, rowI_same, rowI_ne, rowI_rowI, rowL_same, rowL_ne, rowL_1, rowI_21, upd_same, upd_ne, nI_le_T, nI_le_F, nI_lt_T, nI_lt_F, nI_eq_F, nI_NEG, NEG_lt0, nI_p, eq_self, if_true, if_false]
      exact a1
    · show (if n_ ≤ j ∧ j < n_ + m_ then ot (j - n_) else o1 j) = _
      rw [if_neg (by omega)]
      exact ho1 j hj
    · show (if n_ ≤ j ∧ j < n_ + m_ then ot (j - n_) else o1 j) < M
      by_cases c : n_ ≤ j ∧ j < n_ + m_
      · rw [if_pos c]; exact htM _ (by omega)
      · rw [if_neg c]; exact hoM j hj
    · rw [hf0]
      exact lst_congr (fun i i1 i2 => by show K (o1 i) = K (if n_ ≤ i ∧ i < n_ + m_ then ot (i - n_) else o1 i); rw [if_neg (by omega)])
    · rw [hf1, ← lst_shift (fun j => K (ot j)) n_ m_, h4]
      exact lst_congr (fun i i1 i2 => by show K (ot (i - n_)) = K (if n_ ≤ i ∧ i < k then ot (i - n_) else o1 i); rw [if_pos (by omega)])
  | succ f ih =>
    intro n k g n_ m_ o1 ot h1 h2 h3 h4 hR hMp hO hT ho1 hoM htM hf0 hf1
    obtain ⟨n, rfl⟩ : ∃ z, n = z + 1 := ⟨n - 1, by omega⟩
    have p54 : rdR _ (ad 20000) 54 = some (ad 20055) := hR.p 54 (by decide)
    have l54 : hpL _ (ad 20055) = 3200 := hR.l 54 (by decide) rfl
    have p55 : rdR _ (ad 20000) 55 = some (ad 20056) := hR.p 55 (by decide)
    have l55 : hpL _ (ad 20056) = 400 := hR.l 55 (by decide) rfl
    have p56 : rdR _ (ad 20000) 56 = some (ad 20057) := hR.p 56 (by decide)
    have l56 : hpL _ (ad 20057) = 400 := hR.l 56 (by decide) rfl
    have hk : g.1 (ad 20056) k = nI (od k) := by rw [hO k (by omega) (by omega), ho1 k (by omega)]
    have hkM := hod k (by omega)
    have hone : f_X12_isOne N S g (ad 20055) (nI (8 * od k)) (nI d) = some (nI (wbit (WAY (K (od k))) d), g) := by
      rw [m_isOne (p := 8 * od k) (d := d) rfl rfl hd (by rw [l54]; omega) (by rw [l54]; decide)]
      rw [wbit_congr (hMp.2.2.2 (od k) hkM) hd]
    have hsn : lst (fun j => K (od j)) a (k + 1) = lst (fun j => K (od j)) a k ++ [K (od k)] := lst_snoc _ (by omega)
    have hlt := wbit_lt (WAY (K (od k))) d
    by_cases c : wbit (WAY (K (od k))) d = 0
    · rw [c] at hone
      have kb : kbit d (K (od k)) = false := by
        unfold kbit
        rw [c]
        rfl
      have f0 : Fr ad (fun r => r = 20056) g (rowI g (ad 20056) (upd (g.1 (ad 20056)) n_ (nI (od k)))) := Fr.row hI rfl
      obtain ⟨g1, p, o2, a1, a2, a3⟩ := ih n (k + 1) (rowI g (ad 20056) (upd (g.1 (ad 20056)) n_ (nI (od k)))) (n_ + 1) m_ (va_up o1 n_ (od k)) ot (by omega) (by omega) (by omega) (by omega) (hR.fr rfl) ⟨by rw [f0.I (by decide)]; exact hMp.1, fun z hz => by rw [f0.I (by decide)]; exact hMp.2.1 z hz, fun z hz => by rw [f0.I (by decide)]; exact hMp.2.2.1 z hz, fun z hz => by rw [f0.I (by decide)]; exact hMp.2.2.2 z hz⟩ (fun j hj hc => by
          rw [rowI_same]
          by_cases e : j = n_
          · rw [e, upd_same, va_same]
          · rw [upd_ne _ _ e, va_ne _ _ e]; exact hO j hj (by omega)) (fun j hj => by rw [f0.I (by decide)]; exact hT j hj) (fun j hj => by
          by_cases e : j = n_
          · omega
          · rw [va_ne _ _ e]; exact ho1 j (by omega)) (fun j hj => by
          by_cases e : j = n_
          · rw [e, va_same]; exact hkM
          · rw [va_ne _ _ e]; exact hoM j hj) htM (by
          rw [hsn, List.filter_append, hf0, lst_snoc _ h3, va_same]
          congr 1
          · exact lst_congr (fun i i1 i2 => by rw [va_ne _ _ (by omega)])
          · simp [kb]) (by
          rw [hsn, List.filter_append, hf1]
          simp [kb])
      refine ⟨g1, p, o2, ?_, (f0.mono (fun r h => by omega)).tr a2, a3⟩
      show b_X12_part_9 N S (n_X12_part_9 N S n) g _ _ _ _ _ _ = _
      unfold b_X12_part_9
      simp (disch := (first | assumption | omega | (apply Inj.ne <;> first | assumption | omega) | fail)) only [nn_S, nm_D, ck_T, c2_S, on_N, on_S, lit, mNEG, nI_add, pk_mul, inb_nI, nI_clamp, wrI_row, wrL_row, rdR_rowI, rdR_rowL, rdI_def, rdL_def, rowI_same, rowI_ne, rowI_rowI, rowL_same, rowL_ne, rowL_1, rowI_21, upd_same, upd_ne, nI_le_T, nI_le_F, nI_lt_T, nI_lt_F, nI_eq_F, nI_NEG, NEG_lt0, nI_p, eq_self, if_true, if_false, p54, p55, l55, hk, hone]
      exact a1
    · have c1 : wbit (WAY (K (od k))) d = 1 := by omega
      rw [c1] at hone
      have kb : kbit d (K (od k)) = true := by
        unfold kbit
        rw [c1]
        rfl
      have f0 : Fr ad (fun r => r = 20057) g (rowI g (ad 20057) (upd (g.1 (ad 20057)) m_ (nI (od k)))) := Fr.row hI rfl
      obtain ⟨g1, p, o2, a1, a2, a3⟩ := ih n (k + 1) (rowI g (ad 20057) (upd (g.1 (ad 20057)) m_ (nI (od k)))) n_ (m_ + 1) o1 (va_up ot m_ (od k)) (by omega) (by omega) (by omega) (by omega) (hR.fr rfl) ⟨by rw [f0.I (by decide)]; exact hMp.1, fun z hz => by rw [f0.I (by decide)]; exact hMp.2.1 z hz, fun z hz => by rw [f0.I (by decide)]; exact hMp.2.2.1 z hz, fun z hz => by rw [f0.I (by decide)]; exact hMp.2.2.2 z hz⟩ (fun j hj hc => by rw [f0.I (by decide)]; exact hO j hj (by omega)) (fun j hj => by
          rw [rowI_same]
          by_cases e : j = m_
          · rw [e, upd_same, va_same]
          · rw [upd_ne _ _ e, va_ne _ _ e]; exact hT j (by omega)) (fun j hj => ho1 j (by omega)) hoM (fun j hj => by
          by_cases e : j = m_
          · rw [e, va_same]; exact hkM
          · rw [va_ne _ _ e]; exact htM j (by omega)) (by
          rw [hsn, List.filter_append, hf0]
          simp [kb]) (by
          rw [hsn, List.filter_append, hf1, lst_snoc _ (Nat.zero_le _), va_same]
          congr 1
          · exact lst_congr (fun i i1 i2 => by rw [va_ne _ _ (by omega)])
          · simp [kb])
      refine ⟨g1, p, o2, ?_, (f0.mono (fun r h => by omega)).tr a2, a3⟩
      show b_X12_part_9 N S (n_X12_part_9 N S n) g _ _ _ _ _ _ = _
      unfold b_X12_part_9
      simp (disch := (first | assumption | omega | (apply Inj.ne <;> first | assumption | omega) | fail)) only [nn_S, nm_D, ck_T, c2_S, on_N, on_S, lit, mNEG, nI_add, pk_mul, inb_nI, nI_clamp, wrI_row, wrL_row, rdR_rowI, rdR_rowL, rdI_def, rdL_def, rowI_same, rowI_ne, rowI_rowI, rowL_same, rowL_ne, rowL_1, rowI_21, upd_same, upd_ne, nI_le_T, nI_le_F, nI_lt_T, nI_lt_F, nI_eq_F, nI_NEG, NEG_lt0, nI_p, eq_self, if_true, if_false, p54, p55, l55, p56, l56, hk, hone]
      exact a1
theorem m_part {N : Nat} (hN : 40000 ≤ N) {S : Hs} {g : Hg} {ad : Nat → Nat} (hI : Inj ad) {A : ALog} {nn_ M a b d : Nat} {K : Nat → Int32} {od : Nat → Nat} (hM : M ≤ 400) (hab : a ≤ b) (hb : b ≤ M) (hd : d < 256) (hod : ∀ j, j < M → od j < M) (hR : RfP S g ad) (hMp : MapM g ad A nn_ M K) (hO : OdM g ad M od) :
    ∃ g1 p o2, f_X12_part N S g (ad 20000) (nI a) (nI b) (nI d) = some (nI p, g1) ∧ Fr ad (fun r => r = 20056 ∨ r = 20057) g g1 ∧ OdM g1 ad M o2 ∧ a ≤ p ∧ p ≤ b ∧ (∀ j, j < a ∨ b ≤ j → o2 j = od j) ∧ (∀ j, j < M → o2 j < M) ∧ (lst (fun j => K (od j)) a b).filter (fun z => !kbit d z) = lst (fun j => K (o2 j)) a p ∧ (lst (fun j => K (od j)) a b).filter (fun z => kbit d z) = lst (fun j => K (o2 j)) p b :=
  m_part9 hN hI hM hb hd hod (b - a) N a g a 0 od od (by omega) (by omega) (Nat.le_refl _) (by omega) hR hMp (fun j hj _ => hO j hj) (fun j hj => absurd hj (by omega)) (fun j _ => rfl) hod (fun j hj => absurd hj (by omega)) (by rw [lst_nil _ (Nat.le_refl _)]; rfl) (by rw [lst_nil _ (Nat.le_refl _), lst_nil _ (Nat.le_refl _)]; rfl)
theorem MapM.fr {g g1 : Hg} {ad : Nat → Nat} {A : ALog} {n m : Nat} {K : Nat → Int32} {R : Nat → Prop} (h : MapM g ad A n m K) (hf : Fr ad R g g1) (h0 : ¬ R 20000) (hr : ∀ r, 20053 ≤ r → r ≤ 20055 → ¬ R r) : MapM g1 ad A n m K := by
  unfold MapM
  rw [hf.I h0, hf.I (hr 20053 (by omega) (by omega)), hf.I (hr 20054 (by omega) (by omega)), hf.I (hr 20055 (by omega) (by omega))]
  exact h
theorem perm_split (l : List Int32) (p : Int32 → Bool) : (l.filter (fun z => !p z) ++ l.filter p).Perm l := by
  induction l with
  | nil => exact List.Perm.refl _
  | cons k l ih =>
    cases h : p k
    · rw [List.filter_cons_of_pos (by simp [h]), List.filter_cons_of_neg (by simp [h])]
      exact ih.cons k
    · rw [List.filter_cons_of_neg (by simp [h]), List.filter_cons_of_pos (by simp [h])]
      exact List.perm_middle.trans (ih.cons k)
theorem m_tree8 (N : Nat) (S : Hs) (self : Hg → Nat → Int32 → Int32 → Int32 → Nat → Int32 → Option (Unit × Hg)) (row at_ : Nat) (hat : at_ + 8 ≤ hpL S row) (hlen : hpL S row < 2 ^ 31) : ∀ (i n : Nat) (g : Hg), i ≤ 8 → i < n → (∀ j, j < 8 - i → g.1 row (at_ + j) = 0) → n_X12_tree_8 N S self n g row (nI at_) (nI (8 - i)) = some ((), rowI g row (putA (g.1 row) at_ NOUGHT)) := by
  intro i
  induction i with
  | zero =>
    intro n g h1 h2 hz
    obtain ⟨n, rfl⟩ : ∃ z, n = z + 1 := ⟨n - 1, by omega⟩
    have e : putA (g.1 row) at_ NOUGHT = g.1 row := by
      funext j
      unfold putA
      by_cases c : at_ ≤ j ∧ j < at_ + 8
      · rw [if_pos c]
        have := hz (j - at_) (by omega)
        rw [show at_ + (j - at_) = j by omega] at this
        rw [this]; rfl
      · rw [if_neg c]
    rw [e, rowI_self]
    show b_X12_tree_8 N S self (n_X12_tree_8 N S self n) g _ _ _ = _
    unfold b_X12_tree_8
    simp (disch := (first | assumption | omega | (apply Inj.ne <;> first | assumption | omega) | fail)) only [nn_S, nm_D, ck_T, c2_S, on_N, on_S, lit, mNEG, nI_add, pk_mul, inb_nI, nI_clamp, wrI_row, wrL_row, rdR_rowI, rdR_rowL, rdI_def, rdL_def, rowI_same, rowI_ne, rowI_rowI, rowL_same, rowL_ne, rowL_1, rowI_21, upd_same, upd_ne, nI_le_T, nI_le_F, nI_lt_T, nI_lt_F, nI_eq_F, nI_NEG, NEG_lt0, nI_p, eq_self, if_true, if_false]
  | succ i ih =>
    intro n g h1 h2 hz
    obtain ⟨n, rfl⟩ : ∃ z, n = z + 1 := ⟨n - 1, by omega⟩
    have e : 8 - (i + 1) + 1 = 8 - i := by omega
    have hi := ih n (rowI g row (upd (g.1 row) (at_ + (8 - (i + 1))) (nI 0))) (by omega) (by omega) (fun j hj => by
      rw [rowI_same]
      by_cases c : j = 8 - (i + 1)
      · rw [c, upd_same]; rfl
      · rw [upd_ne _ _ (by omega)]; exact hz j (by omega))
    show b_X12_tree_8 N S self (n_X12_tree_8 N S self n) g _ _ _ = _
    unfold b_X12_tree_8
    simp (disch := (first | assumption | omega | (apply Inj.ne <;> first | assumption | omega) | fail)) only [nn_S, nm_D, ck_T, c2_S, on_N, on_S, lit, mNEG, nI_add, pk_mul, inb_nI, nI_clamp, wrI_row, wrL_row, rdR_rowI, rdR_rowL, rdI_def, rdL_def, rowI_same, rowI_ne, rowI_rowI, rowL_same, rowL_ne, rowL_1, rowI_21, upd_same, upd_ne, nI_le_T, nI_le_F, nI_lt_T, nI_lt_F, nI_eq_F, nI_NEG, NEG_lt0, nI_p, eq_self, if_true, if_false, e]
    rw [hi, rowI_rowI, rowI_same]
    congr 3
    funext j
    unfold putA
    by_cases c : at_ ≤ j ∧ j < at_ + 8
    · rw [if_pos c, if_pos c]
    · rw [if_neg c, if_neg c, upd_ne _ _ (by omega)]
/-- the reference's TREE of the KEYS from a to b, d bits deep: 256 - d is f -/
theorem m_tree {N : Nat} (hN : 40000 ≤ N) {S : Hs} {ad : Nat → Nat} (hI : Inj ad) {A : ALog} {nn_ M : Nat} {K : Nat → Int32} (hM : M ≤ 400) : ∀ (f n : Nat) (g : Hg) (a b rr at_ : Nat) (od : Nat → Nat), f ≤ 256 → f < n → a ≤ b → b ≤ M → (rr = 20059 ∨ 20060 ≤ rr ∧ rr ≤ 20066 ∨ 20014 = rr) → at_ + 8 ≤ hpL S (ad rr) → hpL S (ad rr) < 2 ^ 31 → (rr = 20059 → at_ + 8 ≤ 16 * (256 - f)) → AlikeL (256 - f) (lst (fun j => K (od j)) a b) → RfP S g ad → MapM g ad A nn_ M K → OdM g ad M od → (∀ j, j < M → od j < M) →
    ∃ g1 o1, f_X12_tree N S n g (ad 20000) (nI a) (nI b) (nI (256 - f)) (ad rr) (nI at_) = some ((), g1) ∧ Fr ad (fun r => r = 20044 ∨ r = 20045 ∨ r = 20056 ∨ r = 20057 ∨ r = 20059 ∨ r = rr) g g1 ∧ OdM g1 ad M o1 ∧ (∀ j, j < a ∨ b ≤ j → o1 j = od j) ∧ (∀ j, j < M → o1 j < M) ∧ (lst (fun j => K (o1 j)) a b).Perm (lst (fun j => K (od j)) a b) ∧ (∀ j, (rr = 20059 → j < 16 * (256 - f)) → g1.1 (ad rr) j = putA (g.1 (ad rr)) at_ (TREE (LAT A nn_) f (lst (fun j => K (od j)) a b)) j) ∧ (rr ≠ 20059 → ∀ j, j < 16 * (256 - f) → g1.1 (ad 20059) j = g.1 (ad 20059) j) := by
  intro f
  induction f with
  | zero =>
    intro n g a b rr at_ od hf hn hab hb hrr hat hlen h59 hAl hR hMp hO hod
    obtain ⟨n, rfl⟩ : ∃ z, n = z + 1 := ⟨n - 1, by omega⟩
    have hdeep := AlikeL.deep hAl
    rw [lst_len] at hdeep
    by_cases c : a = b
    · subst c
      refine ⟨rowI g (ad rr) (putA (g.1 (ad rr)) at_ NOUGHT), od, ?_, Fr.row hI (by omega), ?_, fun j _ => rfl, hod, List.Perm.refl _, fun j _ => ?_, fun h j _ => ?_⟩
      · show b_X12_tree_0 N S (f_X12_tree N S n) g _ _ _ _ _ _ = _
        unfold b_X12_tree_0
        rw [if_pos rfl]
        exact m_tree8 N S _ (ad rr) at_ hat hlen 8 N g (Nat.le_refl _) (by omega) (fun j hj => absurd hj (by omega))
      · intro k hk
        rw [rowI_ne _ _ (hI.ne (by omega))]; exact hO k hk
      · rw [rowI_same, lst_nil _ (Nat.le_refl _), TREE_nil]
      · rw [rowI_ne _ _ (hI.ne (by omega))]
    · obtain rfl : b = a + 1 := by omega
      have p52 : rdR _ (ad 20000) 52 = some (ad 20053) := hR.p 52 (by decide)
      have l52 : hpL _ (ad 20053) = 400 := hR.l 52 (by decide) rfl
      have p53 : rdR _ (ad 20000) 53 = some (ad 20054) := hR.p 53 (by decide)
      have l53 : hpL _ (ad 20054) = 400 := hR.l 53 (by decide) rfl
      have p55 : rdR _ (ad 20000) 55 = some (ad 20056) := hR.p 55 (by decide)
      have l55 : hpL _ (ad 20056) = 400 := hR.l 55 (by decide) rfl
      have ho := hO a (by omega)
      have hoM := hod a (by omega)
      obtain ⟨g1, a1, a2, a3⟩ := m_leaf (N := N) (by omega) (hR.mm hI) (K (od a)) (LAT A nn_ (K (od a)))
      have f1 : Fr ad (fun r => r = 20044 ∨ r = 20045) g g1 := Fr.ch a2 (fun r h => h.imp (hI _ _) (hI _ _))
      have hR1 := hR.fr f1.1
      have hto := m_toRow (N := N) (S := S) (g := g1) (m := ad 20000) (A := ad 20045) (row := ad rr) (at_ := at_) (x2 := nI at_) (by omega) (hR1.l 44 (by decide) rfl) (hR1.p 44 (by decide)) (hI.ne (by omega)) hat hlen rfl
      refine ⟨rowI g1 (ad rr) (putA (g1.1 (ad rr)) at_ (g1.1 (ad 20045))), od, ?_, (f1.mono (fun r h => by omega)).tr (Fr.row hI (by omega)), ?_, fun j _ => rfl, hod, List.Perm.refl _, fun j _ => ?_, fun h j _ => ?_⟩
      · show b_X12_tree_0 N S (f_X12_tree N S n) g _ _ _ _ _ _ = _
        unfold b_X12_tree_0
        have hm := hMp.2.1 (od a) hoM
        have hm2 := hMp.2.2.1 (od a) hoM
        have es : nI (a + 1) - nI a = nI 1 := by
          rw [sub_one (by omega) (by omega), show a + 1 - a = 1 by omega]
        rw [es]
        simp (disch := (first | assumption | omega | (apply Inj.ne <;> first | assumption | omega) | fail)) only [nn_S, nm_D, ck_T, c2_S, on_N, on_S, lit, mNEG, nI_add, pk_mul, inb_nI, nI_clamp, wrI_row, wrL_row, rdR_rowI, rdR_rowL, rdI_def, rdL_def, rowI_same, rowI_ne, rowI_rowI, rowL_same, rowL_ne, rowL_1, rowI_21, upd_same, upd_ne, nI_le_T, nI_le_F, nI_lt_T, nI_lt_F, nI_eq_F, nI_NEG, NEG_lt0, nI_p, eq_self, if_true, if_false, p52, l52, p53, l53, p55, l55, ho, hm, hm2, a1, hto]
      · intro k hk
        rw [rowI_ne _ _ (hI.ne (by omega)), f1.I (by decide)]; exact hO k hk
      · rw [rowI_same, lst_one, TREE_one, f1.I (by omega)]
        exact putA_eq8 a3 j
      · rw [rowI_ne _ _ (hI.ne (by omega)), f1.I (by decide)]
  | succ f ih =>
    intro n g a b rr at_ od hf hn hab hb hrr hat hlen h59 hAl hR hMp hO hod
    obtain ⟨n, rfl⟩ : ∃ z, n = z + 1 := ⟨n - 1, by omega⟩
    by_cases c : a = b
    · subst c
      refine ⟨rowI g (ad rr) (putA (g.1 (ad rr)) at_ NOUGHT), od, ?_, Fr.row hI (by omega), ?_, fun j _ => rfl, hod, List.Perm.refl _, fun j _ => ?_, fun h j _ => ?_⟩
      · show b_X12_tree_0 N S (f_X12_tree N S n) g _ _ _ _ _ _ = _
        unfold b_X12_tree_0
        rw [if_pos rfl]
        exact m_tree8 N S _ (ad rr) at_ hat hlen 8 N g (Nat.le_refl _) (by omega) (fun j hj => absurd hj (by omega))
      · intro k hk
        rw [rowI_ne _ _ (hI.ne (by omega))]; exact hO k hk
      · rw [rowI_same, lst_nil _ (Nat.le_refl _), TREE_nil]
      · rw [rowI_ne _ _ (hI.ne (by omega))]
    · by_cases c1 : b = a + 1
      · subst c1
        have p52 : rdR _ (ad 20000) 52 = some (ad 20053) := hR.p 52 (by decide)
        have l52 : hpL _ (ad 20053) = 400 := hR.l 52 (by decide) rfl
        have p53 : rdR _ (ad 20000) 53 = some (ad 20054) := hR.p 53 (by decide)
        have l53 : hpL _ (ad 20054) = 400 := hR.l 53 (by decide) rfl
        have p55 : rdR _ (ad 20000) 55 = some (ad 20056) := hR.p 55 (by decide)
        have l55 : hpL _ (ad 20056) = 400 := hR.l 55 (by decide) rfl
        have ho := hO a (by omega)
        have hoM := hod a (by omega)
        obtain ⟨g1, a1, a2, a3⟩ := m_leaf (N := N) (by omega) (hR.mm hI) (K (od a)) (LAT A nn_ (K (od a)))
        have f1 : Fr ad (fun r => r = 20044 ∨ r = 20045) g g1 := Fr.ch a2 (fun r h => h.imp (hI _ _) (hI _ _))
        have hR1 := hR.fr f1.1
        have hto := m_toRow (N := N) (S := S) (g := g1) (m := ad 20000) (A := ad 20045) (row := ad rr) (at_ := at_) (x2 := nI at_) (by omega) (hR1.l 44 (by decide) rfl) (hR1.p 44 (by decide)) (hI.ne (by omega)) hat hlen rfl
        refine ⟨rowI g1 (ad rr) (putA (g1.1 (ad rr)) at_ (g1.1 (ad 20045))), od, ?_, (f1.mono (fun r h => by omega)).tr (Fr.row hI (by omega)), ?_, fun j _ => rfl, hod, List.Perm.refl _, fun j _ => ?_, fun h j _ => ?_⟩
        · show b_X12_tree_0 N S (f_X12_tree N S n) g _ _ _ _ _ _ = _
          unfold b_X12_tree_0
          have hm := hMp.2.1 (od a) hoM
          have hm2 := hMp.2.2.1 (od a) hoM
          have es : nI (a + 1) - nI a = nI 1 := by
            rw [sub_one (by omega) (by omega), show a + 1 - a = 1 by omega]
          rw [es]
          simp (disch := (first | assumption | omega | (apply Inj.ne <;> first | assumption | omega) | fail)) only [nn_S, nm_D, ck_T, c2_S, on_N, on_S, lit, mNEG, nI_add, pk_mul, inb_nI, nI_clamp, wrI_row, wrL_row, rdR_rowI, rdR_rowL, rdI_def, rdL_def, rowI_same, rowI_ne, rowI_rowI, rowL_same, rowL_ne, rowL_1, rowI_21, upd_same, upd_ne, nI_le_T, nI_le_F, nI_lt_T, nI_lt_F, nI_eq_F, nI_NEG, NEG_lt0, nI_p, eq_self, if_true, if_false, p52, l52, p53, l53, p55, l55, ho, hm, hm2, a1, hto]
        · intro k hk
          rw [rowI_ne _ _ (hI.ne (by omega)), f1.I (by decide)]; exact hO k hk
        · rw [rowI_same, lst_one, TREE_one, f1.I (by omega)]
          exact putA_eq8 a3 j
        · rw [rowI_ne _ _ (hI.ne (by omega)), f1.I (by decide)]
      · have l58 : hpL _ (ad 20059) = 4160 := hR.l 58 (by decide) rfl
        have ed : 256 - (f + 1) = 255 - f := by omega
        have ed1 : 255 - f + 1 = 256 - f := by omega
        rw [ed] at hAl
        obtain ⟨g1, p, o2, a1, a2, a3, a4, a5, a6, a7, a8, a9⟩ := m_part hN hI hM hab hb (show 255 - f < 256 by omega) hod hR hMp hO
        have hR1 := hR.fr a2.1
        have hMp1 := hMp.fr a2 (by decide) (fun r r1 r2 => by omega)
        -- the zeros
        obtain ⟨g2, o3, b1, b2, b3, b4, b5, b6, b7, _⟩ := ih n g1 a p 20059 (16 * (255 - f)) o2 (by omega) (by omega) a4 (by omega) (Or.inl rfl) (by rw [l58]; omega) (by rw [l58]; decide) (fun _ => by omega) (by rw [← a8, ← ed1]; exact hAl.f0) hR1 hMp1 a3 a7
        have hR2 := hR1.fr b2.1
        have hMp2 := hMp1.fr b2 (by decide) (fun r r1 r2 => by omega)
        have hsame : lst (fun j => K (o3 j)) p b = lst (fun j => K (o2 j)) p b := lst_congr (fun i i1 i2 => by rw [b4 i (by omega)])
        -- the ones
        obtain ⟨g3, o4, c1', c2', c3, c4, c5', c6, c7, _⟩ := ih n g2 p b 20059 (16 * (255 - f) + 8) o3 (by omega) (by omega) a5 hb (Or.inl rfl) (by rw [l58]; omega) (by rw [l58]; decide) (fun _ => by omega) (by rw [hsame, ← a9, ← ed1]; exact hAl.f1) hR2 hMp2 b3 b5
        have hR3 := hR2.fr c2'.1
        -- joined
        have hlen2 : 2 ≤ (lst (fun j => K (od j)) a b).length := by rw [lst_len]; omega
        have t0 : eq8 (seg (g3.1 (ad 20059)) (16 * (255 - f))) (TREE (LAT A nn_) f (lst (fun j => K (o2 j)) a p)) := by
          intro j hj
          show g3.1 (ad 20059) (16 * (255 - f) + j) = _
          rw [c7 _ (fun _ => by omega)]
          unfold putA
          rw [if_neg (by omega), b7 _ (fun _ => by omega)]
          unfold putA
          rw [if_pos (by omega)]
          congr 1
          omega
        have t1 : eq8 (seg (g3.1 (ad 20059)) (16 * (255 - f) + 8)) (TREE (LAT A nn_) f (lst (fun j => K (o2 j)) p b)) := by
          intro j hj
          show g3.1 (ad 20059) (16 * (255 - f) + 8 + j) = _
          rw [c7 _ (fun _ => by omega), hsame]
          unfold putA
          rw [if_pos (by omega)]
          congr 1
          omega
        have l43 : hpL _ (ad 20044) = 24 := hR3.l 43 (by decide) rfl
        have l44 : hpL _ (ad 20045) = 8 := hR3.l 44 (by decide) rfl
        obtain ⟨g4, d1, d2, d3⟩ := m_join (N := N) (row := ad rr) (at_ := at_) (a := ad 20059) (p := 16 * (255 - f)) (b := ad 20059) (q_ := 16 * (255 - f) + 8) (x2 := nI (16 * (255 - f))) (x4 := nI (16 * (255 - f) + 8)) (x6 := nI at_) (by omega) (hR3.mm hI) ⟨hI.ne (by omega), hI.ne (by omega), hat, hlen⟩ (hI.ne (by decide)) (hI.ne (by decide)) (by rw [l58]; omega) (by rw [l58]; decide) (by rw [l58]; omega) (by rw [l58]; decide) rfl rfl rfl
        have f4 : Fr ad (fun r => r = 20044 ∨ r = 20045 ∨ r = rr) g3 g4 := Fr.ch3 hI d2
        have fa : Fr ad (fun r => r = 20044 ∨ r = 20045 ∨ r = 20056 ∨ r = 20057 ∨ r = 20059 ∨ r = rr) g g4 := (((a2.mono (fun r h => by omega)).tr (b2.mono (fun r h => by omega))).tr (c2'.mono (fun r h => by omega))).tr (f4.mono (fun r h => by omega))
        refine ⟨g4, o4, ?_, fa, fun k hk => ?_, fun j hj => ?_, c5', ?_, fun j hj => ?_, fun hne j hj => ?_⟩
        · show b_X12_tree_0 N S (f_X12_tree N S n) g _ _ _ _ _ _ = _
          unfold b_X12_tree_0
          have p58 : rdR _ (ad 20000) 58 = some (ad 20059) := hR1.p 58 (by decide)
          have p582 : rdR _ (ad 20000) 58 = some (ad 20059) := hR2.p 58 (by decide)
          have p583 : rdR _ (ad 20000) 58 = some (ad 20059) := hR3.p 58 (by decide)
          have es : nI b - nI a = nI (b - a) := sub_one hab (by omega)
          rw [ed, es, if_neg (show ¬ nI a = nI b from fun h => c ((nI_eq (by omega) (by omega)).mp h)), if_neg (show ¬ nI (b - a) = (1 : Int32) from fun h => c1 (by have := (nI_eq (show b - a < 2 ^ 31 by omega) (show 1 < 2 ^ 31 by decide)).mp h; omega)), a1, c2_S]
          simp (disch := (first | assumption | omega | (apply Inj.ne <;> first | assumption | omega) | fail)) only [nn_S, nm_D, ck_T, c2_S, on_N, on_S, lit, mNEG, nI_add, pk_mul, inb_nI, nI_clamp, wrI_row, wrL_row, rdR_rowI, rdR_rowL, rdI_def, rdL_def, rowI_same, rowI_ne, rowI_rowI, rowL_same, rowL_ne, rowL_1, rowI_21, upd_same, upd_ne, nI_le_T, nI_le_F, nI_lt_T, nI_lt_F, nI_eq_F, nI_NEG, NEG_lt0, nI_p, eq_self, if_true, if_false, p58, p582, p583, ed1, b1, c1', d1]
        · rw [f4.I (by omega)]; exact c3 k hk
        · rw [c4 j (by omega), b4 j (by omega), a6 j (by omega)]
        · rw [lst_app (fun j => K (o4 j)) a4 a5]
          have e1 : lst (fun j => K (o4 j)) a p = lst (fun j => K (o3 j)) a p := lst_congr (fun i i1 i2 => by rw [c4 i (by omega)])
          rw [e1]
          have h1 := b6.append c6
          rw [hsame] at h1
          refine h1.trans ?_
          rw [← a8, ← a9]
          exact perm_split _ _
        · rw [d3]
          have er : ∀ z, (rr = 20059 → z < 16 * (256 - (f + 1))) → g3.1 (ad rr) z = g.1 (ad rr) z := by
            intro z hz
            by_cases e : rr = 20059
            · subst e
              have hz := hz rfl
              rw [c7 _ (fun _ => by omega)]
              unfold putA
              rw [if_neg (by omega), b7 _ (fun _ => by omega)]
              unfold putA
              rw [if_neg (by omega), a2.I (by decide)]
            · rw [c2'.I (by omega), b2.I (by omega), a2.I (by omega)]
          rw [TREE_more _ _ hlen2, a8, a9]
          have hJ : eq8 (JOIN (seg (g3.1 (ad 20059)) (16 * (255 - f))) (seg (g3.1 (ad 20059)) (16 * (255 - f) + 8))) (JOIN (TREE (LAT A nn_) f (lst (fun j => K (o2 j)) a p)) (TREE (LAT A nn_) f (lst (fun j => K (o2 j)) p b))) := JOIN_congr t0 t1
          rw [putA_eq8 hJ]
          unfold putA
          by_cases e : at_ ≤ j ∧ j < at_ + 8
          · rw [if_pos e, if_pos e]
          · rw [if_neg e, if_neg e]; exact er j hj
        · rw [f4.I (by omega), c7 _ (fun _ => by omega)]
          unfold putA
          rw [if_neg (by omega), b7 _ (fun _ => by omega)]
          unfold putA
          rw [if_neg (by omega), a2.I (by decide)]
