/-! watch -/
theorem cntB_lst (P : Int32 → Bool) (f : Nat → Int32) : ∀ k, cntB (fun z => P (f z)) k = ((lst f 0 k).filter P).length
  | 0 => by rw [lst_nil _ (Nat.le_refl _)]; rfl
  | k + 1 => by
    rw [lst_snoc f (Nat.zero_le k), List.filter_append, List.length_append, ← cntB_lst P f k]
    show (if P (f k) = true then _ else _) = _
    cases h : P (f k)
    · rw [if_neg (by decide)]
      simp [List.filter, h]
    · rw [if_pos rfl]
      simp [List.filter, h]
theorem unlW_lst (A : ALog) (n : Nat) (W : AWt) : ∀ q, unlW A n W q = ((lst (lK A) 0 q).filter (fun key => decide (W.2.2.2.1 key ≠ NEG ∧ W.2.2.2.1 key ≠ LAT A n key))).length
  | 0 => by rw [lst_nil _ (Nat.le_refl _)]; rfl
  | q + 1 => by
    rw [lst_snoc (lK A) (Nat.zero_le q), List.filter_append, List.length_append, ← unlW_lst A n W q]
    show (if W.2.2.2.1 (lK A q) = NEG ∨ W.2.2.2.1 (lK A q) = LAT A n (lK A q) then _ else _) = _
    by_cases h : W.2.2.2.1 (lK A q) = NEG ∨ W.2.2.2.1 (lK A q) = LAT A n (lK A q)
    · rw [if_pos h]
      have hd : decide (W.2.2.2.1 (lK A q) ≠ NEG ∧ W.2.2.2.1 (lK A q) ≠ LAT A n (lK A q)) = false := decide_eq_false (fun c => h.elim c.1 c.2)
      simp only [List.filter, hd]
      rfl
    · rw [if_neg h]
      have hd : decide (W.2.2.2.1 (lK A q) ≠ NEG ∧ W.2.2.2.1 (lK A q) ≠ LAT A n (lK A q)) = true := decide_eq_true ⟨fun c => h (Or.inl c), fun c => h (Or.inr c)⟩
      simp only [List.filter, hd]
      rfl
theorem unl_eq {A : ALog} {n : Nat} {W : AWt} (hL : LogWf A) (hW : WtWf A W) : cntB (fun z => decide (LAT A n (W.2.2.2.2 z) ≠ W.2.2.2.1 (W.2.2.2.2 z))) W.2.2.1.2 = unlW A n W (lks A) := by
  rw [cntB_lst (fun key => decide (LAT A n key ≠ W.2.2.2.1 key)) W.2.2.2.2, unlW_lst]
  apply List.Perm.length_eq
  obtain ⟨w1, w2, w3, w4, w5⟩ := hW
  have hO := hL.2.2.2.2.1.1
  rw [List.perm_ext_iff_of_nodup]
  · intro key
    rw [List.mem_filter, List.mem_filter, lst_mem, lst_mem]
    constructor
    · rintro ⟨⟨k, _, k2, k3⟩, hp⟩
      have hne : W.2.2.2.1 key ≠ NEG := by rw [← k3]; exact w2 k k2
      obtain ⟨i, i1, i2⟩ := w5 key hne
      have hn := hL.2.2.2.2.1.2.1 i (by omega)
      refine ⟨⟨lnu A i, by omega, hn.1, hn.2.trans i2⟩, ?_⟩
      have hp' := of_decide_eq_true hp
      exact decide_eq_true ⟨hne, fun e => hp' e.symm⟩
    · rintro ⟨⟨q, _, q2, q3⟩, hp⟩
      have hp' := of_decide_eq_true hp
      obtain ⟨k, k1, k2⟩ := w4 key hp'.1
      exact ⟨⟨k, by omega, k1, k2⟩, decide_eq_true (fun e => hp'.2 e.symm)⟩
  · exact (lst_nodup (fun i j _ hij hj => w3 i j hij hj)).filter _
  · exact (lst_nodup (fun i j _ hij hj => hO.2.1 i j hij hj)).filter _
theorem e5 (w : Nat) : (5 : Int32) * nI w = nI (5 * w) := pk_mul 5 w
theorem e400 (w : Nat) : (400 : Int32) * nI w = nI (400 * w) := pk_mul 400 w
theorem m_w113 {N : Nat} {S : Hs} {g : Hg} {ad : Nat → Nat} {w l i cnt : Nat} {wk : Nat → Int32} (key : Int32) (hw : w < 8) (hc : cnt ≤ 400) (hR : RfP S g ad) (v4 : g.1 (ad 20018) (5 * w + 4) = nI cnt) (hk : ∀ k, k < cnt → g.1 (ad 20020) (400 * w + k) = wk k) (k39 : Hg → Nat → Int32 → Int32 → Int32 → Option (Int32 × Hg)) : ∀ (f n k : Nat), k + f = cnt → f < n → (∀ z, z < k → wk z ≠ key) →
    ∃ k1, k1 ≤ cnt ∧ n_X12_watch_113 N S k39 n g (ad 20000) (nI w) (nI l) (nI i) key (nI k) = b_X12_watch_152 N S k39 g (ad 20000) (nI w) (nI l) (nI i) key (nI k1) ∧ (∀ z, z < k1 → wk z ≠ key) ∧ (k1 < cnt → wk k1 = key) := by
  have p17 : rdR _ (ad 20000) 17 = some (ad 20018) := hR.p 17 (by decide)
  have l17 : hpL _ (ad 20018) = 40 := hR.l 17 (by decide) rfl
  have p19 : rdR _ (ad 20000) 19 = some (ad 20020) := hR.p 19 (by decide)
  have l19 : hpL _ (ad 20020) = 3200 := hR.l 19 (by decide) rfl
  intro f
  induction f with
  | zero =>
    intro n k h1 h2 h3
    obtain ⟨n, rfl⟩ : ∃ z, n = z + 1 := ⟨n - 1, by omega⟩
    refine ⟨k, by omega, ?_, h3, fun h => absurd h (by omega)⟩
    have : k = cnt := by omega
    subst this
    show b_X12_watch_113 N S k39 _ g _ _ _ _ _ _ = _
    unfold b_X12_watch_113
    rw [p17, nn_S, e5, show nI (5 * w) + (4 : Int32) = nI (5 * w + 4) from nI_add _ 4, l17, inb_nI (by omega) (by decide), ck_T, nI_clamp (by omega), rdI_def, v4, if_pos (nI_le (Nat.le_refl _) (by omega))]
  | succ f ih =>
    intro n k h1 h2 h3
    obtain ⟨n, rfl⟩ : ∃ z, n = z + 1 := ⟨n - 1, by omega⟩
    have vk := hk k (by omega)
    have hs : n_X12_watch_113 N S k39 (n + 1) g (ad 20000) (nI w) (nI l) (nI i) key (nI k) = if wk k = key then b_X12_watch_152 N S k39 g (ad 20000) (nI w) (nI l) (nI i) key (nI k) else n_X12_watch_113 N S k39 n g (ad 20000) (nI w) (nI l) (nI i) key (nI (k + 1)) := by
      show b_X12_watch_113 N S k39 (n_X12_watch_113 N S k39 n) g _ _ _ _ _ _ = _
      unfold b_X12_watch_113
      rw [p17, nn_S, e5, show nI (5 * w) + (4 : Int32) = nI (5 * w + 4) from nI_add _ 4, l17, inb_nI (by omega) (by decide), ck_T, nI_clamp (by omega), rdI_def, v4, if_neg (nI_ge (by omega) (by omega)), p19, nn_S, e400, nI_add, l19, inb_nI (by omega) (by decide), ck_T, nI_clamp (by omega), rdI_def, vk, nm_D, show nI k + 1 = nI (k + 1) from nI_add k 1]
    by_cases c : wk k = key
    · refine ⟨k, by omega, by rw [hs, if_pos c], h3, fun _ => c⟩
    · obtain ⟨k1, a1, a2, a3, a4⟩ := ih n (k + 1) (by omega) (by omega) (fun z hz => by
        by_cases d : z = k
        · subst d; exact c
        · exact h3 z (by omega))
      exact ⟨k1, a1, by rw [hs, if_neg c]; exact a2, a3, a4⟩
theorem m_w152 {N : Nat} {S : Hs} {g : Hg} {ad : Nat → Nat} (hI : Inj ad) {w l i k1 : Nat} {A : ALog} {W : AWt} (hw : w < 8) (hi : i < 400) (hWf : WtWf A W) (hcn : W.2.2.1.2 < 400) (hR : RfP S g ad) (hX : RWx g ad w W) (k39 : Hg → Nat → Int32 → Int32 → Int32 → Option (Int32 × Hg)) (h1 : k1 ≤ W.2.2.1.2) (h2 : ∀ z, z < k1 → W.2.2.2.2 z ≠ lky A i) (h3 : k1 < W.2.2.1.2 → W.2.2.2.2 k1 = lky A i) :
    ∃ g1, b_X12_watch_152 N S k39 g (ad 20000) (nI w) (nI l) (nI i) (lky A i) (nI k1) = k39 g1 (ad 20000) (nI w) (nI l) (nI (i + 1)) ∧ Fr ad (fun r => r = 20018 ∨ r = 20020 ∨ r = 20021) g g1 ∧ RWx g1 ad w (notW A i W) ∧ WtG ad w g g1 := by
  have p17 : rdR _ (ad 20000) 17 = some (ad 20018) := hR.p 17 (by decide)
  have l17 : hpL _ (ad 20018) = 40 := hR.l 17 (by decide) rfl
  have p19 : rdR _ (ad 20000) 19 = some (ad 20020) := hR.p 19 (by decide)
  have l19 : hpL _ (ad 20020) = 3200 := hR.l 19 (by decide) rfl
  have p20 : rdR _ (ad 20000) 20 = some (ad 20021) := hR.p 20 (by decide)
  have l20 : hpL _ (ad 20021) = 3200 := hR.l 20 (by decide) rfl
  obtain ⟨x0, ⟨x1, x2, x3, x4⟩, x5⟩ := hX
  obtain ⟨w1, w2, w3, w4, w5⟩ := hWf
  by_cases c : k1 = W.2.2.1.2
  · have hneg : W.2.2.2.1 (lky A i) = NEG := by
      apply Classical.byContradiction
      intro hc
      obtain ⟨k, kk1, kk2⟩ := w4 _ hc
      exact h2 k (by omega) kk2
    have hnot : notW A i W = (W.1, W.2.1, (W.2.2.1.1, W.2.2.1.2 + 1), (fun z => if z = lky A i then nI i else W.2.2.2.1 z, upd W.2.2.2.2 W.2.2.1.2 (lky A i))) := by
      unfold notW
      rw [if_pos hneg, if_pos hneg]
    rw [hnot]
    generalize hcnt : W.2.2.1.2 = cnt at *
    subst c
    let g1 : Hg := rowI (rowI (rowI g (ad 20020) (upd (g.1 (ad 20020)) (400 * w + k1) (lky A i))) (ad 20018) (upd (g.1 (ad 20018)) (5 * w + 4) (nI (k1 + 1)))) (ad 20021) (upd (g.1 (ad 20021)) (400 * w + k1) (nI i))
    have f1 : Fr ad (fun r => r = 20018 ∨ r = 20020 ∨ r = 20021) g g1 := Fr.rt hI (Fr.rt hI (Fr.row hI (by omega)) (by omega)) (by omega)
    have e1 : g1.1 (ad 20018) = upd (g.1 (ad 20018)) (5 * w + 4) (nI (k1 + 1)) := by simp (disch := (first | assumption | omega | (apply Inj.ne <;> first | assumption | omega) | fail)) only [nn_S, nm_D, ck_T, c2_S, on_N, on_S, lit, mNEG, nI_add, pk_mul, inb_nI, nI_clamp, wrI_row, wrL_row, rdR_rowI, rdR_rowL, rdI_def, rdL_def, rowI_same, rowI_ne, rowI_rowI, rowL_same, rowL_ne, rowL_1, rowI_21, upd_same, upd_ne, nI_le_T, nI_le_F, nI_lt_T, nI_lt_F, nI_eq_F, nI_NEG, NEG_lt0, nI_p, eq_self, if_true, if_false, g1]
    have e2 : g1.1 (ad 20020) = upd (g.1 (ad 20020)) (400 * w + k1) (lky A i) := by simp (disch := (first | assumption | omega | (apply Inj.ne <;> first | assumption | omega) | fail)) only [nn_S, nm_D, ck_T, c2_S, on_N, on_S, lit, mNEG, nI_add, pk_mul, inb_nI, nI_clamp, wrI_row, wrL_row, rdR_rowI, rdR_rowL, rdI_def, rdL_def, rowI_same, rowI_ne, rowI_rowI, rowL_same, rowL_ne, rowL_1, rowI_21, upd_same, upd_ne, nI_le_T, nI_le_F, nI_lt_T, nI_lt_F, nI_eq_F, nI_NEG, NEG_lt0, nI_p, eq_self, if_true, if_false, g1]
    have e3 : g1.1 (ad 20021) = upd (g.1 (ad 20021)) (400 * w + k1) (nI i) := by simp (disch := (first | assumption | omega | (apply Inj.ne <;> first | assumption | omega) | fail)) only [nn_S, nm_D, ck_T, c2_S, on_N, on_S, lit, mNEG, nI_add, pk_mul, inb_nI, nI_clamp, wrI_row, wrL_row, rdR_rowI, rdR_rowL, rdI_def, rdL_def, rowI_same, rowI_ne, rowI_rowI, rowL_same, rowL_ne, rowL_1, rowI_21, upd_same, upd_ne, nI_le_T, nI_le_F, nI_lt_T, nI_lt_F, nI_eq_F, nI_NEG, NEG_lt0, nI_p, eq_self, if_true, if_false, g1]
    refine ⟨g1, ?_, f1, ⟨by rw [f1.I (by omega)]; exact x0, ⟨?_, ?_, ?_, ?_⟩, fun k hk => ?_⟩, ⟨fun j hj => by rw [e1, upd_ne _ _ (by omega)], fun j _ => by rw [f1.I (by omega)], fun j hj => ⟨by rw [e2, upd_ne _ _ (by omega)], by rw [e3, upd_ne _ _ (by omega)]⟩⟩⟩
    · unfold b_X12_watch_152
      simp (disch := (first | assumption | omega | (apply Inj.ne <;> first | assumption | omega) | fail)) only [nn_S, nm_D, ck_T, c2_S, on_N, on_S, lit, mNEG, nI_add, pk_mul, inb_nI, nI_clamp, wrI_row, wrL_row, rdR_rowI, rdR_rowL, rdI_def, rdL_def, rowI_same, rowI_ne, rowI_rowI, rowL_same, rowL_ne, rowL_1, rowI_21, upd_same, upd_ne, nI_le_T, nI_le_F, nI_lt_T, nI_lt_F, nI_eq_F, nI_NEG, NEG_lt0, nI_p, eq_self, if_true, if_false, p17, l17, x4, p19, l19]
      unfold b_X12_watch_196
      simp (disch := (first | assumption | omega | (apply Inj.ne <;> first | assumption | omega) | fail)) only [nn_S, nm_D, ck_T, c2_S, on_N, on_S, lit, mNEG, nI_add, pk_mul, inb_nI, nI_clamp, wrI_row, wrL_row, rdR_rowI, rdR_rowL, rdI_def, rdL_def, rowI_same, rowI_ne, rowI_rowI, rowL_same, rowL_ne, rowL_1, rowI_21, upd_same, upd_ne, nI_le_T, nI_le_F, nI_lt_T, nI_lt_F, nI_eq_F, nI_NEG, NEG_lt0, nI_p, eq_self, if_true, if_false, p20, l20]
      rfl
    · rw [e1, upd_ne _ _ (by omega)]; exact x1
    · rw [e1, upd_ne _ _ (by omega)]; exact x2
    · rw [e1, upd_ne _ _ (by omega)]; exact x3
    · rw [e1, upd_same]
    · have hk : k < k1 + 1 := hk
      show g1.1 (ad 20020) (400 * w + k) = upd W.2.2.2.2 k1 (lky A i) k ∧ g1.1 (ad 20021) (400 * w + k) = (if upd W.2.2.2.2 k1 (lky A i) k = lky A i then nI i else W.2.2.2.1 (upd W.2.2.2.2 k1 (lky A i) k))
      rw [e2, e3]
      by_cases d : k = k1
      · subst d
        rw [upd_same, upd_same, upd_same, if_pos rfl]
        exact ⟨rfl, rfl⟩
      · rw [upd_ne _ _ (show 400 * w + k ≠ 400 * w + k1 by omega), upd_ne _ _ (show 400 * w + k ≠ 400 * w + k1 by omega), upd_ne _ _ d, if_neg (h2 k (by omega))]
        exact x5 k (by omega)
  · have hlt : k1 < W.2.2.1.2 := by omega
    have hkey := h3 hlt
    have hneg : ¬ W.2.2.2.1 (lky A i) = NEG := by rw [← hkey]; exact w2 k1 hlt
    have hnot : notW A i W = (W.1, W.2.1, (W.2.2.1.1, W.2.2.1.2), (fun z => if z = lky A i then nI i else W.2.2.2.1 z, W.2.2.2.2)) := by
      unfold notW
      rw [if_neg hneg, if_neg hneg]
    rw [hnot]
    let g1 : Hg := rowI g (ad 20021) (upd (g.1 (ad 20021)) (400 * w + k1) (nI i))
    have f1 : Fr ad (fun r => r = 20021) g g1 := Fr.row hI rfl
    have e3 : g1.1 (ad 20021) = upd (g.1 (ad 20021)) (400 * w + k1) (nI i) := rowI_same _ _ _
    refine ⟨g1, ?_, f1.mono (fun r hr => by omega), ⟨by rw [f1.I (by omega)]; exact x0, ⟨?_, ?_, ?_, ?_⟩, fun k hk => ?_⟩, ⟨fun j hj => by rw [f1.I (by omega)], fun j _ => by rw [f1.I (by omega)], fun j hj => ⟨by rw [f1.I (by omega)], by rw [e3, upd_ne _ _ (by omega)]⟩⟩⟩
    · unfold b_X12_watch_152
      simp (disch := (first | assumption | omega | (apply Inj.ne <;> first | assumption | omega) | fail)) only [nn_S, nm_D, ck_T, c2_S, on_N, on_S, lit, mNEG, nI_add, pk_mul, inb_nI, nI_clamp, wrI_row, wrL_row, rdR_rowI, rdR_rowL, rdI_def, rdL_def, rowI_same, rowI_ne, rowI_rowI, rowL_same, rowL_ne, rowL_1, rowI_21, upd_same, upd_ne, nI_le_T, nI_le_F, nI_lt_T, nI_lt_F, nI_eq_F, nI_NEG, NEG_lt0, nI_p, eq_self, if_true, if_false, p17, l17, x4]
      unfold b_X12_watch_196
      simp (disch := (first | assumption | omega | (apply Inj.ne <;> first | assumption | omega) | fail)) only [nn_S, nm_D, ck_T, c2_S, on_N, on_S, lit, mNEG, nI_add, pk_mul, inb_nI, nI_clamp, wrI_row, wrL_row, rdR_rowI, rdR_rowL, rdI_def, rdL_def, rowI_same, rowI_ne, rowI_rowI, rowL_same, rowL_ne, rowL_1, rowI_21, upd_same, upd_ne, nI_le_T, nI_le_F, nI_lt_T, nI_lt_F, nI_eq_F, nI_NEG, NEG_lt0, nI_p, eq_self, if_true, if_false, p20, l20]
      rfl
    · rw [f1.I (by omega)]; exact x1
    · rw [f1.I (by omega)]; exact x2
    · rw [f1.I (by omega)]; exact x3
    · rw [f1.I (by omega)]; exact x4
    · have hk : k < W.2.2.1.2 := hk
      show g1.1 (ad 20020) (400 * w + k) = W.2.2.2.2 k ∧ g1.1 (ad 20021) (400 * w + k) = (if W.2.2.2.2 k = lky A i then nI i else W.2.2.2.1 (W.2.2.2.2 k))
      rw [f1.I (by omega), e3]
      refine ⟨(x5 k hk).1, ?_⟩
      by_cases d : k = k1
      · subst d
        rw [upd_same, if_pos hkey]
      · rw [upd_ne _ _ (by omega), if_neg (fun e => by
          have e2 : W.2.2.2.2 k = W.2.2.2.2 k1 := e.trans hkey.symm
          rcases Nat.lt_or_gt_of_ne d with hl | hl
          · exact w3 k k1 hl hlt e2
          · exact w3 k1 k hl hk e2.symm)]
        exact (x5 k hk).2
/-- the reference reads on -/
theorem m_w39 {N : Nat} (hN : 40000 ≤ N) {S : Hs} {ad : Nat → Nat} (hI : Inj ad) {w l : Nat} {A : ALog} (hw : w < 8) (hl : l < 6) (hL : LogWf A) : ∀ (f n : Nat) (g : Hg) (W : AWt), W.2.2.1.1 + f = lsz A → f < n → WtWf A W → RfP S g ad → RLog g ad 0 l A → RWx g ad w W →
    ∃ g1, n_X12_watch_39 N S n g (ad 20000) (nI w) (nI l) (nI W.2.2.1.1) = nn (rdR g1 (ad 20000) 17) (fun a_4 => c2 (f_X12_many N S g1 (ad 20000) (nI l)) (fun x_6 g_5 => ck (inb (((5 : Int32) * nI w) + (3 : Int32)) (hpL S a_4)) (nm (wrI g_5 a_4 (((5 : Int32) * nI w) + (3 : Int32)).toNatClampNeg x_6) (fun g_7 => c2 (f_X12_many N S g_7 (ad 20000) (nI l)) (fun x_9 g_8 => c2 (f_X12_map N S g_8 (ad 20000) (nI l) x_9) (fun u_11 g_10 => n_X12_watch_246 N S N g_10 (ad 20000) (nI w) (0 : Int32) (0 : Int32))))))) ∧ Fr ad (fun r => r = 20018 ∨ r = 20020 ∨ r = 20021) g g1 ∧ RWx g1 ad w (rdW A f W) ∧ WtG ad w g g1 := by
  have hsz := hL.1
  intro f
  induction f with
  | zero =>
    intro n g W h1 h2 hWf hR hG hX
    obtain ⟨n, rfl⟩ : ∃ z, n = z + 1 := ⟨n - 1, by omega⟩
    refine ⟨g, ?_, Fr.rf, hX, WtG.rf⟩
    have hm := m_many (N := N) hl hR hG
    show b_X12_watch_39 N S _ g _ _ _ _ = _
    unfold b_X12_watch_39
    rw [hm, c2_S, if_pos (nI_le (by omega) (by omega)), hm]
  | succ f ih =>
    intro n g W h1 h2 hWf hR hG hX
    obtain ⟨n, rfl⟩ : ∃ z, n = z + 1 := ⟨n - 1, by omega⟩
    have hm := m_many (N := N) hl hR hG
    generalize hp : W.2.2.1.1 = i at *
    have hi : i < lsz A := by omega
    obtain ⟨vk, vv, vg, vq⟩ := hG.2.1 i hi
    have vk : g.1 (ad 20003) (400 * l + i) = lky A i := vk
    have vg : g.1 (ad 20005) (400 * l + i) = bI (lft A i == 2) := vg
    have x1 := hX.2.1.2.1
    have x2 := hX.2.1.2.2.1
    have p2 : rdR _ (ad 20000) 2 = some (ad 20003) := hR.p 2 (by decide)
    have l2 : hpL _ (ad 20003) = 2400 := hR.l 2 (by decide) rfl
    have p4 : rdR _ (ad 20000) 4 = some (ad 20005) := hR.p 4 (by decide)
    have l4 : hpL _ (ad 20005) = 2400 := hR.l 4 (by decide) rfl
    have p17 : rdR _ (ad 20000) 17 = some (ad 20018) := hR.p 17 (by decide)
    have l17 : hpL _ (ad 20018) = 40 := hR.l 17 (by decide) rfl
    have hwf1 := rd1W_wf hWf (by omega) hsz
    have hpos := (rd1W_pos A W).2.2
    rw [hp] at hpos
    have step : ∀ g1, n_X12_watch_39 N S (n + 1) g (ad 20000) (nI w) (nI l) (nI i) = n_X12_watch_39 N S n g1 (ad 20000) (nI w) (nI l) (nI (i + 1)) → Fr ad (fun r => r = 20018 ∨ r = 20020 ∨ r = 20021) g g1 → RWx g1 ad w (rd1W A W) → WtG ad w g g1 → ∃ g1, n_X12_watch_39 N S (n + 1) g (ad 20000) (nI w) (nI l) (nI i) = nn (rdR g1 (ad 20000) 17) (fun a_4 => c2 (f_X12_many N S g1 (ad 20000) (nI l)) (fun x_6 g_5 => ck (inb (((5 : Int32) * nI w) + (3 : Int32)) (hpL S a_4)) (nm (wrI g_5 a_4 (((5 : Int32) * nI w) + (3 : Int32)).toNatClampNeg x_6) (fun g_7 => c2 (f_X12_many N S g_7 (ad 20000) (nI l)) (fun x_9 g_8 => c2 (f_X12_map N S g_8 (ad 20000) (nI l) x_9) (fun u_11 g_10 => n_X12_watch_246 N S N g_10 (ad 20000) (nI w) (0 : Int32) (0 : Int32))))))) ∧ Fr ad (fun r => r = 20018 ∨ r = 20020 ∨ r = 20021) g g1 ∧ RWx g1 ad w (rdW A (f + 1) W) ∧ WtG ad w g g1 := fun g1 e1 e2 e3 e4 => by
      have hG1 : RLog g1 ad 0 l A := hG.eq (fun r r1 r2 => ⟨e2.I (by omega), e2.L (by omega)⟩)
      obtain ⟨g2, a1, a2, a3, a4⟩ := ih n g1 (rd1W A W) (by omega) (by omega) hwf1 (hR.fr e2.1) hG1 e3
      rw [hpos] at a1
      exact ⟨g2, e1.trans a1, e2.tr a2, a3, e4.tr a4⟩
    have hb : n_X12_watch_39 N S (n + 1) g (ad 20000) (nI w) (nI l) (nI i) = if bI (lft A i == 2) = (0 : Int32) then (if lky A i < W.2.1.2.1 then n_X12_watch_39 N S n g (ad 20000) (nI w) (nI l) (nI (i + 1)) else (if lky A i ≤ W.2.1.2.2 then n_X12_watch_113 N S (n_X12_watch_39 N S n) N g (ad 20000) (nI w) (nI l) (nI i) (lky A i) (nI 0) else n_X12_watch_39 N S n g (ad 20000) (nI w) (nI l) (nI (i + 1)))) else n_X12_watch_39 N S n g (ad 20000) (nI w) (nI l) (nI (i + 1)) := by
      show b_X12_watch_39 N S (n_X12_watch_39 N S n) g _ _ _ _ = _
      unfold b_X12_watch_39
      rw [hm, c2_S, if_neg (nI_ge hi (by omega))]
      simp (disch := (first | assumption | omega | (apply Inj.ne <;> first | assumption | omega) | fail)) only [nn_S, nm_D, ck_T, c2_S, on_N, on_S, lit, mNEG, nI_add, pk_mul, inb_nI, nI_clamp, wrI_row, wrL_row, rdR_rowI, rdR_rowL, rdI_def, rdL_def, rowI_same, rowI_ne, rowI_rowI, rowL_same, rowL_ne, rowL_1, rowI_21, upd_same, upd_ne, nI_le_T, nI_le_F, nI_lt_T, nI_lt_F, nI_eq_F, nI_NEG, NEG_lt0, nI_p, eq_self, if_true, if_false, p2, l2, vk, p4, l4, vg, p17, l17, x1, x2]
    have skip : (¬ (lft A i ≠ 2 ∧ ¬ lky A i < W.2.1.2.1 ∧ ¬ W.2.1.2.2 < lky A i)) → RWx g ad w (rd1W A W) := fun hc => by
      unfold rd1W
      rw [hp, if_neg hc]
      exact hX
    by_cases cg : lft A i = 2
    · rw [cg, if_neg (show ¬ bI (2 == 2) = (0 : Int32) from z10)] at hb
      exact step g hb Fr.rf (skip (fun c => c.1 cg)) WtG.rf
    rw [show (lft A i == 2) = false from beq_false_of_ne cg, if_pos (show bI false = (0 : Int32) from rfl)] at hb
    by_cases cl : lky A i < W.2.1.2.1
    · rw [if_pos cl] at hb
      exact step g hb Fr.rf (skip (fun c => c.2.1 cl)) WtG.rf
    rw [if_neg cl] at hb
    by_cases ch : lky A i ≤ W.2.1.2.2
    rotate_left
    · rw [if_neg ch] at hb
      exact step g hb Fr.rf (skip (fun c => c.2.2 (Int32.not_le.mp ch))) WtG.rf
    rw [if_pos ch] at hb
    have hcn : W.2.2.1.2 < 400 := by have := hWf.cnt; omega
    obtain ⟨k1, a1, a2, a3, a4⟩ := m_w113 (N := N) (l := l) (i := i) (lky A i) hw (by omega) hR hX.2.1.2.2.2 (fun k hk => (hX.2.2 k hk).1) (n_X12_watch_39 N S n) W.2.2.1.2 N 0 (by omega) (by omega) (fun z hz => absurd hz (by omega))
    obtain ⟨g1, b1, b2, b3, b4⟩ := m_w152 (N := N) (l := l) hI hw (by omega) hWf hcn hR hX (n_X12_watch_39 N S n) a1 a3 a4
    refine step g1 (hb.trans (a2.trans b1)) b2 ?_ b4
    unfold rd1W
    rw [hp, if_pos ⟨cg, cl, Int32.not_lt.mpr ch⟩]
    exact b3
theorem m_w246 {N : Nat} (hN : 40000 ≤ N) {S : Hs} {g : Hg} {ad : Nat → Nat} {w n_ M : Nat} {A : ALog} {W : AWt} {K : Nat → Int32} (hw : w < 8) (hc : W.2.2.1.2 ≤ 400) (hM : M ≤ 400) (hn : ∀ k, k < W.2.2.1.2 → W.2.2.2.1 (W.2.2.2.2 k) ≠ NEG) (hR : RfP S g ad) (hX : RWx g ad w W) (hMp : MapM g ad A n_ M K) (hMk : MkI A n_ n_ M K) : ∀ (f n k : Nat), k + f = W.2.2.1.2 → f < n →
    n_X12_watch_246 N S n g (ad 20000) (nI w) (nI (cntB (fun z => decide (LAT A n_ (W.2.2.2.2 z) ≠ W.2.2.2.1 (W.2.2.2.2 z))) k)) (nI k) = some (nI (cntB (fun z => decide (LAT A n_ (W.2.2.2.2 z) ≠ W.2.2.2.1 (W.2.2.2.2 z))) W.2.2.1.2), g) := by
  have p17 : rdR _ (ad 20000) 17 = some (ad 20018) := hR.p 17 (by decide)
  have l17 : hpL _ (ad 20018) = 40 := hR.l 17 (by decide) rfl
  have p19 : rdR _ (ad 20000) 19 = some (ad 20020) := hR.p 19 (by decide)
  have l19 : hpL _ (ad 20020) = 3200 := hR.l 19 (by decide) rfl
  have p20 : rdR _ (ad 20000) 20 = some (ad 20021) := hR.p 20 (by decide)
  have l20 : hpL _ (ad 20021) = 3200 := hR.l 20 (by decide) rfl
  have p53 : rdR _ (ad 20000) 53 = some (ad 20054) := hR.p 53 (by decide)
  have l53 : hpL _ (ad 20054) = 400 := hR.l 53 (by decide) rfl
  have v4 := hX.2.1.2.2.2
  intro f
  induction f with
  | zero =>
    intro n k h1 h2
    obtain ⟨n, rfl⟩ : ∃ z, n = z + 1 := ⟨n - 1, by omega⟩
    have hk : k = W.2.2.1.2 := by omega
    show b_X12_watch_246 N S _ g _ _ _ _ = _
    unfold b_X12_watch_246
    rw [p17, nn_S, e5, show nI (5 * w) + (4 : Int32) = nI (5 * w + 4) from nI_add _ 4, l17, inb_nI (by omega) (by decide), ck_T, nI_clamp (by omega), rdI_def, v4, if_pos (nI_le (by omega) (by omega)), hk]
  | succ f ih =>
    intro n k h1 h2
    obtain ⟨n, rfl⟩ : ∃ z, n = z + 1 := ⟨n - 1, by omega⟩
    have hk : k < W.2.2.1.2 := by omega
    obtain ⟨vk, vl⟩ := hX.2.2 k hk
    have ih' := ih n (k + 1) (by omega) (by omega)
    have pre : ∀ v, (c2 (f_X12_find N S g (ad 20000) (W.2.2.2.2 k)) (fun x_5 g_4 => if x_5 = (-1 : Int32) then nm (nI (cntB (fun z => decide (LAT A n_ (W.2.2.2.2 z) ≠ W.2.2.2.1 (W.2.2.2.2 z))) k) + 1) (fun x_7 => nm (nI k + 1) (fun x_8 => n_X12_watch_246 N S n g_4 (ad 20000) (nI w) x_7 x_8)) else nn (rdR g_4 (ad 20000) 53) (fun a_9 => ck (inb x_5 (hpL S a_9)) (nn (rdR g_4 (ad 20000) 20) (fun a_10 => ck (inb (nI (400 * w + k)) (hpL S a_10)) (if (rdI g_4 a_9 x_5.toNatClampNeg) = (rdI g_4 a_10 (400 * w + k)) then nm (nI k + 1) (fun x_12 => n_X12_watch_246 N S n g_4 (ad 20000) (nI w) (nI (cntB (fun z => decide (LAT A n_ (W.2.2.2.2 z) ≠ W.2.2.2.1 (W.2.2.2.2 z))) k)) x_12) else nm (nI (cntB (fun z => decide (LAT A n_ (W.2.2.2.2 z) ≠ W.2.2.2.1 (W.2.2.2.2 z))) k) + 1) (fun x_13 => nm (nI k + 1) (fun x_14 => n_X12_watch_246 N S n g_4 (ad 20000) (nI w) x_13 x_14))))))) = v) → n_X12_watch_246 N S (n + 1) g (ad 20000) (nI w) (nI (cntB (fun z => decide (LAT A n_ (W.2.2.2.2 z) ≠ W.2.2.2.1 (W.2.2.2.2 z))) k)) (nI k) = v := fun v hv => by
      show b_X12_watch_246 N S (n_X12_watch_246 N S n) g _ _ _ _ = _
      unfold b_X12_watch_246
      rw [p17, nn_S, e5, show nI (5 * w) + (4 : Int32) = nI (5 * w + 4) from nI_add _ 4, l17, inb_nI (by omega) (by decide), ck_T, nI_clamp (by omega), rdI_def, v4, if_neg (nI_ge hk (by omega)), p19, nn_S, e400, nI_add, l19, inb_nI (by omega) (by decide), ck_T, nI_clamp (by omega), rdI_def, vk]
      exact hv
    have cS : ∀ b, decide (LAT A n_ (W.2.2.2.2 k) ≠ W.2.2.2.1 (W.2.2.2.2 k)) = b → cntB (fun z => decide (LAT A n_ (W.2.2.2.2 z) ≠ W.2.2.2.1 (W.2.2.2.2 z))) (k + 1) = if b = true then cntB (fun z => decide (LAT A n_ (W.2.2.2.2 z) ≠ W.2.2.2.1 (W.2.2.2.2 z))) k + 1 else cntB (fun z => decide (LAT A n_ (W.2.2.2.2 z) ≠ W.2.2.2.1 (W.2.2.2.2 z))) k := fun b hb => by
      rw [← hb]; rfl
    refine pre _ ?_
    rcases m_find (N := N) hN (W.2.2.2.2 k) hM hR hMp.1 hMp.2.1 with ⟨z, q1, q2, q3⟩ | ⟨q1, q3⟩
    · have vz : g.1 (ad 20054) z = LAT A n_ (W.2.2.2.2 k) := by rw [hMp.2.2.1 z q1, q2]
      rw [q3, c2_S, if_neg (show ¬ nI z = (-1 : Int32) from fun e => absurd (show nI z = NEG from e) (by rw [nI_NEG (by omega)]; exact id)), p53, nn_S, l53, inb_nI (by omega) (by decide), ck_T, p20, nn_S, l20, inb_nI (by omega) (by decide), ck_T, nI_clamp (by omega), rdI_def, rdI_def, vz, vl]
      by_cases c : LAT A n_ (W.2.2.2.2 k) = W.2.2.2.1 (W.2.2.2.2 k)
      · rw [if_pos c, nm_D, show nI k + 1 = nI (k + 1) from nI_add k 1]
        rw [cS false (decide_eq_false (fun h => h c)), if_neg (by decide)] at ih'
        exact ih'
      · rw [if_neg c, nm_D, nm_D, show nI k + 1 = nI (k + 1) from nI_add k 1, show ∀ z, nI z + 1 = nI (z + 1) from fun z => nI_add z 1]
        rw [cS true (decide_eq_true c), if_pos rfl] at ih'
        exact ih'
    · have hneg : LAT A n_ (W.2.2.2.2 k) = NEG := by
        apply Classical.byContradiction
        intro hc
        obtain ⟨z, z1, z2⟩ := hMk.2.2.2 _ hc
        exact q1 z z1 z2
      rw [q3, c2_S, if_pos (show NEG = (-1 : Int32) from rfl), nm_D, nm_D, show nI k + 1 = nI (k + 1) from nI_add k 1, show ∀ z, nI z + 1 = nI (z + 1) from fun z => nI_add z 1]
      rw [cS true (decide_eq_true (fun e => hn k hk (e.symm.trans hneg))), if_pos rfl] at ih'
      exact ih'
theorem t_watch {B N : Nat} (hN : 40000 ≤ N) {S : Hs} {g : Hg} {ad : Nat → Nat} {m : Nat × Nat} {h : AHo} {kc : AKp} (hJ : Jn B S g ad m h kc) (x1 : Int32) : StN B S g ad m kc (fun g => f_X11_watch N S g (ad 0) x1) (fun g => f_X12_watch N S g (ad 20000) x1) := by
  obtain ⟨hC, hR, hW, hK⟩ := id hJ
  have h6 := hW.1
  have hI := hC.inj
  have nl := hR.nl
  have none_ : ∀ y, f_X1_watcherAt N S g (ad 100) y = some (none, g) → f_X12_watch N S g (ad 20000) y = some (NEG, g) → StN B S g ad m kc (fun g => f_X11_watch N S g (ad 0) y) (fun g => f_X12_watch N S g (ad 20000) y) := fun y e1 e2 => by
    refine StN.same hJ (r := NEG) ?_ e2
    show b_X11_watch_0 N S g _ _ = _
    unfold b_X11_watch_0
    rw [hC.p3, nn_S, e1, c2_S, on_N]
    rfl
  have bad : x1 < 0 ∨ nI 8 ≤ x1 → StN B S g ad m kc (fun g => f_X11_watch N S g (ad 0) x1) (fun g => f_X12_watch N S g (ad 20000) x1) := fun hx => none_ x1 (c_watcherAtF hx) (by
    show b_X12_watch_0 N S g _ _ = _
    unfold b_X12_watch_0
    rw [m_isWatcherF hx, c2_S, if_pos z00]
    rfl)
  rcases pk_ix x1 (show 8 < 2 ^ 31 by decide) with c | c | ⟨w, hw, rfl⟩
  · exact bad (Or.inl c)
  · exact bad (Or.inr c)
  cases ht : (h.2.2.2.2 w).1 with
  | false =>
    have vh := (hR.wt hw).1
    rw [ht] at vh
    have p18 : rdR _ (ad 20000) 18 = some (ad 20019) := hR.1.p 18 (by decide)
    have l18 : hpL _ (ad 20019) = 8 := hR.1.l 18 (by decide) rfl
    refine none_ (nI w) (hC.watN hw ht) ?_
    show b_X12_watch_0 N S g _ _ = _
    unfold b_X12_watch_0
    rw [m_isWatcherT hw, c2_S, if_neg z10, p18, nn_S, l18, inb_nI hw (by decide), ck_T, nI_clamp (by omega), rdI_def, vh, if_pos (show bI false = (0 : Int32) from rfl)]
    rfl
  | true =>
    obtain ⟨l, hl, l2, hWf⟩ := hW.2.2.2 w hw ht
    have el : wlg (h.2.2.2.2 w) = l := wlg_eq (by omega) l2
    have hO := (hC.wto hw).2
    rw [el] at hO
    have hA := hC.clo hl
    have hsz := hA.2.2.1
    have hl6 : l < 6 := by omega
    generalize hWd : h.2.2.2.2 w = W at *
    generalize hAd : h.1.2 l = A at *
    have hpos := hWf.1
    obtain ⟨g1, a1, a2, a3, a4⟩ := c_readOn (N := N) hN hI (b := 600 + 2 * w) (c := 200 + 20 * l) (by omega) ht hWf hA hO
    obtain ⟨z1, z2, z3⟩ := rdW_pos A (lsz A - W.2.2.1.1) W
    have hX := hR.wt hw
    rw [hWd] at hX
    obtain ⟨hx0, hx1⟩ := hX
    have hx1 := hx1 ht
    generalize hW1d : rdW A (lsz A - W.2.2.1.1) W = W1 at *
    have hA1 := hA.fr a2 (fun r r1 r2 => by omega)
    obtain ⟨g2, m1, ins1, b1, b2, b3, b4⟩ := c_read (N := N) hN hI (b := 200 + 20 * l) (by omega) hA.2.2 (n := lsz A) rfl (Nat.le_refl _) (hC.sc.fr a2.1) hA1.1 hA1.2.1.2.2.2.2.2.2.1 hA1.2.1.2.1 hA1.2.1.2.2.2.2.2.1
    have hA2 := hA1.fr b2 (fun r r1 r2 => by omega)
    have hO2 := a3.fr b2 (fun r r1 r2 => by omega)
    have hS2 := (hC.sc.fr a2.1).fr b2.1
    have hks : lks A ≤ 400 := hA.2.2.2.2.2.2.1.1.1
    have hun := c_unlike (N := N) hN (n_ := lsz A) (W := W1) hks (z1.trans ht) hS2 b3 hO2
    have f2 : Fr ad (fun r => 2 ≤ r ∧ r ≤ 15 ∨ 600 + 2 * w ≤ r ∧ r < 602 + 2 * w) g g2 := (a2.mono (fun r hr => by omega)).tr (b2.mono (fun r hr => by omega))
    have hR2 := hR.fr f2 (fun r hr => by omega)
    have hG2 := hR2.lg hl
    rw [hAd] at hG2
    have hX2 := hR2.wt hw
    rw [hWd] at hX2
    have hXx : RWx g2 ad w W := by
      obtain ⟨q0, q1⟩ := hX2
      obtain ⟨⟨y0, y1, y2, y3, y4⟩, y5⟩ := q1 ht
      exact ⟨q0, ⟨y0, y1, y2, y4⟩, y5⟩
    have y3 : g2.1 (ad 20018) (5 * w + 3) = nI W.2.2.1.1 := (hX2.2 ht).1.2.2.2.1
    have y0 : g2.1 (ad 20018) (5 * w) = nI l := (hX2.2 ht).1.1.trans l2
    have vh : g2.1 (ad 20019) w = bI true := by rw [← ht]; exact hX2.1
    obtain ⟨g3, c1, c2', c3, c4⟩ := m_w39 (N := N) hN hI hw hl6 hA.2.2 (lsz A - W.2.2.1.1) N g2 W (by omega) (by omega) hWf hR2.1 hG2 hXx
    rw [hW1d] at c3
    have hR3 : RfP S g3 ad := hR2.1.fr c2'.1
    have hG3 : RLog g3 ad 0 l A := hG2.eq (fun r r1 r2 => ⟨c2'.I (by omega), c2'.L (by omega)⟩)
    let g4 : Hg := rowI g3 (ad 20018) (upd (g3.1 (ad 20018)) (5 * w + 3) (nI (lsz A)))
    have f4 : Fr ad (fun r => r = 20018) g3 g4 := Fr.row hI rfl
    have e4 : g4.1 (ad 20018) = upd (g3.1 (ad 20018)) (5 * w + 3) (nI (lsz A)) := rowI_same _ _ _
    have hR4 : RfP S g4 ad := hR3.fr f4.1
    have hG4 : RLog g4 ad 0 l A := hG3.eq (fun r r1 r2 => ⟨f4.I (by omega), f4.L (by omega)⟩)
    have hX4 : RWx g4 ad w W1 := by
      obtain ⟨q0, ⟨q1, q2, q3, q4⟩, q5⟩ := c3
      refine ⟨by rw [f4.I (by omega)]; exact q0, ⟨?_, ?_, ?_, ?_⟩, ?_⟩
      · rw [e4, upd_ne _ _ (by omega)]; exact q1
      · rw [e4, upd_ne _ _ (by omega)]; exact q2
      · rw [e4, upd_ne _ _ (by omega)]; exact q3
      · rw [e4, upd_ne _ _ (by omega)]; exact q4
      · rw [f4.I (by omega), f4.I (by omega)]; exact q5
    obtain ⟨g5, M, K, d1, d2, d3, d4, d5, d6⟩ := m_map (N := N) hN hI hl6 hA.2.2 (Nat.le_refl _) hR4 hG4
    have hM : M ≤ 400 := by have := d6.1; omega
    have hX5 := hX4.fm d2 (fun r r1 r2 => by omega)
    have hR5 : RfP S g5 ad := hR4.fr d2.1.1
    have hc1 := a4.cnt
    have hc2 := a4.1
    have h246 := m_w246 (N := N) hN hw (by omega) hM a4.2.1 hR5 hX5 d4 d6 W1.2.2.1.2 N 0 (by omega) (by omega)
    have hueq := unl_eq (n := lsz A) hA.2.2 a4
    have hp1 : W1.2.2.1.1 = lsz A := by omega
    have hXf : RW1 g5 ad w W1 := by
      obtain ⟨q0, ⟨q1, q2, q3, q4⟩, q5⟩ := hX5
      refine ⟨q0, fun _ => ⟨⟨q1, q2, q3, ?_, q4⟩, q5⟩⟩
      rw [d2.I (by omega) (by omega), e4, upd_same, hp1]
    have hGf : WtG ad w g2 g5 := (c4.tr (g2 := g4) ⟨fun j hj => by rw [e4, upd_ne _ _ (by omega)], fun j _ => by rw [f4.I (by omega)], fun j _ => ⟨by rw [f4.I (by omega)], by rw [f4.I (by omega)]⟩⟩).tr (WtG.fm d2 (fun r r1 r2 => by omega))
    have hFf : FM ad (fun r => 20018 ≤ r ∧ r ≤ 20021 ∨ 20044 ≤ r) g2 g5 := ((FM.fr (c2'.mono (fun r hr => by omega)) (by omega)).tr (FM.fr (f4.mono (fun r hr => by omega)) (by omega))).tr (d2.mono (fun r hr => by omega))
    have el1 : wlg W1 = l := wlg_eq (by omega) (by rw [z2]; exact l2)
    have hOf : WtO S g2 ad (600 + 2 * w) (h.1.2 (wlg W1)) W1 := by rw [el1, hAd]; exact hO2
    have hWW : WtW h W1 := fun _ => ⟨l, hl, by rw [z2]; exact l2, by rw [hAd]; exact a4⟩
    refine ⟨nI (unlW A (lsz A) W1 (lks A)), g2, g5, setW h w W1, ?_, ?_, (hC.wat hw f2 (fun r hr => hr) hOf).fr hFf.1 (fun r hr => by omega), hR2.wat hJ.wc hFf (fun r hr => hr) hXf hGf, hW.wat hWW, hK⟩
    · have u2 : g.1 (ad (600 + 2 * w)) 2 = nI l := (hO.2.2 ht).1.1.trans l2
      have p1 : rdR g1 (ad 0) 1 = some (ad 4) := by rw [a2.P]; exact hC.sc.2.2.2.2.2.1
      have p1' : rdR g2 (ad 0) 1 = some (ad 4) := by rw [b2.P]; exact p1
      have v7 : g1.1 (ad (200 + 20 * l)) 7 = nI (lsz A) := hA1.2.1.1.2
      have v3 : g2.1 (ad (200 + 20 * l + 1)) 3 = nI (lks A) := hA2.2.1.2.2.2.2.2.1.1
      have htw : (h.2.2.2.2 w).1 = true := by rw [hWd]; exact ht
      show b_X11_watch_0 N S g _ _ = _
      unfold b_X11_watch_0
      rw [hC.p3, nn_S, hC.watT hw htw, c2_S, on_S, hC.p3, nn_S, rdI_def, u2, hC.logAt hl, c2_S, on_S, a1, c2_S, p1, nn_S, rdI_def, v7, b1, c2_S, p1', nn_S, hA2.1.1.1, nn_S, rdI_def, v3, hun, c2_S]
    · have p17 : rdR _ (ad 20000) 17 = some (ad 20018) := hR2.1.p 17 (by decide)
      have l17 : hpL _ (ad 20018) = 40 := hR2.1.l 17 (by decide) rfl
      have p18 : rdR _ (ad 20000) 18 = some (ad 20019) := hR2.1.p 18 (by decide)
      have l18 : hpL _ (ad 20019) = 8 := hR2.1.l 18 (by decide) rfl
      have p17' : rdR _ (ad 20000) 17 = some (ad 20018) := hR3.p 17 (by decide)
      have hm3 := m_many (N := N) hl6 hR3 hG3
      have hm4 := m_many (N := N) hl6 hR4 hG4
      show b_X12_watch_0 N S g2 _ _ = _
      unfold b_X12_watch_0
      rw [m_isWatcherT hw, c2_S, if_neg z10, p18, nn_S, l18, inb_nI hw (by decide), ck_T, nI_clamp (by omega), rdI_def, vh, if_neg (show ¬ bI true = (0 : Int32) from z10)]
      simp (disch := (first | assumption | omega | (apply Inj.ne <;> first | assumption | omega) | fail)) only [nn_S, nm_D, ck_T, c2_S, on_N, on_S, lit, mNEG, nI_add, pk_mul, inb_nI, nI_clamp, wrI_row, wrL_row, rdR_rowI, rdR_rowL, rdI_def, rdL_def, rowI_same, rowI_ne, rowI_rowI, rowL_same, rowL_ne, rowL_1, rowI_21, upd_same, upd_ne, nI_le_T, nI_le_F, nI_lt_T, nI_lt_F, nI_eq_F, nI_NEG, NEG_lt0, nI_p, eq_self, if_true, if_false, p17, l17, y0, y3]
      rw [c1, p17', nn_S, hm3, c2_S, e5, show nI (5 * w) + (3 : Int32) = nI (5 * w + 3) from nI_add _ 3, l17, inb_nI (by omega) (by decide), ck_T, nI_clamp (by omega), nm_D, wrI_row, show rowI g3 (ad 20018) (upd (g3.1 (ad 20018)) (5 * w + 3) (nI (lsz A))) = g4 from rfl, hm4, c2_S, d1, c2_S, ← hueq]
      exact h246
