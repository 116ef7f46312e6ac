/-! the reference: STEPS into a SLOT -/
def RSt (g : Hg) (ad : Nat → Nat) (o s : Nat) (X : ASl) : Prop := g.1 (ad (20010 + o)) (8 * s + 1) = nI X.2.2.1 ∧ ∀ i, i < X.2.2.1 → eq8 (seg (g.1 (ad (20013 + o))) (8 * (256 * s + i))) (X.2.2.2 i)
/-- of the SLOTS, only how many STEPS slot s has, and these STEPS, are others -/
def SlF (ad : Nat → Nat) (s : Nat) (g g1 : Hg) : Prop := (∀ j, j ≠ 8 * s + 1 → g1.1 (ad 20010) j = g.1 (ad 20010) j) ∧ ∀ j, j < 2048 * s ∨ 2048 * s + 2048 ≤ j → g1.1 (ad 20013) j = g.1 (ad 20013) j
theorem SlF.tr {ad : Nat → Nat} {s : Nat} {g g1 g2 : Hg} (h : SlF ad s g g1) (h1 : SlF ad s g1 g2) : SlF ad s g g2 := ⟨fun j hj => (h1.1 j hj).trans (h.1 j hj), fun j hj => (h1.2 j hj).trans (h.2 j hj)⟩
theorem SlF.fr {ad : Nat → Nat} {s : Nat} {R : Nat → Prop} {g g1 : Hg} (h : Fr ad R g g1) (h0 : ¬ R 20010) (h1 : ¬ R 20013) : SlF ad s g g1 := ⟨fun j _ => by rw [h.I h0], fun j _ => by rw [h.I h1]⟩
theorem RSt.fr {g g1 : Hg} {ad : Nat → Nat} {o s : Nat} {X : ASl} {R : Nat → Prop} (h : RSt g ad o s X) (hf : Fr ad R g g1) (h0 : ¬ R (20010 + o)) (h1 : ¬ R (20013 + o)) : RSt g1 ad o s X := by
  unfold RSt
  rw [hf.I h0, hf.I h1]
  exact h
theorem m_step25 (N : Nat) (S : Hs) {ad : Nat → Nat} (hI : Inj ad) {s sc rr p : Nat} (hs : s < 16) (hsc : sc < 256) (h1 : rr ≠ 20010) (h2 : rr ≠ 20013) (hp : p + 8 ≤ hpL S (ad rr)) (hp2 : hpL S (ad rr) < 2 ^ 31) : ∀ (i n : Nat) (g : Hg), i ≤ 8 → i < n → RfP S g ad → g.1 (ad 20010) (8 * s + 1) = nI sc → (∀ j, j < 8 - i → g.1 (ad 20013) (8 * (256 * s + sc) + j) = g.1 (ad rr) (p + j)) →
    n_X12_step_25 N S n g (ad 20000) (nI s) (ad rr) (nI p) (nI sc) (nI (8 - i)) = some ((), rowI (rowI g (ad 20013) (putA (g.1 (ad 20013)) (8 * (256 * s + sc)) (seg (g.1 (ad rr)) p))) (ad 20010) (upd (g.1 (ad 20010)) (8 * s + 1) (nI (sc + 1)))) := by
  intro i
  induction i with
  | zero =>
    intro n g a1 a2 hR h9 hz
    obtain ⟨n, rfl⟩ : ∃ z, n = z + 1 := ⟨n - 1, by omega⟩
    have p9 : rdR _ (ad 20000) 9 = some (ad 20010) := hR.p 9 (by decide)
    have l9 : hpL _ (ad 20010) = 128 := hR.l 9 (by decide) rfl
    have e : putA (g.1 (ad 20013)) (8 * (256 * s + sc)) (seg (g.1 (ad rr)) p) = g.1 (ad 20013) := by
      funext j
      unfold putA
      by_cases c : 8 * (256 * s + sc) ≤ j ∧ j < 8 * (256 * s + sc) + 8
      · rw [if_pos c]
        have := hz (j - 8 * (256 * s + sc)) (by omega)
        rw [show 8 * (256 * s + sc) + (j - 8 * (256 * s + sc)) = j by omega] at this
        rw [this]; rfl
      · rw [if_neg c]
    rw [e, rowI_self]
    show b_X12_step_25 N S (n_X12_step_25 N S n) g _ _ _ _ _ _ = _
    unfold b_X12_step_25
    simp (disch := (first | assumption | omega | (apply Inj.ne <;> first | assumption | omega) | fail)) only [nn_S, nm_D, ck_T, c2_S, on_N, on_S, lit, mNEG, nI_add, pk_mul, inb_nI, nI_clamp, wrI_row, wrL_row, rdR_rowI, rdR_rowL, rdI_def, rdL_def, rowI_same, rowI_ne, rowI_rowI, rowL_same, rowL_ne, rowL_1, rowI_21, upd_same, upd_ne, nI_le_T, nI_le_F, nI_lt_T, nI_lt_F, nI_eq_F, nI_NEG, NEG_lt0, nI_p, eq_self, if_true, if_false, p9, l9, h9]
  | succ i ih =>
    intro n g a1 a2 hR h9 hz
    obtain ⟨n, rfl⟩ : ∃ z, n = z + 1 := ⟨n - 1, by omega⟩
    have p12 : rdR _ (ad 20000) 12 = some (ad 20013) := hR.p 12 (by decide)
    have l12 : hpL _ (ad 20013) = 32768 := hR.l 12 (by decide) rfl
    have e : 8 - (i + 1) + 1 = 8 - i := by omega
    have hi := ih n (rowI g (ad 20013) (upd (g.1 (ad 20013)) (8 * (256 * s + sc) + (8 - (i + 1))) (g.1 (ad rr) (p + (8 - (i + 1)))))) (by omega) (by omega) (hR.fr rfl) (by rw [rowI_ne _ _ (hI.ne (by decide))]; exact h9) (fun j hj => by
      rw [rowI_same, rowI_ne _ _ (hI.ne h2)]
      by_cases c : j = 8 - (i + 1)
      · rw [c, upd_same]
      · rw [upd_ne _ _ (by omega)]; exact hz j (by omega))
    show b_X12_step_25 N S (n_X12_step_25 N S n) g _ _ _ _ _ _ = _
    unfold b_X12_step_25
    simp (disch := (first | assumption | omega | (apply Inj.ne <;> first | assumption | omega) | fail)) only [nn_S, nm_D, ck_T, c2_S, on_N, on_S, lit, mNEG, nI_add, pk_mul, inb_nI, nI_clamp, wrI_row, wrL_row, rdR_rowI, rdR_rowL, rdI_def, rdL_def, rowI_same, rowI_ne, rowI_rowI, rowL_same, rowL_ne, rowL_1, rowI_21, upd_same, upd_ne, nI_le_T, nI_le_F, nI_lt_T, nI_lt_F, nI_eq_F, nI_NEG, NEG_lt0, nI_p, eq_self, if_true, if_false, p12, l12, e]
    rw [hi, rowI_rowI, rowI_same, rowI_ne _ _ (hI.ne h2), rowI_ne _ _ (hI.ne (show 20010 ≠ 20013 by decide))]
    congr 4
    funext j
    unfold putA
    by_cases c : 8 * (256 * s + sc) ≤ j ∧ j < 8 * (256 * s + sc) + 8
    · rw [if_pos c, if_pos c]
    · rw [if_neg c, if_neg c, upd_ne _ _ (by omega)]
theorem m_step {N : Nat} (hN : 40000 ≤ N) {S : Hs} {g : Hg} {ad : Nat → Nat} (hI : Inj ad) {s rr p : Nat} {X : ASl} {v : Nat → Int32} (hs : s < 16) (hsc : X.2.2.1 < 256) (h1 : rr ≠ 20010) (h2 : rr ≠ 20013) (hp : p + 8 ≤ hpL S (ad rr)) (hp2 : hpL S (ad rr) < 2 ^ 31) (hR : RfP S g ad) (hX : RSt g ad 0 s X) (hv : eq8 (seg (g.1 (ad rr)) p) v) :
    ∃ g1, f_X12_step N S g (ad 20000) (nI s) (ad rr) (nI p) = some ((), g1) ∧ Fr ad (fun r => r = 20010 ∨ r = 20013) g g1 ∧ RSt g1 ad 0 s (stepX X v) ∧ SlF ad s g g1 := by
  have p9 : rdR _ (ad 20000) 9 = some (ad 20010) := hR.p 9 (by decide)
  have l9 : hpL _ (ad 20010) = 128 := hR.l 9 (by decide) rfl
  have h9 : g.1 (ad 20010) (8 * s + 1) = nI X.2.2.1 := hX.1
  have hst := m_step25 N S hI hs hsc h1 h2 hp hp2 8 N g (Nat.le_refl _) (by omega) hR h9 (fun j hj => absurd hj (by omega))
  have e10 : (rowI (rowI g (ad 20013) (putA (g.1 (ad 20013)) (8 * (256 * s + X.2.2.1)) (seg (g.1 (ad rr)) p))) (ad 20010) (upd (g.1 (ad 20010)) (8 * s + 1) (nI (X.2.2.1 + 1)))).1 (ad 20010) = upd (g.1 (ad 20010)) (8 * s + 1) (nI (X.2.2.1 + 1)) := rowI_same _ _ _
  have e13 : (rowI (rowI g (ad 20013) (putA (g.1 (ad 20013)) (8 * (256 * s + X.2.2.1)) (seg (g.1 (ad rr)) p))) (ad 20010) (upd (g.1 (ad 20010)) (8 * s + 1) (nI (X.2.2.1 + 1)))).1 (ad 20013) = putA (g.1 (ad 20013)) (8 * (256 * s + X.2.2.1)) (seg (g.1 (ad rr)) p) := by
    rw [rowI_ne _ _ (hI.ne (by decide)), rowI_same]
  refine ⟨rowI (rowI g (ad 20013) (putA (g.1 (ad 20013)) (8 * (256 * s + X.2.2.1)) (seg (g.1 (ad rr)) p))) (ad 20010) (upd (g.1 (ad 20010)) (8 * s + 1) (nI (X.2.2.1 + 1))), ?_, Fr.rt hI (Fr.row hI (Or.inl rfl)) (Or.inr rfl), ⟨?_, fun i hi => ?_⟩, fun j hj => ?_, fun j hj => ?_⟩
  · show b_X12_step_0 N S g _ _ _ _ = _
    unfold b_X12_step_0
    simp (disch := (first | assumption | omega | (apply Inj.ne <;> first | assumption | omega) | fail)) only [nn_S, nm_D, ck_T, c2_S, on_N, on_S, lit, mNEG, nI_add, pk_mul, inb_nI, nI_clamp, wrI_row, wrL_row, rdR_rowI, rdR_rowL, rdI_def, rdL_def, rowI_same, rowI_ne, rowI_rowI, rowL_same, rowL_ne, rowL_1, rowI_21, upd_same, upd_ne, nI_le_T, nI_le_F, nI_lt_T, nI_lt_F, nI_eq_F, nI_NEG, NEG_lt0, nI_p, eq_self, if_true, if_false, p9, l9, h9]
    exact hst
  · rw [e10, upd_same]; rfl
  · have hi : i < X.2.2.1 + 1 := hi
    rw [e13]
    intro j hj
    show putA _ _ _ (8 * (256 * s + i) + j) = va_up X.2.2.2 X.2.2.1 v i j
    unfold putA
    by_cases c : i = X.2.2.1
    · subst c
      rw [if_pos (by omega), va_same]
      rw [show 8 * (256 * s + X.2.2.1) + j - 8 * (256 * s + X.2.2.1) = j by omega]
      exact hv j hj
    · rw [if_neg (by omega), va_ne _ _ c]
      exact hX.2 i (by omega) j hj
  · rw [e10, upd_ne _ _ hj]
  · rw [e13]
    unfold putA
    rw [if_neg (by omega)]
theorem m_stepLog3 {N : Nat} (hN : 40000 ≤ N) {S : Hs} {ad : Nat → Nat} (hI : Inj ad) {s l bb : Nat} {A : ALog} (hs : s < 16) (hl : l < 6) (hsz : lsz A ≤ 400) (hbb : bb ≤ lsz A) : ∀ (f n q : Nat) (g : Hg) (X : ASl), bb ≤ q + f → q ≤ bb → f < n → RfP S g ad → RLog g ad 0 l A → RSt g ad 0 s X → X.2.2.1 + nbF bb f q ≤ 256 →
    ∃ g1, n_X12_stepLog_3 N S n g (ad 20000) (nI s) (nI l) (nI bb) (nI q) = some ((), g1) ∧ Fr ad (fun r => r = 20010 ∨ r = 20013 ∨ r = 20044 ∨ r = 20045 ∨ r = 20046 ∨ r = 20052) g g1 ∧ RSt g1 ad 0 s (blkF (LSUM A) bb f q X) ∧ SlF ad s g g1 := by
  intro f
  induction f with
  | zero =>
    intro n q g X h1 h2 h3 hR hL hX hc
    obtain ⟨n, rfl⟩ : ∃ z, n = z + 1 := ⟨n - 1, by omega⟩
    refine ⟨g, ?_, Fr.rf, hX, fun j _ => rfl, fun j _ => rfl⟩
    show b_X12_stepLog_3 N S (n_X12_stepLog_3 N S n) g _ _ _ _ _ = _
    unfold b_X12_stepLog_3
    simp (disch := (first | assumption | omega | (apply Inj.ne <;> first | assumption | omega) | fail)) only [nn_S, nm_D, ck_T, c2_S, on_N, on_S, lit, mNEG, nI_add, pk_mul, inb_nI, nI_clamp, wrI_row, wrL_row, rdR_rowI, rdR_rowL, rdI_def, rdL_def, rowI_same, rowI_ne, rowI_rowI, rowL_same, rowL_ne, rowL_1, rowI_21, upd_same, upd_ne, nI_le_T, nI_le_F, nI_lt_T, nI_lt_F, nI_eq_F, nI_NEG, NEG_lt0, nI_p, eq_self, if_true, if_false]
  | succ f ih =>
    intro n q g X h1 h2 h3 hR hL hX hc
    obtain ⟨n, rfl⟩ : ∃ z, n = z + 1 := ⟨n - 1, by omega⟩
    by_cases c : q < bb
    · obtain ⟨o1, o2, o3⟩ := bl_ok c
      have hp2 : 0 < 2 ^ bl q bb := Nat.two_pow_pos _
      have hnb : nbF bb (f + 1) q = nbF bb f (q + 2 ^ bl q bb) + 1 := by
        show (if q < bb then nbF bb f (q + 2 ^ bl q bb) + 1 else 0) = _
        rw [if_pos c]
      have p51 : rdR _ (ad 20000) 51 = some (ad 20052) := hR.p 51 (by decide)
      have l51 : hpL _ (ad 20052) = 8 := hR.l 51 (by decide) rfl
      obtain ⟨g1, a1, a2, a3, a4, _⟩ := m_blockSum (N := N) (S := S) (m := ad 20000) (W := ad 20044) (A := ad 20045) (kA := ad 20003) (vA := ad 20004) (dA := ad 20046) (lg := l) (by omega) (lky A) (lvl A) (hR.l 2 (by decide) rfl) (hR.l 3 (by decide) rfl) (hR.l 45 (by decide) rfl) (hI.ne (by decide)) (hI.ne (by decide)) (hI.ne (by decide)) (hI.ne (by decide)) (hI.ne (by decide)) hl (bl q bb) 300 g q 0 (ad 20052) 0 (by omega) (by omega) o3 (hR.mm hI) (hR.p 2 (by decide)) (hR.p 3 (by decide)) (hR.p 45 (by decide)) ⟨hI.ne (by decide), hI.ne (by decide), by rw [l51]; decide, by rw [l51]; decide⟩ (hI.ne (by decide)) (fun h => absurd h (hI.ne (by decide))) (by omega) (fun i i1 i2 i3 => ⟨(hL.2.1 i (by omega)).1, (hL.2.1 i (by omega)).2.1⟩)
      have f1 : Fr ad (fun r => r = 20044 ∨ r = 20045 ∨ r = 20046 ∨ r = 20052) g g1 := ⟨by rw [a2], fun r hr => ⟨a3 _ (hI.ne (by omega)) (hI.ne (by omega)) (hI.ne (by omega)) (hI.ne (by omega)), by rw [a2]⟩⟩
      have hR1 := hR.fr f1.1
      have hv : eq8 (seg (g1.1 (ad 20052)) 0) (LSUM A q (bl q bb)) := by
        intro j hj
        show g1.1 (ad 20052) (0 + j) = _
        rw [a4 _ (fun h => absurd h (hI.ne (by decide)))]
        exact seg_putA j hj
      obtain ⟨g2, b1, b2, b3, b4⟩ := m_step (N := N) hN hI hs (show X.2.2.1 < 256 by omega) (by decide) (by decide) (show 0 + 8 ≤ hpL S (ad 20052) by rw [l51]; decide) (by rw [l51]; decide) hR1 (hX.fr f1 (by decide) (by decide)) hv
      obtain ⟨g3, c1, c2', c3, c4⟩ := ih n (q + 2 ^ bl q bb) g2 (stepX X (LSUM A q (bl q bb))) (by omega) o2 (by omega) (hR1.fr b2.1) ((hL.fm (FM.fr f1 (by decide)) (fun r _ _ => by omega)).fm (FM.fr b2 (by decide)) (fun r _ _ => by omega)) b3 (by show X.2.2.1 + 1 + _ ≤ 256; omega)
      refine ⟨g3, ?_, ((f1.mono (fun r h => by omega)).tr (b2.mono (fun r h => by omega))).tr c2', ?_, ((SlF.fr f1 (by decide) (by decide)).tr b4).tr c4⟩
      · have hblk := m_blockAt (N := N) (S := S) (g := g) (a := q) (b := bb) (by omega) rfl rfl (by omega) (by omega)
        show b_X12_stepLog_3 N S (n_X12_stepLog_3 N S n) g _ _ _ _ _ = _
        unfold b_X12_stepLog_3
        have p51' : rdR _ (ad 20000) 51 = some (ad 20052) := hR1.p 51 (by decide)
        simp (disch := (first | assumption | omega | (apply Inj.ne <;> first | assumption | omega) | fail)) only [nn_S, nm_D, ck_T, c2_S, on_N, on_S, lit, mNEG, nI_add, pk_mul, inb_nI, nI_clamp, wrI_row, wrL_row, rdR_rowI, rdR_rowL, rdI_def, rdL_def, rowI_same, rowI_ne, rowI_rowI, rowL_same, rowL_ne, rowL_1, rowI_21, upd_same, upd_ne, nI_le_T, nI_le_F, nI_lt_T, nI_lt_F, nI_eq_F, nI_NEG, NEG_lt0, nI_p, eq_self, if_true, if_false, hblk, p51, a1, p51', b1]
        exact c1
      · show RSt g3 ad 0 s (if q < bb then _ else X)
        rw [if_pos c]; exact c3
    · refine ⟨g, ?_, Fr.rf, ?_, fun j _ => rfl, fun j _ => rfl⟩
      · show b_X12_stepLog_3 N S (n_X12_stepLog_3 N S n) g _ _ _ _ _ = _
        unfold b_X12_stepLog_3
        simp (disch := (first | assumption | omega | (apply Inj.ne <;> first | assumption | omega) | fail)) only [nn_S, nm_D, ck_T, c2_S, on_N, on_S, lit, mNEG, nI_add, pk_mul, inb_nI, nI_clamp, wrI_row, wrL_row, rdR_rowI, rdR_rowL, rdI_def, rdL_def, rowI_same, rowI_ne, rowI_rowI, rowL_same, rowL_ne, rowL_1, rowI_21, upd_same, upd_ne, nI_le_T, nI_le_F, nI_lt_T, nI_lt_F, nI_eq_F, nI_NEG, NEG_lt0, nI_p, eq_self, if_true, if_false]
      · show RSt g ad 0 s (if q < bb then _ else X)
        rw [if_neg c]; exact hX
theorem m_stepLog {N : Nat} (hN : 40000 ≤ N) {S : Hs} {g : Hg} {ad : Nat → Nat} (hI : Inj ad) {s l a bb : Nat} {A : ALog} {X : ASl} (hs : s < 16) (hl : l < 6) (hsz : lsz A ≤ 400) (hab : a ≤ bb) (hbb : bb ≤ lsz A) (hR : RfP S g ad) (hL : RLog g ad 0 l A) (hX : RSt g ad 0 s X) (hc : X.2.2.1 ≤ 200) :
    ∃ g1, f_X12_stepLog N S g (ad 20000) (nI s) (nI l) (nI a) (nI bb) = some ((), g1) ∧ Fr ad (fun r => r = 20010 ∨ r = 20013 ∨ r = 20044 ∨ r = 20045 ∨ r = 20046 ∨ r = 20052) g g1 ∧ RSt g1 ad 0 s (blkX (LSUM A) a bb X) ∧ SlF ad s g g1 := by
  have := nb_le (a := a) (b := bb) (by omega)
  exact m_stepLog3 hN hI hs hl hsz hbb (bb - a) N a g X (by omega) hab (by omega) hR hL hX (by show X.2.2.1 + nb a bb ≤ 256; omega)
theorem MapM.fm {g g1 : Hg} {ad : Nat → Nat} {A : ALog} {n m : Nat} {K : Nat → Int32} {R : Nat → Prop} (h : MapM g ad A n m K) (hf : FM ad R g g1) (h0 : g1.1 (ad 20000) 57 = g.1 (ad 20000) 57) (hr : ∀ r, 20053 ≤ r → r ≤ 20055 → ¬ R r) : MapM g1 ad A n m K := by
  unfold MapM
  rw [h0, hf.I (hr 20053 (by omega) (by omega)) (by decide), hf.I (hr 20054 (by omega) (by omega)) (by decide), hf.I (hr 20055 (by omega) (by omega)) (by decide)]
  exact h
theorem m_follow25 {N : Nat} (hN : 40000 ≤ N) {S : Hs} {ad : Nat → Nat} (hI : Inj ad) {A : ALog} {nn_ M s : Nat} {K : Nat → Int32} {key : Int32} (hM : M ≤ 400) (hs : s < 16) : ∀ (f n a b : Nat) (g : Hg) (od : Nat → Nat) (X : ASl), f ≤ 256 → f < n → a ≤ b → b ≤ M → AlikeL (256 - f) (lst (fun j => K (od j)) a b) → RfP S g ad → MapM g ad A nn_ M K → OdM g ad M od → (∀ j, j < M → od j < M) → eq8 (g.1 (ad 20062)) (WAY key) → RSt g ad 0 s X → X.2.2.1 + f ≤ 256 →
    ∃ g1, n_X12_follow_25 N S n g (ad 20000) (nI s) (nI a) (nI b) (nI (256 - f)) = some ((), g1) ∧ FM ad (fun r => r = 20010 ∨ r = 20013 ∨ r = 20044 ∨ r = 20045 ∨ r = 20056 ∨ r = 20057 ∨ r = 20059 ∨ r = 20061) g g1 ∧ MapM g1 ad A nn_ M K ∧ RSt g1 ad 0 s (stepsX X (FOLS (LAT A nn_) (WAY key) f (lst (fun j => K (od j)) a b))) ∧ SlF ad s g g1 ∧
      ((∃ q, q < M ∧ g1.1 (ad 20000) 62 = nI q ∧ FOLE (WAY key) f (lst (fun j => K (od j)) a b) = [K q]) ∨ (g1.1 (ad 20000) 62 = NEG ∧ FOLE (WAY key) f (lst (fun j => K (od j)) a b) = [])) := by
  -- the end of the road
  have hend : ∀ (n a b d : Nat) (g : Hg) (od : Nat → Nat), a ≤ b → b ≤ M → b - a ≤ 1 → RfP S g ad → MapM g ad A nn_ M K → OdM g ad M od → (∀ j, j < M → od j < M) →
      ∃ g1, n_X12_follow_25 N S (n + 1) g (ad 20000) (nI s) (nI a) (nI b) (nI d) = some ((), g1) ∧ FM ad (fun r => r = 20010 ∨ r = 20013 ∨ r = 20044 ∨ r = 20045 ∨ r = 20056 ∨ r = 20057 ∨ r = 20059 ∨ r = 20061) g g1 ∧ MapM g1 ad A nn_ M K ∧ Fr ad (fun r => r = 20000) g g1 ∧
        ((∃ q, q < M ∧ g1.1 (ad 20000) 62 = nI q ∧ lst (fun j => K (od j)) a b = [K q]) ∨ (g1.1 (ad 20000) 62 = NEG ∧ lst (fun j => K (od j)) a b = [])) := by
    intro n a b d g od hab hb h1 hR hMp hO hod
    have es : nI b - nI a = nI (b - a) := sub_one hab (by omega)
    have p55 : rdR _ (ad 20000) 55 = some (ad 20056) := hR.p 55 (by decide)
    have l55 : hpL _ (ad 20056) = 400 := hR.l 55 (by decide) rfl
    by_cases c : a = b
    · subst c
      refine ⟨rowI g (ad 20000) (upd (g.1 (ad 20000)) 62 NEG), ?_, FM.set hI (by omega), ?_, Fr.row hI rfl, Or.inr ⟨by rw [rowI_same, upd_same], lst_nil _ (Nat.le_refl _)⟩⟩
      · show b_X12_follow_25 N S (n_X12_follow_25 N S n) g _ _ _ _ _ = _
        unfold b_X12_follow_25 b_X12_follow_133
        rw [es]
        simp (disch := (first | assumption | omega | (apply Inj.ne <;> first | assumption | omega) | fail)) only [nn_S, nm_D, ck_T, c2_S, on_N, on_S, lit, mNEG, nI_add, pk_mul, inb_nI, nI_clamp, wrI_row, wrL_row, rdR_rowI, rdR_rowL, rdI_def, rdL_def, rowI_same, rowI_ne, rowI_rowI, rowL_same, rowL_ne, rowL_1, rowI_21, upd_same, upd_ne, nI_le_T, nI_le_F, nI_lt_T, nI_lt_F, nI_eq_F, nI_NEG, NEG_lt0, nI_p, eq_self, if_true, if_false]
      · exact hMp.fm (FM.set (R := fun _ => False) hI (Or.inr (Or.inr (Or.inl rfl)))) (by rw [rowI_same, upd_ne _ _ (by decide)]) (fun _ _ _ => id)
    · obtain rfl : b = a + 1 := by omega
      have ho := hO a (by omega)
      refine ⟨rowI g (ad 20000) (upd (g.1 (ad 20000)) 62 (nI (od a))), ?_, FM.set hI (by omega), ?_, Fr.row hI rfl, Or.inl ⟨od a, hod a (by omega), by rw [rowI_same, upd_same], lst_one _ _⟩⟩
      · show b_X12_follow_25 N S (n_X12_follow_25 N S n) g _ _ _ _ _ = _
        unfold b_X12_follow_25 b_X12_follow_133
        rw [es]
        simp (disch := (first | assumption | omega | (apply Inj.ne <;> first | assumption | omega) | fail)) only [nn_S, nm_D, ck_T, c2_S, on_N, on_S, lit, mNEG, nI_add, pk_mul, inb_nI, nI_clamp, wrI_row, wrL_row, rdR_rowI, rdR_rowL, rdI_def, rdL_def, rowI_same, rowI_ne, rowI_rowI, rowL_same, rowL_ne, rowL_1, rowI_21, upd_same, upd_ne, nI_le_T, nI_le_F, nI_lt_T, nI_lt_F, nI_eq_F, nI_NEG, NEG_lt0, nI_p, eq_self, if_true, if_false, p55, l55, ho]
      · exact hMp.fm (FM.set (R := fun _ => False) hI (Or.inr (Or.inr (Or.inl rfl)))) (by rw [rowI_same, upd_ne _ _ (by decide)]) (fun _ _ _ => id)
  intro f
  induction f with
  | zero =>
    intro n a b g od X hf hn hab hb hAl hR hMp hO hod hW hX hc
    obtain ⟨n, rfl⟩ : ∃ z, n = z + 1 := ⟨n - 1, by omega⟩
    have hdeep := AlikeL.deep hAl
    rw [lst_len] at hdeep
    obtain ⟨g1, a1, a2, a3, a4, a5⟩ := hend n a b (256 - 0) g od hab hb hdeep hR hMp hO hod
    exact ⟨g1, a1, a2, a3, hX.fr a4 (by decide) (by decide), SlF.fr a4 (by decide) (by decide), a5⟩
  | succ f ih =>
    intro n a b g od X hf hn hab hb hAl hR hMp hO hod hW hX hc
    obtain ⟨n, rfl⟩ : ∃ z, n = z + 1 := ⟨n - 1, by omega⟩
    by_cases c : b - a ≤ 1
    · obtain ⟨g1, a1, a2, a3, a4, a5⟩ := hend n a b (256 - (f + 1)) g od hab hb c hR hMp hO hod
      have hle : (lst (fun j => K (od j)) a b).length ≤ 1 := by rw [lst_len]; exact c
      have e1 : FOLS (LAT A nn_) (WAY key) (f + 1) (lst (fun j => K (od j)) a b) = [] := by
        unfold FOLS
        rw [if_pos hle]
      have e2 : FOLE (WAY key) (f + 1) (lst (fun j => K (od j)) a b) = lst (fun j => K (od j)) a b := by
        unfold FOLE
        rw [if_pos hle]
      rw [e1, e2]
      exact ⟨g1, a1, a2, a3, hX.fr a4 (by decide) (by decide), SlF.fr a4 (by decide) (by decide), a5⟩
    · have ed : 256 - (f + 1) = 255 - f := by omega
      have ed1 : 255 - f + 1 = 256 - f := by omega
      rw [ed] at hAl
      have hgt : ¬ (lst (fun j => K (od j)) a b).length ≤ 1 := by rw [lst_len]; exact c
      have es : nI b - nI a = nI (b - a) := sub_one hab (by omega)
      have l60 : hpL _ (ad 20061) = 8 := hR.l 60 (by decide) rfl
      have l61 : hpL _ (ad 20062) = 8 := hR.l 61 (by decide) rfl
      obtain ⟨g1, p, o2, a1, a2, a3, a4, a5, a6, a7, a8, a9⟩ := m_part hN hI hM hab hb (show 255 - f < 256 by omega) hod hR hMp hO
      have hR1 := hR.fr a2.1
      have hMp1 := hMp.fr a2 (by decide) (fun r r1 r2 => by omega)
      have p61 : rdR _ (ad 20000) 61 = some (ad 20062) := hR1.p 61 (by decide)
      have p60 : rdR _ (ad 20000) 60 = some (ad 20061) := hR1.p 60 (by decide)
      have hone : f_X12_isOne N S g1 (ad 20062) (nI 0) (nI (255 - f)) = some (nI (wbit (WAY key) (255 - f)), g1) := by
        rw [m_isOne (p := 0) (d := 255 - f) rfl rfl (by omega) (by rw [l61]; decide) (by rw [l61]; decide)]
        have : eq8 (seg (g1.1 (ad 20062)) 0) (WAY key) := by
          intro j hj
          show g1.1 (ad 20062) (0 + j) = _
          rw [a2.I (by decide), Nat.zero_add]
          exact hW j hj
        rw [wbit_congr this (by omega)]
      have hlt := wbit_lt (WAY key) (255 - f)
      by_cases c1 : wbit (WAY key) (255 - f) = 1
      · rw [c1] at hone
        obtain ⟨g2, o3, b1, b2, b3, b4, b5, b6, b7, _⟩ := m_tree hN hI (A := A) (nn_ := nn_) hM f 300 g1 a p 20061 0 o2 (by omega) (by omega) a4 (by omega) (Or.inr (Or.inl ⟨by decide, by decide⟩)) (by rw [l60]; decide) (by rw [l60]; decide) (fun h => absurd h (by decide)) (by rw [← a8, ← ed1]; exact hAl.f0) hR1 hMp1 a3 a7
        have hR2 := hR1.fr b2.1
        have hMp2 := hMp1.fr b2 (by decide) (fun r r1 r2 => by omega)
        have hsame : lst (fun j => K (o3 j)) p b = lst (fun j => K (o2 j)) p b := lst_congr (fun i i1 i2 => by rw [b4 i (by omega)])
        have f12 : Fr ad (fun r => r = 20044 ∨ r = 20045 ∨ r = 20056 ∨ r = 20057 ∨ r = 20059 ∨ r = 20061) g g2 := (a2.mono (fun r h => by omega)).tr b2
        have hv : eq8 (seg (g2.1 (ad 20061)) 0) (TREE (LAT A nn_) f (lst (fun j => K (o2 j)) a p)) := by
          intro j hj
          show g2.1 (ad 20061) (0 + j) = _
          rw [b7 _ (fun h => absurd h (by decide))]
          exact seg_putA j hj
        obtain ⟨g3, c1', c2', c3, c4⟩ := m_step (N := N) hN hI hs (show X.2.2.1 < 256 by omega) (by decide) (by decide) (show 0 + 8 ≤ hpL S (ad 20061) by rw [l60]; decide) (by rw [l60]; decide) hR2 (hX.fr f12 (by decide) (by decide)) hv
        have hR3 := hR2.fr c2'.1
        obtain ⟨g4, d1, d2, d3, d4, d5, d6⟩ := ih n p b g3 o3 (stepX X (TREE (LAT A nn_) f (lst (fun j => K (o2 j)) a p))) (by omega) (by omega) a5 hb (by rw [hsame, ← a9, ← ed1]; exact hAl.f1) hR3 (hMp2.fr c2' (by decide) (fun r r1 r2 => by omega)) (fun k hk => by rw [c2'.I (by decide)]; exact b3 k hk) b5 (by rw [c2'.I (by decide), f12.I (by decide)]; exact hW) c3 (by show X.2.2.1 + 1 + f ≤ 256; omega)
        have e1 : FOLS (LAT A nn_) (WAY key) (f + 1) (lst (fun j => K (od j)) a b) = TREE (LAT A nn_) f (lst (fun j => K (o2 j)) a p) :: FOLS (LAT A nn_) (WAY key) f (lst (fun j => K (o3 j)) p b) := by
          show (if _ then _ else if _ then _ else _) = _
          rw [if_neg hgt, if_pos c1, a8, a9, hsame]
        have e2 : FOLE (WAY key) (f + 1) (lst (fun j => K (od j)) a b) = FOLE (WAY key) f (lst (fun j => K (o3 j)) p b) := by
          show (if _ then _ else if _ then _ else _) = _
          rw [if_neg hgt, if_pos c1, a9, hsame]
        rw [e1, e2]
        refine ⟨g4, ?_, ((FM.fr (f12.mono (fun r h => by omega)) (by decide)).tr (FM.fr (c2'.mono (fun r h => by omega)) (by decide))).tr d2, d3, d4, ((SlF.fr f12 (by decide) (by decide)).tr c4).tr d5, d6⟩
        have p60' : rdR _ (ad 20000) 60 = some (ad 20061) := hR2.p 60 (by decide)
        show b_X12_follow_25 N S (n_X12_follow_25 N S n) g _ _ _ _ _ = _
        unfold b_X12_follow_25 b_X12_follow_100
        rw [es, ed]
        simp (disch := (first | assumption | omega | (apply Inj.ne <;> first | assumption | omega) | fail)) only [nn_S, nm_D, ck_T, c2_S, on_N, on_S, lit, mNEG, nI_add, pk_mul, inb_nI, nI_clamp, wrI_row, wrL_row, rdR_rowI, rdR_rowL, rdI_def, rdL_def, rowI_same, rowI_ne, rowI_rowI, rowL_same, rowL_ne, rowL_1, rowI_21, upd_same, upd_ne, nI_le_T, nI_le_F, nI_lt_T, nI_lt_F, nI_eq_F, nI_NEG, NEG_lt0, nI_p, eq_self, if_true, if_false, a1, p61, hone, p60, ed1, b1, p60', c1']
        exact d1
      · have c0 : wbit (WAY key) (255 - f) = 0 := by omega
        rw [c0] at hone
        obtain ⟨g2, o3, b1, b2, b3, b4, b5, b6, b7, _⟩ := m_tree hN hI (A := A) (nn_ := nn_) hM f 300 g1 p b 20061 0 o2 (by omega) (by omega) a5 hb (Or.inr (Or.inl ⟨by decide, by decide⟩)) (by rw [l60]; decide) (by rw [l60]; decide) (fun h => absurd h (by decide)) (by rw [← a9, ← ed1]; exact hAl.f1) hR1 hMp1 a3 a7
        have hR2 := hR1.fr b2.1
        have hMp2 := hMp1.fr b2 (by decide) (fun r r1 r2 => by omega)
        have hsame : lst (fun j => K (o3 j)) a p = lst (fun j => K (o2 j)) a p := lst_congr (fun i i1 i2 => by rw [b4 i (by omega)])
        have f12 : Fr ad (fun r => r = 20044 ∨ r = 20045 ∨ r = 20056 ∨ r = 20057 ∨ r = 20059 ∨ r = 20061) g g2 := (a2.mono (fun r h => by omega)).tr b2
        have hv : eq8 (seg (g2.1 (ad 20061)) 0) (TREE (LAT A nn_) f (lst (fun j => K (o2 j)) p b)) := by
          intro j hj
          show g2.1 (ad 20061) (0 + j) = _
          rw [b7 _ (fun h => absurd h (by decide))]
          exact seg_putA j hj
        obtain ⟨g3, c1', c2', c3, c4⟩ := m_step (N := N) hN hI hs (show X.2.2.1 < 256 by omega) (by decide) (by decide) (show 0 + 8 ≤ hpL S (ad 20061) by rw [l60]; decide) (by rw [l60]; decide) hR2 (hX.fr f12 (by decide) (by decide)) hv
        have hR3 := hR2.fr c2'.1
        obtain ⟨g4, d1, d2, d3, d4, d5, d6⟩ := ih n a p g3 o3 (stepX X (TREE (LAT A nn_) f (lst (fun j => K (o2 j)) p b))) (by omega) (by omega) a4 (by omega) (by rw [hsame, ← a8, ← ed1]; exact hAl.f0) hR3 (hMp2.fr c2' (by decide) (fun r r1 r2 => by omega)) (fun k hk => by rw [c2'.I (by decide)]; exact b3 k hk) b5 (by rw [c2'.I (by decide), f12.I (by decide)]; exact hW) c3 (by show X.2.2.1 + 1 + f ≤ 256; omega)
        have e1 : FOLS (LAT A nn_) (WAY key) (f + 1) (lst (fun j => K (od j)) a b) = TREE (LAT A nn_) f (lst (fun j => K (o2 j)) p b) :: FOLS (LAT A nn_) (WAY key) f (lst (fun j => K (o3 j)) a p) := by
          show (if _ then _ else if _ then _ else _) = _
          rw [if_neg hgt, if_neg c1, a8, a9, hsame]
        have e2 : FOLE (WAY key) (f + 1) (lst (fun j => K (od j)) a b) = FOLE (WAY key) f (lst (fun j => K (o3 j)) a p) := by
          show (if _ then _ else if _ then _ else _) = _
          rw [if_neg hgt, if_neg c1, a8, hsame]
        rw [e1, e2]
        refine ⟨g4, ?_, ((FM.fr (f12.mono (fun r h => by omega)) (by decide)).tr (FM.fr (c2'.mono (fun r h => by omega)) (by decide))).tr d2, d3, d4, ((SlF.fr f12 (by decide) (by decide)).tr c4).tr d5, d6⟩
        have p60' : rdR _ (ad 20000) 60 = some (ad 20061) := hR2.p 60 (by decide)
        show b_X12_follow_25 N S (n_X12_follow_25 N S n) g _ _ _ _ _ = _
        unfold b_X12_follow_25 b_X12_follow_100
        rw [es, ed]
        simp (disch := (first | assumption | omega | (apply Inj.ne <;> first | assumption | omega) | fail)) only [nn_S, nm_D, ck_T, c2_S, on_N, on_S, lit, mNEG, nI_add, pk_mul, inb_nI, nI_clamp, wrI_row, wrL_row, rdR_rowI, rdR_rowL, rdI_def, rdL_def, rowI_same, rowI_ne, rowI_rowI, rowL_same, rowL_ne, rowL_1, rowI_21, upd_same, upd_ne, nI_le_T, nI_le_F, nI_lt_T, nI_lt_F, nI_eq_F, nI_NEG, NEG_lt0, nI_p, eq_self, if_true, if_false, a1, p61, hone, p60, ed1, b1, p60', c1']
        exact d1
theorem m_follow {N : Nat} (hN : 40000 ≤ N) {S : Hs} {g : Hg} {ad : Nat → Nat} (hI : Inj ad) {A : ALog} {n M s : Nat} {K : Nat → Int32} {X : ASl} (key : Int32) (hW : LogWf A) (hn : n ≤ lsz A) (hs : s < 16) (hR : RfP S g ad) (hMp : MapM g ad A n M K) (hO : OdM g ad M (fun z => z)) (hM : MkI A n n M K) (hX : RSt g ad 0 s X) (hc : X.2.2.1 = 0) :
    ∃ g1, f_X12_follow N S g (ad 20000) (nI s) key = some ((), g1) ∧ FM ad (fun r => r = 20010 ∨ r = 20013 ∨ r = 20044 ∨ r = 20045 ∨ r = 20056 ∨ r = 20057 ∨ r = 20059 ∨ r = 20061 ∨ r = 20062) g g1 ∧ MapM g1 ad A n M K ∧ RSt g1 ad 0 s (stepsX X (FOLS (LAT A n) (WAY key) 256 (KL A n))) ∧ SlF ad s g g1 ∧
      ((∃ q, q < M ∧ g1.1 (ad 20000) 62 = nI q ∧ FOLE (WAY key) 256 (KL A n) = [K q]) ∨ (g1.1 (ad 20000) 62 = NEG ∧ FOLE (WAY key) 256 (KL A n) = [])) := by
  have hsz := hW.1
  have hM4 : M ≤ 400 := by have := hM.1; omega
  have hnd : (lst K 0 M).Nodup := lst_nodup (fun i j _ hij hj => hM.2.1 i j hij hj)
  have hperm := MkI.perm hW hn hM
  obtain ⟨g1, a1, a2, a3⟩ := m_wayOf (N := N) (by omega) (hR.mm hI) key
  have f1 : Fr ad (fun r => r = 20044 ∨ r = 20045) g g1 := Fr.ch a2 (fun r h => h.imp (hI _ _) (hI _ _))
  have hR1 := hR.fr f1.1
  have l61 : hpL _ (ad 20062) = 8 := hR1.l 61 (by decide) rfl
  have p61 : rdR _ (ad 20000) 61 = some (ad 20062) := hR1.p 61 (by decide)
  have hto := m_toRow (N := N) (S := S) (g := g1) (m := ad 20000) (A := ad 20045) (row := ad 20062) (at_ := 0) (x2 := nI 0) (by omega) (hR1.l 44 (by decide) rfl) (hR1.p 44 (by decide)) (hI.ne (by decide)) (by rw [l61]; decide) (by rw [l61]; decide) rfl
  let g2 : Hg := rowI g1 (ad 20062) (putA (g1.1 (ad 20062)) 0 (g1.1 (ad 20045)))
  have f2 : Fr ad (fun r => r = 20044 ∨ r = 20045 ∨ r = 20062) g g2 := (f1.mono (fun r h => by omega)).tr (Fr.row hI (by omega))
  have hMp2 := hMp.fr f2 (by decide) (fun r r1 r2 => by omega)
  have hw2 : eq8 (g2.1 (ad 20062)) (WAY key) := by
    intro j hj
    show (rowI g1 _ _).1 _ j = _
    rw [rowI_same]
    unfold putA
    rw [if_pos (by omega), Nat.sub_zero]
    exact a3 j hj
  obtain ⟨g3, b1, b2, b3, b4, b5, b6⟩ := m_follow25 hN hI hM4 hs (key := key) 256 N 0 M g2 (fun z => z) X (Nat.le_refl _) (by omega) (Nat.zero_le _) (Nat.le_refl _) (by rw [Nat.sub_self]; exact AlikeL.z hnd) (hR.fr f2.1) hMp2 (fun k hk => by rw [f2.I (by decide)]; exact hO k hk) (fun j hj => hj) hw2 (hX.fr f2 (by decide) (by decide)) (by omega)
  rw [show (lst (fun j => K ((fun z => z) j)) 0 M) = lst K 0 M from rfl, FOLS_perm _ _ 256 hperm] at b4
  rw [show (lst (fun j => K ((fun z => z) j)) 0 M) = lst K 0 M from rfl, FOLE_eq _ hperm hnd] at b6
  refine ⟨g3, ?_, (FM.fr (f2.mono (fun r h => by omega)) (by decide)).tr (b2.mono (fun r h => by omega)), b3, b4, (SlF.fr f2 (by decide) (by decide)).tr b5, b6⟩
  have e57 : g2.1 (ad 20000) 57 = nI M := hMp2.1
  show b_X12_follow_0 N S g _ _ _ = _
  unfold b_X12_follow_0
  simp (disch := (first | assumption | omega | (apply Inj.ne <;> first | assumption | omega) | fail)) only [nn_S, nm_D, ck_T, c2_S, on_N, on_S, lit, mNEG, nI_add, pk_mul, inb_nI, nI_clamp, wrI_row, wrL_row, rdR_rowI, rdR_rowL, rdI_def, rdL_def, rowI_same, rowI_ne, rowI_rowI, rowL_same, rowL_ne, rowL_1, rowI_21, upd_same, upd_ne, nI_le_T, nI_le_F, nI_lt_T, nI_lt_F, nI_eq_F, nI_NEG, NEG_lt0, nI_p, eq_self, if_true, if_false, a1, p61, hto]
  rw [show rowI g1 (ad 20062) (putA (g1.1 (ad 20062)) 0 (g1.1 (ad 20045))) = g2 from rfl]
  have e57b : g1.1 (ad 20000) 57 = nI M := by rw [f1.I (by decide)]; exact hMp.1
  rw [e57b]
  exact b1
/-- what `begin` writes: slot s is of a kind, the rest of it nought -/
theorem m_begin3 (N : Nat) (S : Hs) {ad : Nat → Nat} (hI : Inj ad) {s : Nat} (hs : s < 16) (kd n_ a_ b_ : Int32) : ∀ (i n : Nat) (g : Hg), i ≤ 8 → i < n → RfP S g ad →
    ∃ r, n_X12_begin_3 N S n g (ad 20000) (nI s) kd n_ a_ b_ (nI (8 - i)) = some ((), rowI g (ad 20010) r) ∧ (∀ j, j < 8 * s ∨ 8 * s + 8 ≤ j → r j = g.1 (ad 20010) j) ∧ (r (8 * s) = kd ∧ r (8 * s + 2) = n_ ∧ r (8 * s + 3) = a_ ∧ r (8 * s + 4) = b_) ∧ ∀ j, (j = 1 ∨ 5 ≤ j ∧ j < 8) → r (8 * s + j) = if j < 8 - i then g.1 (ad 20010) (8 * s + j) else 0 := by
  intro i
  induction i with
  | zero =>
    intro n g h1 h2 hR
    obtain ⟨n, rfl⟩ : ∃ z, n = z + 1 := ⟨n - 1, by omega⟩
    have p9 : rdR _ (ad 20000) 9 = some (ad 20010) := hR.p 9 (by decide)
    have l9 : hpL _ (ad 20010) = 128 := hR.l 9 (by decide) rfl
    refine ⟨upd (upd (upd (upd (g.1 (ad 20010)) (8 * s) kd) (8 * s + 2) n_) (8 * s + 3) a_) (8 * s + 4) b_, ?_, fun j hj => ?_, ⟨?_, ?_, ?_, ?_⟩, fun j hj => ?_⟩
    · show b_X12_begin_3 N S (n_X12_begin_3 N S n) g _ _ _ _ _ _ _ = _
      unfold b_X12_begin_3
      simp (disch := (first | assumption | omega | (apply Inj.ne <;> first | assumption | omega) | fail)) only [nn_S, nm_D, ck_T, c2_S, on_N, on_S, lit, mNEG, nI_add, pk_mul, inb_nI, nI_clamp, wrI_row, wrL_row, rdR_rowI, rdR_rowL, rdI_def, rdL_def, rowI_same, rowI_ne, rowI_rowI, rowL_same, rowL_ne, rowL_1, rowI_21, upd_same, upd_ne, nI_le_T, nI_le_F, nI_lt_T, nI_lt_F, nI_eq_F, nI_NEG, NEG_lt0, nI_p, eq_self, if_true, if_false, p9, l9]
    · rw [upd_ne _ _ (by omega), upd_ne _ _ (by omega), upd_ne _ _ (by omega), upd_ne _ _ (by omega)]
    · rw [upd_ne _ _ (by omega), upd_ne _ _ (by omega), upd_ne _ _ (by omega), upd_same]
    · rw [upd_ne _ _ (by omega), upd_ne _ _ (by omega), upd_same]
    · rw [upd_ne _ _ (by omega), upd_same]
    · rw [upd_same]
    · rw [upd_ne _ _ (by omega), upd_ne _ _ (by omega), upd_ne _ _ (by omega), upd_ne _ _ (by omega), if_pos (by omega)]
  | succ i ih =>
    intro n g h1 h2 hR
    obtain ⟨n, rfl⟩ : ∃ z, n = z + 1 := ⟨n - 1, by omega⟩
    have p9 : rdR _ (ad 20000) 9 = some (ad 20010) := hR.p 9 (by decide)
    have l9 : hpL _ (ad 20010) = 128 := hR.l 9 (by decide) rfl
    have e : 8 - (i + 1) + 1 = 8 - i := by omega
    obtain ⟨r, r1, r2, r3, r4⟩ := ih n (rowI g (ad 20010) (upd (g.1 (ad 20010)) (8 * s + (8 - (i + 1))) (nI 0))) (by omega) (by omega) (hR.fr rfl)
    rw [rowI_rowI] at r1
    rw [rowI_same] at r2 r4
    refine ⟨r, ?_, fun j hj => ?_, r3, fun j hj => ?_⟩
    · show b_X12_begin_3 N S (n_X12_begin_3 N S n) g _ _ _ _ _ _ _ = _
      unfold b_X12_begin_3
      simp (disch := (first | assumption | omega | (apply Inj.ne <;> first | assumption | omega) | fail)) only [nn_S, nm_D, ck_T, c2_S, on_N, on_S, lit, mNEG, nI_add, pk_mul, inb_nI, nI_clamp, wrI_row, wrL_row, rdR_rowI, rdR_rowL, rdI_def, rdL_def, rowI_same, rowI_ne, rowI_rowI, rowL_same, rowL_ne, rowL_1, rowI_21, upd_same, upd_ne, nI_le_T, nI_le_F, nI_lt_T, nI_lt_F, nI_eq_F, nI_NEG, NEG_lt0, nI_p, eq_self, if_true, if_false, p9, l9, e]
      exact r1
    · rw [r2 j hj, upd_ne _ _ (by omega)]
    · rw [r4 j hj]
      by_cases c : j = 8 - (i + 1)
      · rw [if_pos (by omega), if_neg (by omega), c, upd_same]; rfl
      · by_cases d : j < 8 - i
        · rw [if_pos d, if_pos (by omega), upd_ne _ _ (by omega)]
        · rw [if_neg d, if_neg (by omega)]
theorem m_begin {N : Nat} (hN : 40000 ≤ N) {S : Hs} {g : Hg} {ad : Nat → Nat} (hI : Inj ad) {s : Nat} (hs : s < 16) (kd n_ a_ b_ : Int32) (hR : RfP S g ad) :
    ∃ r, f_X12_begin N S g (ad 20000) (nI s) kd n_ a_ b_ = some ((), rowI g (ad 20010) r) ∧ (∀ j, j < 8 * s ∨ 8 * s + 8 ≤ j → r j = g.1 (ad 20010) j) ∧ (r (8 * s) = kd ∧ r (8 * s + 2) = n_ ∧ r (8 * s + 3) = a_ ∧ r (8 * s + 4) = b_) ∧ ∀ j, (j = 1 ∨ 5 ≤ j ∧ j < 8) → r (8 * s + j) = 0 := by
  obtain ⟨r, r1, r2, r3, r4⟩ := m_begin3 N S hI hs kd n_ a_ b_ 8 N g (Nat.le_refl _) (by omega) hR
  exact ⟨r, r1, r2, r3, fun j hj => by rw [r4 j hj, if_neg (by omega)]⟩
