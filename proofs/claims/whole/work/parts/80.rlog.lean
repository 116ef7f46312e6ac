/-! the reference: LOGS, the words of keepers, the MAP -/
/-- nothing changes but the rows R and the four small ints of the reference -/
def FM (ad : Nat → Nat) (R : Nat → Prop) (g g1 : Hg) : Prop := Fr ad (fun r => R r ∨ r = 20000) g g1 ∧ ∀ k, k ≠ 49 → k ≠ 57 → k ≠ 62 → k ≠ 63 → g1.1 (ad 20000) k = g.1 (ad 20000) k
theorem FM.rf {ad : Nat → Nat} {R : Nat → Prop} {g : Hg} : FM ad R g g := ⟨Fr.rf, fun _ _ _ _ _ => rfl⟩
theorem FM.tr {ad : Nat → Nat} {R : Nat → Prop} {g g1 g2 : Hg} (h : FM ad R g g1) (h1 : FM ad R g1 g2) : FM ad R g g2 := ⟨h.1.tr h1.1, fun k a b c d => (h1.2 k a b c d).trans (h.2 k a b c d)⟩
theorem FM.mono {ad : Nat → Nat} {R Q : Nat → Prop} {g g1 : Hg} (h : FM ad R g g1) (hq : ∀ r, R r → Q r) : FM ad Q g g1 := ⟨h.1.mono (fun r hr => hr.imp (hq r) id), h.2⟩
theorem FM.fr {ad : Nat → Nat} {R : Nat → Prop} {g g1 : Hg} (h : Fr ad R g g1) (h0 : ¬ R 20000) : FM ad R g g1 := ⟨h.mono (fun r hr => Or.inl hr), fun k _ _ _ _ => by rw [h.I h0]⟩
theorem FM.set {ad : Nat → Nat} (hI : Inj ad) {R : Nat → Prop} {g : Hg} {k : Nat} {x : Int32} (hk : k = 49 ∨ k = 57 ∨ k = 62 ∨ k = 63) : FM ad R g (rowI g (ad 20000) (upd (g.1 (ad 20000)) k x)) := ⟨Fr.row hI (Or.inr rfl), fun j a b c d => by rw [rowI_same, upd_ne _ _ (by omega)]⟩
theorem FM.I {ad : Nat → Nat} {R : Nat → Prop} {g g1 : Hg} (h : FM ad R g g1) {r : Nat} (hr : ¬ R r) (h0 : r ≠ 20000) : g1.1 (ad r) = g.1 (ad r) := h.1.I (fun c => c.elim hr h0)
theorem FM.L {ad : Nat → Nat} {R : Nat → Prop} {g g1 : Hg} (h : FM ad R g g1) {r : Nat} (hr : ¬ R r) (h0 : r ≠ 20000) : g1.2.1 (ad r) = g.2.1 (ad r) := h.1.L (fun c => c.elim hr h0)
def RS (r : Nat) : Prop := 20044 ≤ r ∧ r ≤ 20066
def RLog (g : Hg) (ad : Nat → Nat) (o l : Nat) (A : ALog) : Prop :=
  (g.1 (ad (20001 + o)) (4 * l) = lkp A ∧ g.1 (ad (20001 + o)) (4 * l + 1) = nI (lsz A) ∧ g.1 (ad (20001 + o)) (4 * l + 2) = nI (hidC A true (lmk A)) ∧ g.1 (ad (20001 + o)) (4 * l + 3) = nI (hidC A false (lmk A))) ∧
  (∀ i, i < lsz A → g.1 (ad (20003 + o)) (400 * l + i) = lky A i ∧ g.2.1 (ad (20004 + o)) (400 * l + i) = lvl A i ∧ g.1 (ad (20005 + o)) (400 * l + i) = bI (lft A i == 2) ∧ g.1 (ad (20006 + o)) (400 * l + i) = bI (lft A i == 1)) ∧
  (∀ k, k < lmk A → g.1 (ad (20007 + o)) (100 * l + k) = mky A k ∧ g.1 (ad (20008 + o)) (100 * l + k) = nI (msi A k) ∧ g.1 (ad (20009 + o)) (100 * l + k) = bI (mhi A k))
theorem hidC_sum (A : ALog) : ∀ k, hidC A true k + hidC A false k = k
  | 0 => rfl
  | k + 1 => by
    have := hidC_sum A k
    unfold hidC
    cases mhi A k
    · rw [if_neg (by decide), if_pos rfl]; omega
    · rw [if_pos rfl, if_neg (by decide)]; omega
theorem RLog.eq {g g1 : Hg} {ad ad1 : Nat → Nat} {o l : Nat} {A : ALog} (h : RLog g ad o l A) (e : ∀ r, 20001 + o ≤ r → r ≤ 20009 + o → g1.1 (ad1 r) = g.1 (ad r) ∧ g1.2.1 (ad1 r) = g.2.1 (ad r)) : RLog g1 ad1 o l A := by
  unfold RLog
  rw [(e (20001 + o) (by omega) (by omega)).1, (e (20003 + o) (by omega) (by omega)).1, (e (20004 + o) (by omega) (by omega)).2, (e (20005 + o) (by omega) (by omega)).1, (e (20006 + o) (by omega) (by omega)).1, (e (20007 + o) (by omega) (by omega)).1, (e (20008 + o) (by omega) (by omega)).1, (e (20009 + o) (by omega) (by omega)).1]
  exact h
theorem RLog.fm {g g1 : Hg} {ad : Nat → Nat} {o l : Nat} {A : ALog} {R : Nat → Prop} (h : RLog g ad o l A) (hf : FM ad R g g1) (hR : ∀ r, 20001 + o ≤ r → r ≤ 20009 + o → ¬ R r) : RLog g1 ad o l A := h.eq (fun r r1 r2 => ⟨hf.I (hR r r1 r2) (by omega), hf.L (hR r r1 r2) (by omega)⟩)
theorem m_word25 {N : Nat} {S : Hs} {g : Hg} {ad : Nat → Nat} {l : Nat} {A : ALog} (key : Int32) (hl : l < 6) (hm : lmk A ≤ 100) (hR : RfP S g ad) (hL : RLog g ad 0 l A) : ∀ (f n k : Nat), k + f = lmk A → f < n → MW A key k = none →
    n_X12_word_25 N S n g (ad 20000) (nI l) key (nI (lmk A)) (nI k) = some ((match MW A key (lmk A) with | some w => nI (100 * l + w) | none => NEG), g) := by
  have p6 := hR.p 6 (by decide)
  have l6 := hR.l 6 (by decide) (n := 600) rfl
  intro f
  induction f with
  | zero =>
    intro n k h1 h2 hk
    obtain ⟨n, rfl⟩ : ∃ z, n = z + 1 := ⟨n - 1, by omega⟩
    obtain rfl : k = lmk A := by omega
    rw [hk]
    show b_X12_word_25 N S (n_X12_word_25 N S n) g _ _ _ _ _ = _
    unfold b_X12_word_25
    simp (disch := (first | assumption | omega | (apply Inj.ne <;> first | assumption | omega) | fail)) only [nn_S, nm_D, ck_T, c2_S, on_N, on_S, lit, mNEG, nI_add, pk_mul, inb_nI, nI_clamp, wrI_row, wrL_row, rdR_rowI, rdR_rowL, rdI_def, rdL_def, rowI_same, rowI_ne, rowI_rowI, rowL_same, rowL_ne, rowL_1, rowI_21, upd_same, upd_ne, nI_le_T, nI_le_F, nI_lt_T, nI_lt_F, nI_eq_F, nI_NEG, NEG_lt0, nI_p, eq_self, if_true, if_false]
  | succ f ih =>
    intro n k h1 h2 hk
    obtain ⟨n, rfl⟩ : ∃ z, n = z + 1 := ⟨n - 1, by omega⟩
    have hk1 := (hL.2.2 k (by omega)).1
    have hst : n_X12_word_25 N S (n + 1) g (ad 20000) (nI l) key (nI (lmk A)) (nI k) = if mky A k = key then some (nI (100 * l + k), g) else n_X12_word_25 N S n g (ad 20000) (nI l) key (nI (lmk A)) (nI (k + 1)) := by
      show b_X12_word_25 N S (n_X12_word_25 N S n) g _ _ _ _ _ = _
      unfold b_X12_word_25
      simp (disch := (first | assumption | omega | (apply Inj.ne <;> first | assumption | omega) | fail)) only [nn_S, nm_D, ck_T, c2_S, on_N, on_S, lit, mNEG, nI_add, pk_mul, inb_nI, nI_clamp, wrI_row, wrL_row, rdR_rowI, rdR_rowL, rdI_def, rdL_def, rowI_same, rowI_ne, rowI_rowI, rowL_same, rowL_ne, rowL_1, rowI_21, upd_same, upd_ne, nI_le_T, nI_le_F, nI_lt_T, nI_lt_F, nI_eq_F, nI_NEG, NEG_lt0, nI_p, eq_self, if_true, if_false, p6, l6, hk1]
    rw [hst]
    by_cases c : mky A k = key
    · have hs : MW A key (k + 1) = some k := by
        unfold MW
        rw [hk]
        simp only [if_pos c]
      have hall : ∀ j, MW A key (k + 1 + j) = some k := by
        intro j
        induction j with
        | zero => exact hs
        | succ j ihj =>
          show MW A key ((k + 1 + j) + 1) = _
          unfold MW
          rw [ihj]
      have := hall (lmk A - (k + 1))
      rw [show k + 1 + (lmk A - (k + 1)) = lmk A by omega] at this
      rw [if_pos c, this]
    · rw [if_neg c]
      refine ih n (k + 1) (by omega) (by omega) ?_
      unfold MW
      rw [hk]
      simp only [if_neg c]
theorem m_word {N : Nat} (hN : 40000 ≤ N) {S : Hs} {g : Hg} {ad : Nat → Nat} {l : Nat} {A : ALog} (key : Int32) (hl : l < 6) (hm : lmk A ≤ 100) (hR : RfP S g ad) (hL : RLog g ad 0 l A) : f_X12_word N S g (ad 20000) (nI l) key = some ((match MW A key (lmk A) with | some w => nI (100 * l + w) | none => NEG), g) := by
  have p0 := hR.p 0 (by decide)
  have l0 := hR.l 0 (by decide) (n := 24) rfl
  have hs := hidC_sum A (lmk A)
  obtain ⟨_, _, h2, h3⟩ := hL.1
  have key2 := m_word25 (N := N) key hl hm hR hL (lmk A) N 0 (by omega) (by omega) rfl
  show b_X12_word_0 N S g (ad 20000) (nI l) key = _
  unfold b_X12_word_0
  simp (disch := (first | assumption | omega | (apply Inj.ne <;> first | assumption | omega) | fail)) only [nn_S, nm_D, ck_T, c2_S, on_N, on_S, lit, mNEG, nI_add, pk_mul, inb_nI, nI_clamp, wrI_row, wrL_row, rdR_rowI, rdR_rowL, rdI_def, rdL_def, rowI_same, rowI_ne, rowI_rowI, rowL_same, rowL_ne, rowL_1, rowI_21, upd_same, upd_ne, nI_le_T, nI_le_F, nI_lt_T, nI_lt_F, nI_eq_F, nI_NEG, NEG_lt0, nI_p, eq_self, if_true, if_false, p0, l0, h2, h3, hs]
  exact key2
theorem m_counts {N : Nat} (hN : 40000 ≤ N) {S : Hs} {g : Hg} {ad : Nat → Nat} {l n i : Nat} {A : ALog} (hl : l < 6) (hW : LogWf A) (hn : n ≤ lsz A) (hi : i < lsz A) (hR : RfP S g ad) (hL : RLog g ad 0 l A) : f_X12_counts N S g (ad 20000) (nI l) (nI n) (nI i) = some (bI (CNT A n i), g) := by
  have hsz := hW.1
  have hm := hW.2.1
  have p2 := hR.p 2 (by decide)
  have l2 := hR.l 2 (by decide) (n := 2400) rfl
  have p7 := hR.p 7 (by decide)
  have l7 := hR.l 7 (by decide) (n := 600) rfl
  have p8 := hR.p 8 (by decide)
  have l8 := hR.l 8 (by decide) (n := 600) rfl
  have hk := (hL.2.1 i hi).1
  have hw := m_word hN (lky A i) hl hm hR hL
  have hCn : CNT A n i = match MW A (lky A i) (lmk A) with
    | none => true
    | some w => if n < msi A w then true else !mhi A w && decide (i < msi A w) := rfl
  show b_X12_counts_0 N S g (ad 20000) (nI l) (nI n) (nI i) = _
  unfold b_X12_counts_0
  rw [hCn]
  cases hc : MW A (lky A i) (lmk A) with
  | none =>
    rw [hc] at hw
    simp (disch := (first | assumption | omega | (apply Inj.ne <;> first | assumption | omega) | fail)) only [nn_S, nm_D, ck_T, c2_S, on_N, on_S, lit, mNEG, nI_add, pk_mul, inb_nI, nI_clamp, wrI_row, wrL_row, rdR_rowI, rdR_rowL, rdI_def, rdL_def, rowI_same, rowI_ne, rowI_rowI, rowL_same, rowL_ne, rowL_1, rowI_21, upd_same, upd_ne, nI_le_T, nI_le_F, nI_lt_T, nI_lt_F, nI_eq_F, nI_NEG, NEG_lt0, nI_p, eq_self, if_true, if_false, p2, l2, hk, hw]
    rfl
  | some w =>
    rw [hc] at hw
    obtain ⟨w1, _⟩ := MW_some hc
    obtain ⟨_, v2, v3⟩ := hL.2.2 w w1
    have hms := hW.2.2.1 w w1
    by_cases c1 : n < msi A w
    · simp (disch := (first | assumption | omega | (apply Inj.ne <;> first | assumption | omega) | fail)) only [nn_S, nm_D, ck_T, c2_S, on_N, on_S, lit, mNEG, nI_add, pk_mul, inb_nI, nI_clamp, wrI_row, wrL_row, rdR_rowI, rdR_rowL, rdI_def, rdL_def, rowI_same, rowI_ne, rowI_rowI, rowL_same, rowL_ne, rowL_1, rowI_21, upd_same, upd_ne, nI_le_T, nI_le_F, nI_lt_T, nI_lt_F, nI_eq_F, nI_NEG, NEG_lt0, nI_p, eq_self, if_true, if_false, p2, l2, hk, hw, p7, l7, v2, c1]
      rfl
    · cases c2' : mhi A w with
      | false =>
        rw [c2'] at v3
        have v3 : g.1 (ad 20009) (100 * l + w) = nI 0 := v3
        by_cases c3 : i < msi A w
        · simp (disch := (first | assumption | omega | (apply Inj.ne <;> first | assumption | omega) | fail)) only [nn_S, nm_D, ck_T, c2_S, on_N, on_S, lit, mNEG, nI_add, pk_mul, inb_nI, nI_clamp, wrI_row, wrL_row, rdR_rowI, rdR_rowL, rdI_def, rdL_def, rowI_same, rowI_ne, rowI_rowI, rowL_same, rowL_ne, rowL_1, rowI_21, upd_same, upd_ne, nI_le_T, nI_le_F, nI_lt_T, nI_lt_F, nI_eq_F, nI_NEG, NEG_lt0, nI_p, eq_self, if_true, if_false, p2, l2, hk, hw, p7, l7, p8, l8, v2, v3, c1]
          simp [c3, c2']
          rfl
        · simp (disch := (first | assumption | omega | (apply Inj.ne <;> first | assumption | omega) | fail)) only [nn_S, nm_D, ck_T, c2_S, on_N, on_S, lit, mNEG, nI_add, pk_mul, inb_nI, nI_clamp, wrI_row, wrL_row, rdR_rowI, rdR_rowL, rdI_def, rdL_def, rowI_same, rowI_ne, rowI_rowI, rowL_same, rowL_ne, rowL_1, rowI_21, upd_same, upd_ne, nI_le_T, nI_le_F, nI_lt_T, nI_lt_F, nI_eq_F, nI_NEG, NEG_lt0, nI_p, eq_self, if_true, if_false, p2, l2, hk, hw, p7, l7, p8, l8, v2, v3, c1]
          simp [c3, c2']
          rfl
      | true =>
        rw [c2'] at v3
        have v3 : g.1 (ad 20009) (100 * l + w) = nI 1 := v3
        simp (disch := (first | assumption | omega | (apply Inj.ne <;> first | assumption | omega) | fail)) only [nn_S, nm_D, ck_T, c2_S, on_N, on_S, lit, mNEG, nI_add, pk_mul, inb_nI, nI_clamp, wrI_row, wrL_row, rdR_rowI, rdR_rowL, rdI_def, rdL_def, rowI_same, rowI_ne, rowI_rowI, rowL_same, rowL_ne, rowL_1, rowI_21, upd_same, upd_ne, nI_le_T, nI_le_F, nI_lt_T, nI_lt_F, nI_eq_F, nI_NEG, NEG_lt0, nI_p, eq_self, if_true, if_false, p2, l2, hk, hw, p7, l7, p8, l8, v2, v3, c1]
        rw [c2']
        rfl
theorem m_find2 {N : Nat} {S : Hs} {g : Hg} {ad : Nat → Nat} {m : Nat} {K : Nat → Int32} (key : Int32) (hm : m ≤ 400) (hR : RfP S g ad) (h57 : g.1 (ad 20000) 57 = nI m) (hK : ∀ k, k < m → g.1 (ad 20053) k = K k) : ∀ (f n k : Nat), k + f = m → f < n → (∀ z, z < k → K z ≠ key) →
    (∃ z, z < m ∧ K z = key ∧ n_X12_find_2 N S n g (ad 20000) key (nI k) = some (nI z, g)) ∨ ((∀ z, z < m → K z ≠ key) ∧ n_X12_find_2 N S n g (ad 20000) key (nI k) = some (NEG, g)) := by
  have p := hR.p 52 (by decide)
  have l := hR.l 52 (by decide) (n := 400) rfl
  intro f
  induction f with
  | zero =>
    intro n k h1 h2 hz
    obtain ⟨n, rfl⟩ : ∃ z, n = z + 1 := ⟨n - 1, by omega⟩
    right
    refine ⟨fun z hz2 => hz z (by omega), ?_⟩
    show b_X12_find_2 N S (n_X12_find_2 N S n) g _ _ _ = _
    unfold b_X12_find_2
    simp (disch := (first | assumption | omega | (apply Inj.ne <;> first | assumption | omega) | fail)) only [nn_S, nm_D, ck_T, c2_S, on_N, on_S, lit, mNEG, nI_add, pk_mul, inb_nI, nI_clamp, wrI_row, wrL_row, rdR_rowI, rdR_rowL, rdI_def, rdL_def, rowI_same, rowI_ne, rowI_rowI, rowL_same, rowL_ne, rowL_1, rowI_21, upd_same, upd_ne, nI_le_T, nI_le_F, nI_lt_T, nI_lt_F, nI_eq_F, nI_NEG, NEG_lt0, nI_p, eq_self, if_true, if_false, h57]
  | succ f ih =>
    intro n k h1 h2 hz
    obtain ⟨n, rfl⟩ : ∃ z, n = z + 1 := ⟨n - 1, by omega⟩
    have hk := hK k (by omega)
    have hst : n_X12_find_2 N S (n + 1) g (ad 20000) key (nI k) = (if K k = key then some (nI k, g) else n_X12_find_2 N S n g (ad 20000) key (nI (k + 1))) := by
      show b_X12_find_2 N S (n_X12_find_2 N S n) g _ _ _ = _
      unfold b_X12_find_2
      simp (disch := (first | assumption | omega | (apply Inj.ne <;> first | assumption | omega) | fail)) only [nn_S, nm_D, ck_T, c2_S, on_N, on_S, lit, mNEG, nI_add, pk_mul, inb_nI, nI_clamp, wrI_row, wrL_row, rdR_rowI, rdR_rowL, rdI_def, rdL_def, rowI_same, rowI_ne, rowI_rowI, rowL_same, rowL_ne, rowL_1, rowI_21, upd_same, upd_ne, nI_le_T, nI_le_F, nI_lt_T, nI_lt_F, nI_eq_F, nI_NEG, NEG_lt0, nI_p, eq_self, if_true, if_false, h57, p, l, hk]
    by_cases hc : K k = key
    · left
      exact ⟨k, by omega, hc, by rw [hst, if_pos hc]⟩
    · rw [hst, if_neg hc]
      exact ih n (k + 1) (by omega) (by omega) (fun z hz2 => by
        by_cases he : z = k
        · rw [he]; exact hc
        · exact hz z (by omega))
theorem m_find {N : Nat} (hN : 40000 ≤ N) {S : Hs} {g : Hg} {ad : Nat → Nat} {m : Nat} {K : Nat → Int32} (key : Int32) (hm : m ≤ 400) (hR : RfP S g ad) (h57 : g.1 (ad 20000) 57 = nI m) (hK : ∀ k, k < m → g.1 (ad 20053) k = K k) :
    (∃ z, z < m ∧ K z = key ∧ f_X12_find N S g (ad 20000) key = some (nI z, g)) ∨ ((∀ z, z < m → K z ≠ key) ∧ f_X12_find N S g (ad 20000) key = some (NEG, g)) := m_find2 key hm hR h57 hK m N 0 (by omega) (by omega) (fun z hz => absurd hz (by omega))
/-- KEYS of the MAP at n, as they came among the first i entries -/
def MkI (A : ALog) (n i m : Nat) (K : Nat → Int32) : Prop := m ≤ i ∧ (∀ x y, x < y → y < m → K x ≠ K y) ∧ (∀ k, k < m → LATF A n (K k) i ≠ NEG) ∧ (∀ key, LATF A n key i ≠ NEG → ∃ k, k < m ∧ K k = key)
/-- the reference's MAP -/
def MapM (g : Hg) (ad : Nat → Nat) (A : ALog) (n m : Nat) (K : Nat → Int32) : Prop := g.1 (ad 20000) 57 = nI m ∧ (∀ k, k < m → g.1 (ad 20053) k = K k) ∧ (∀ k, k < m → g.1 (ad 20054) k = LAT A n (K k)) ∧ (∀ k, k < m → eq8 (seg (g.1 (ad 20055)) (8 * k)) (WAY (K k)))
def OdM (g : Hg) (ad : Nat → Nat) (m : Nat) (od : Nat → Nat) : Prop := ∀ k, k < m → g.1 (ad 20056) k = nI (od k)
theorem m_map94 {N : Nat} (hN : 40000 ≤ N) {S : Hs} {ad : Nat → Nat} (hI : Inj ad) {A : ALog} {n_ m : Nat} {K : Nat → Int32} (hm : m ≤ 400) : ∀ (f n k : Nat) (g : Hg), k + f = m → f < n → RfP S g ad → g.1 (ad 20000) 57 = nI m → (∀ z, z < m → g.1 (ad 20053) z = K z) → (∀ z, z < m → g.1 (ad 20054) z = LAT A n_ (K z)) → (∀ z, z < k → eq8 (seg (g.1 (ad 20055)) (8 * z)) (WAY (K z))) → (∀ z, z < k → g.1 (ad 20056) z = nI z) →
    ∃ g1, n_X12_map_94 N S n g (ad 20000) (nI k) = some ((), g1) ∧ Fr ad (fun r => r = 20044 ∨ r = 20045 ∨ r = 20055 ∨ r = 20056) g g1 ∧ MapM g1 ad A n_ m K ∧ OdM g1 ad m (fun z => z) := by
  intro f
  induction f with
  | zero =>
    intro n k g h1 h2 hR h57 hK hL hW hO
    obtain ⟨n, rfl⟩ : ∃ z, n = z + 1 := ⟨n - 1, by omega⟩
    obtain rfl : k = m := by omega
    refine ⟨g, ?_, Fr.rf, ⟨h57, hK, hL, hW⟩, hO⟩
    show b_X12_map_94 N S (n_X12_map_94 N S n) g _ _ = _
    unfold b_X12_map_94
    simp (disch := (first | assumption | omega | (apply Inj.ne <;> first | assumption | omega) | fail)) only [nn_S, nm_D, ck_T, c2_S, on_N, on_S, lit, mNEG, nI_add, pk_mul, inb_nI, nI_clamp, wrI_row, wrL_row, rdR_rowI, rdR_rowL, rdI_def, rdL_def, rowI_same, rowI_ne, rowI_rowI, rowL_same, rowL_ne, rowL_1, rowI_21, upd_same, upd_ne, nI_le_T, nI_le_F, nI_lt_T, nI_lt_F, nI_eq_F, nI_NEG, NEG_lt0, nI_p, eq_self, if_true, if_false, h57]
  | succ f ih =>
    intro n k g h1 h2 hR h57 hK hL hW hO
    obtain ⟨n, rfl⟩ : ∃ z, n = z + 1 := ⟨n - 1, by omega⟩
    have p52 := hR.p 52 (by decide)
    have l52 := hR.l 52 (by decide) (n := 400) rfl
    have p54 := hR.p 54 (by decide)
    have l54 := hR.l 54 (by decide) (n := 3200) rfl
    have p55 := hR.p 55 (by decide)
    have l55 := hR.l 55 (by decide) (n := 400) rfl
    let g0 : Hg := rowI g (ad 20056) (upd (g.1 (ad 20056)) k (nI k))
    have f0 : Fr ad (fun r => r = 20056) g g0 := Fr.row hI rfl
    have hR0 : RfP S g0 ad := hR.fr f0.1
    obtain ⟨g1, a1, a2, a3⟩ := m_wayOf (N := N) (by omega) (hR0.mm hI) (K k)
    have f1 : Fr ad (fun r => r = 20044 ∨ r = 20045) g0 g1 := Fr.ch a2 (fun r h => h.imp (hI _ _) (hI _ _))
    have hR1 := hR0.fr f1.1
    have hto := m_toRow (N := N) (S := S) (g := g1) (m := ad 20000) (A := ad 20045) (row := ad 20055) (at_ := 8 * k) (x2 := nI (8 * k)) (by omega) (hR1.l 44 (by decide) rfl) (hR1.p 44 (by decide)) (hI.ne (by decide)) (by rw [l54]; omega) (by rw [l54]; decide) rfl
    let g2 : Hg := rowI g1 (ad 20055) (putA (g1.1 (ad 20055)) (8 * k) (g1.1 (ad 20045)))
    have f2 : Fr ad (fun r => r = 20055) g1 g2 := Fr.row hI rfl
    have fa : Fr ad (fun r => r = 20044 ∨ r = 20045 ∨ r = 20055 ∨ r = 20056) g g2 := ((f0.mono (fun r h => by omega)).tr (f1.mono (fun r h => by omega))).tr (f2.mono (fun r h => by omega))
    have e55 : g2.1 (ad 20055) = putA (g.1 (ad 20055)) (8 * k) (g1.1 (ad 20045)) := by
      show (rowI g1 _ _).1 _ = _
      rw [rowI_same, f1.I (by decide), f0.I (by decide)]
    have e56 : g2.1 (ad 20056) = upd (g.1 (ad 20056)) k (nI k) := by
      rw [f2.I (by decide), f1.I (by decide)]
      exact rowI_same _ _ _
    obtain ⟨g3, b1, b2, b3, b4⟩ := ih n (k + 1) g2 (by omega) (by omega) (hR.fr fa.1) (by rw [fa.I (by decide)]; exact h57) (fun z hz => by rw [fa.I (by decide)]; exact hK z hz) (fun z hz => by rw [fa.I (by decide)]; exact hL z hz) (fun z hz => by
      rw [e55]
      by_cases e : z = k
      · subst e
        intro j hj
        rw [seg_putA j hj]
        exact a3 j hj
      · intro j hj
        have := hW z (by omega) j hj
        show putA _ _ _ (8 * z + j) = _
        unfold putA
        rw [if_neg (by omega)]
        exact this) (fun z hz => by
      rw [e56]
      by_cases e : z = k
      · rw [e, upd_same]
      · rw [upd_ne _ _ e]; exact hO z (by omega))
    refine ⟨g3, ?_, fa.tr b2, b3, b4⟩
    have hKk : g0.1 (ad 20053) k = K k := by rw [f0.I (by decide)]; exact hK k (by omega)
    show b_X12_map_94 N S (n_X12_map_94 N S n) g _ _ = _
    unfold b_X12_map_94
    have p54' : rdR g1 (ad 20000) 54 = some (ad 20055) := hR1.p 54 (by decide)
    simp (disch := (first | assumption | omega | (apply Inj.ne <;> first | assumption | omega) | fail)) only [nn_S, nm_D, ck_T, c2_S, on_N, on_S, lit, mNEG, nI_add, pk_mul, inb_nI, nI_clamp, wrI_row, wrL_row, rdR_rowI, rdR_rowL, rdI_def, rdL_def, rowI_same, rowI_ne, rowI_rowI, rowL_same, rowL_ne, rowL_1, rowI_21, upd_same, upd_ne, nI_le_T, nI_le_F, nI_lt_T, nI_lt_F, nI_eq_F, nI_NEG, NEG_lt0, nI_p, eq_self, if_true, if_false, h57, p55, l55, p52, l52, hK k (by omega)]
    rw [show rowI g (ad 20056) (upd (g.1 (ad 20056)) k (nI k)) = g0 from rfl, a1, c2_S]
    simp (disch := (first | assumption | omega | (apply Inj.ne <;> first | assumption | omega) | fail)) only [nn_S, nm_D, ck_T, c2_S, on_N, on_S, lit, mNEG, nI_add, pk_mul, inb_nI, nI_clamp, wrI_row, wrL_row, rdR_rowI, rdR_rowL, rdI_def, rdL_def, rowI_same, rowI_ne, rowI_rowI, rowL_same, rowL_ne, rowL_1, rowI_21, upd_same, upd_ne, nI_le_T, nI_le_F, nI_lt_T, nI_lt_F, nI_eq_F, nI_NEG, NEG_lt0, nI_p, eq_self, if_true, if_false, p54', hto]
    exact b1
theorem m_map7 {N : Nat} (hN : 40000 ≤ N) {S : Hs} {ad : Nat → Nat} (hI : Inj ad) {A : ALog} {n_ l : Nat} (hl : l < 6) (hW : LogWf A) (hn : n_ ≤ lsz A) : ∀ (f n i : Nat) (g : Hg) (m : Nat) (K : Nat → Int32), i + f = n_ → f < n → RfP S g ad → RLog g ad 0 l A → g.1 (ad 20000) 57 = nI m → (∀ z, z < m → g.1 (ad 20053) z = K z) → (∀ z, z < m → g.1 (ad 20054) z = LATF A n_ (K z) i) → MkI A n_ i m K →
    ∃ g1 m1 K1, n_X12_map_7 N S n g (ad 20000) (nI l) (nI n_) (nI i) = some ((), g1) ∧ FM ad (fun r => r = 20044 ∨ r = 20045 ∨ 20053 ≤ r ∧ r ≤ 20056) g g1 ∧ g1.1 (ad 20000) 49 = g.1 (ad 20000) 49 ∧ MapM g1 ad A n_ m1 K1 ∧ OdM g1 ad m1 (fun z => z) ∧ MkI A n_ n_ m1 K1 := by
  have hsz := hW.1
  intro f
  induction f with
  | zero =>
    intro n i g m K h1 h2 hR hL h57 hK hLt hM
    obtain ⟨n, rfl⟩ : ∃ z, n = z + 1 := ⟨n - 1, by omega⟩
    obtain rfl : i = n_ := by omega
    have hmi := hM.1
    obtain ⟨g1, a1, a2, a3, a4⟩ := m_map94 (N := N) hN hI (A := A) (n_ := i) (K := K) (m := m) (by omega) m N 0 g (by omega) (by omega) hR h57 hK hLt (fun z hz => absurd hz (by omega)) (fun z hz => absurd hz (by omega))
    refine ⟨g1, m, K, ?_, FM.fr (a2.mono (fun r h => by omega)) (by omega), by rw [a2.I (by decide)], a3, a4, hM⟩
    show b_X12_map_7 N S (n_X12_map_7 N S n) g _ _ _ _ = _
    unfold b_X12_map_7
    simp (disch := (first | assumption | omega | (apply Inj.ne <;> first | assumption | omega) | fail)) only [nn_S, nm_D, ck_T, c2_S, on_N, on_S, lit, mNEG, nI_add, pk_mul, inb_nI, nI_clamp, wrI_row, wrL_row, rdR_rowI, rdR_rowL, rdI_def, rdL_def, rowI_same, rowI_ne, rowI_rowI, rowL_same, rowL_ne, rowL_1, rowI_21, upd_same, upd_ne, nI_le_T, nI_le_F, nI_lt_T, nI_lt_F, nI_eq_F, nI_NEG, NEG_lt0, nI_p, eq_self, if_true, if_false]
    exact a1
  | succ f ih =>
    intro n i g m K h1 h2 hR hL h57 hK hLt hM
    obtain ⟨n, rfl⟩ : ∃ z, n = z + 1 := ⟨n - 1, by omega⟩
    obtain ⟨m1, m2, m3, m4⟩ := id hM
    have hcn := m_counts hN hl hW hn (show i < lsz A by omega) hR hL
    have p2 := hR.p 2 (by decide)
    have l2 := hR.l 2 (by decide) (n := 2400) rfl
    have hk := (hL.2.1 i (by omega)).1
    by_cases c : CNT A n_ i = true
    · rw [c] at hcn
      have hcn : f_X12_counts N S g (ad 20000) (nI l) (nI n_) (nI i) = some (nI 1, g) := hcn
      have p53 := hR.p 53 (by decide)
      have l53 := hR.l 53 (by decide) (n := 400) rfl
      have p52 := hR.p 52 (by decide)
      have l52 := hR.l 52 (by decide) (n := 400) rfl
      have hself : LATF A n_ (lky A i) (i + 1) = nI i := by
        show (if lky A i = lky A i ∧ CNT A n_ i = true then nI i else LATF A n_ (lky A i) i) = _
        rw [if_pos ⟨rfl, c⟩]
      have hoth : ∀ key, key ≠ lky A i → LATF A n_ key (i + 1) = LATF A n_ key i := by
        intro key hne
        show (if lky A i = key ∧ CNT A n_ i = true then nI i else LATF A n_ key i) = _
        rw [if_neg (fun h => hne h.1.symm)]
      have niN : nI i ≠ NEG := by rw [ne_eq, nI_NEG (by omega)]; exact id
      rcases m_find hN (lky A i) (by omega) hR h57 hK with ⟨z, z1, z2, z3⟩ | ⟨z1, z3⟩
      · let g0 : Hg := rowI g (ad 20054) (upd (g.1 (ad 20054)) z (nI i))
        have f0 : Fr ad (fun r => r = 20054) g g0 := Fr.row hI rfl
        obtain ⟨g1, m1', K1, a1, a2, a2b, a3, a4, a5⟩ := ih n (i + 1) g0 m K (by omega) (by omega) (hR.fr f0.1) (hL.fm (FM.fr f0 (by decide)) (fun r _ _ => by omega)) (by rw [f0.I (by decide)]; exact h57) (fun y hy => by rw [f0.I (by decide)]; exact hK y hy) (fun y hy => by
          show (rowI g _ _).1 _ y = _
          rw [rowI_same]
          by_cases e : y = z
          · rw [e, upd_same, z2, hself]
          · rw [upd_ne _ _ e, hLt y hy, hoth]
            rw [← z2]
            intro e2
            rcases Nat.lt_or_gt_of_ne e with e3 | e3
            · exact m2 y z e3 z1 e2
            · exact m2 z y e3 hy e2.symm) ⟨by omega, m2, fun k hk => by
              by_cases e : K k = lky A i
              · rw [e, hself]; exact niN
              · rw [hoth _ e]; exact m3 k hk, fun key hkey => by
              by_cases e : key = lky A i
              · exact ⟨z, z1, by rw [e]; exact z2⟩
              · rw [hoth _ e] at hkey; exact m4 key hkey⟩
        refine ⟨g1, m1', K1, ?_, (FM.fr (f0.mono (fun r h => by omega)) (by omega)).tr a2, by rw [a2b, f0.I (by decide)], a3, a4, a5⟩
        show b_X12_map_7 N S (n_X12_map_7 N S n) g _ _ _ _ = _
        unfold b_X12_map_7 b_X12_map_78
        simp (disch := (first | assumption | omega | (apply Inj.ne <;> first | assumption | omega) | fail)) only [nn_S, nm_D, ck_T, c2_S, on_N, on_S, lit, mNEG, nI_add, pk_mul, inb_nI, nI_clamp, wrI_row, wrL_row, rdR_rowI, rdR_rowL, rdI_def, rdL_def, rowI_same, rowI_ne, rowI_rowI, rowL_same, rowL_ne, rowL_1, rowI_21, upd_same, upd_ne, nI_le_T, nI_le_F, nI_lt_T, nI_lt_F, nI_eq_F, nI_NEG, NEG_lt0, nI_p, eq_self, if_true, if_false, hcn, p2, l2, hk, z3, p53, l53]
        exact a1
      · let g0 : Hg := rowI (rowI (rowI g (ad 20053) (upd (g.1 (ad 20053)) m (lky A i))) (ad 20000) (upd (g.1 (ad 20000)) 57 (nI (m + 1)))) (ad 20054) (upd (g.1 (ad 20054)) m (nI i))
        have f0 : FM ad (fun r => r = 20053 ∨ r = 20054) g g0 := by
          refine ⟨Fr.rt hI (Fr.rt hI (Fr.row hI (Or.inl (Or.inr rfl))) (Or.inr rfl)) (Or.inl (Or.inl rfl)), fun k a b c d => ?_⟩
          simp (disch := (first | assumption | omega | (apply Inj.ne <;> first | assumption | omega) | fail)) only [nn_S, nm_D, ck_T, c2_S, on_N, on_S, lit, mNEG, nI_add, pk_mul, inb_nI, nI_clamp, wrI_row, wrL_row, rdR_rowI, rdR_rowL, rdI_def, rdL_def, rowI_same, rowI_ne, rowI_rowI, rowL_same, rowL_ne, rowL_1, rowI_21, upd_same, upd_ne, nI_le_T, nI_le_F, nI_lt_T, nI_lt_F, nI_eq_F, nI_NEG, NEG_lt0, nI_p, eq_self, if_true, if_false, g0]
        have e53 : g0.1 (ad 20053) = upd (g.1 (ad 20053)) m (lky A i) := by simp (disch := (first | assumption | omega | (apply Inj.ne <;> first | assumption | omega) | fail)) only [nn_S, nm_D, ck_T, c2_S, on_N, on_S, lit, mNEG, nI_add, pk_mul, inb_nI, nI_clamp, wrI_row, wrL_row, rdR_rowI, rdR_rowL, rdI_def, rdL_def, rowI_same, rowI_ne, rowI_rowI, rowL_same, rowL_ne, rowL_1, rowI_21, upd_same, upd_ne, nI_le_T, nI_le_F, nI_lt_T, nI_lt_F, nI_eq_F, nI_NEG, NEG_lt0, nI_p, eq_self, if_true, if_false, g0]
        have e54 : g0.1 (ad 20054) = upd (g.1 (ad 20054)) m (nI i) := by simp (disch := (first | assumption | omega | (apply Inj.ne <;> first | assumption | omega) | fail)) only [nn_S, nm_D, ck_T, c2_S, on_N, on_S, lit, mNEG, nI_add, pk_mul, inb_nI, nI_clamp, wrI_row, wrL_row, rdR_rowI, rdR_rowL, rdI_def, rdL_def, rowI_same, rowI_ne, rowI_rowI, rowL_same, rowL_ne, rowL_1, rowI_21, upd_same, upd_ne, nI_le_T, nI_le_F, nI_lt_T, nI_lt_F, nI_eq_F, nI_NEG, NEG_lt0, nI_p, eq_self, if_true, if_false, g0]
        have e00 : g0.1 (ad 20000) = upd (g.1 (ad 20000)) 57 (nI (m + 1)) := by simp (disch := (first | assumption | omega | (apply Inj.ne <;> first | assumption | omega) | fail)) only [nn_S, nm_D, ck_T, c2_S, on_N, on_S, lit, mNEG, nI_add, pk_mul, inb_nI, nI_clamp, wrI_row, wrL_row, rdR_rowI, rdR_rowL, rdI_def, rdL_def, rowI_same, rowI_ne, rowI_rowI, rowL_same, rowL_ne, rowL_1, rowI_21, upd_same, upd_ne, nI_le_T, nI_le_F, nI_lt_T, nI_lt_F, nI_eq_F, nI_NEG, NEG_lt0, nI_p, eq_self, if_true, if_false, g0]
        obtain ⟨g1, m1', K1, a1, a2, a2b, a3, a4, a5⟩ := ih n (i + 1) g0 (m + 1) (upd K m (lky A i)) (by omega) (by omega) (hR.fr f0.1.1) (hL.fm f0 (fun r _ _ => by omega)) (by rw [e00, upd_same]) (fun y hy => by
          rw [e53]
          by_cases e : y = m
          · rw [e, upd_same, upd_same]
          · rw [upd_ne _ _ e, upd_ne _ _ e]; exact hK y (by omega)) (fun y hy => by
          rw [e54]
          by_cases e : y = m
          · rw [e, upd_same, upd_same, hself]
          · rw [upd_ne _ _ e, upd_ne _ _ e, hLt y (by omega), hoth _ (z1 y (by omega))]) ⟨by omega, fun x y hxy hy => by
            rw [upd_ne _ _ (by omega)]
            by_cases e : y = m
            · rw [e, upd_same]; exact z1 x (by omega)
            · rw [upd_ne _ _ e]; exact m2 x y hxy (by omega), fun k hk => by
            by_cases e : k = m
            · rw [e, upd_same, hself]; exact niN
            · rw [upd_ne _ _ e, hoth _ (z1 k (by omega))]; exact m3 k (by omega), fun key hkey => by
            by_cases e : key = lky A i
            · exact ⟨m, by omega, by rw [upd_same, e]⟩
            · rw [hoth _ e] at hkey
              obtain ⟨k, k1, k2⟩ := m4 key hkey
              exact ⟨k, by omega, by rw [upd_ne _ _ (by omega)]; exact k2⟩⟩
        refine ⟨g1, m1', K1, ?_, (f0.mono (fun r h => by omega)).tr a2, by rw [a2b, e00, upd_ne _ _ (by decide)], a3, a4, a5⟩
        show b_X12_map_7 N S (n_X12_map_7 N S n) g _ _ _ _ = _
        unfold b_X12_map_7 b_X12_map_78
        simp (disch := (first | assumption | omega | (apply Inj.ne <;> first | assumption | omega) | fail)) only [nn_S, nm_D, ck_T, c2_S, on_N, on_S, lit, mNEG, nI_add, pk_mul, inb_nI, nI_clamp, wrI_row, wrL_row, rdR_rowI, rdR_rowL, rdI_def, rdL_def, rowI_same, rowI_ne, rowI_rowI, rowL_same, rowL_ne, rowL_1, rowI_21, upd_same, upd_ne, nI_le_T, nI_le_F, nI_lt_T, nI_lt_F, nI_eq_F, nI_NEG, NEG_lt0, nI_p, eq_self, if_true, if_false, hcn, p2, l2, hk, z3, p53, l53, p52, l52, h57]
        exact a1
    · have c' : CNT A n_ i = false := by
        cases h : CNT A n_ i
        · rfl
        · exact absurd h c
      rw [c'] at hcn
      have hcn : f_X12_counts N S g (ad 20000) (nI l) (nI n_) (nI i) = some (nI 0, g) := hcn
      have hoth : ∀ key, LATF A n_ key (i + 1) = LATF A n_ key i := by
        intro key
        show (if lky A i = key ∧ CNT A n_ i = true then nI i else LATF A n_ key i) = _
        rw [if_neg (fun h => c h.2)]
      obtain ⟨g1, m1', K1, a1, a2, a3⟩ := ih n (i + 1) g m K (by omega) (by omega) hR hL h57 hK (fun y hy => by rw [hoth]; exact hLt y hy) ⟨by omega, m2, fun k hk => by rw [hoth]; exact m3 k hk, fun key hkey => by rw [hoth] at hkey; exact m4 key hkey⟩
      refine ⟨g1, m1', K1, ?_, a2, a3⟩
      show b_X12_map_7 N S (n_X12_map_7 N S n) g _ _ _ _ = _
      unfold b_X12_map_7
      simp (disch := (first | assumption | omega | (apply Inj.ne <;> first | assumption | omega) | fail)) only [nn_S, nm_D, ck_T, c2_S, on_N, on_S, lit, mNEG, nI_add, pk_mul, inb_nI, nI_clamp, wrI_row, wrL_row, rdR_rowI, rdR_rowL, rdI_def, rdL_def, rowI_same, rowI_ne, rowI_rowI, rowL_same, rowL_ne, rowL_1, rowI_21, upd_same, upd_ne, nI_le_T, nI_le_F, nI_lt_T, nI_lt_F, nI_eq_F, nI_NEG, NEG_lt0, nI_p, eq_self, if_true, if_false, hcn]
      exact a1
theorem m_map {N : Nat} (hN : 40000 ≤ N) {S : Hs} {g : Hg} {ad : Nat → Nat} (hI : Inj ad) {A : ALog} {n l : Nat} (hl : l < 6) (hW : LogWf A) (hn : n ≤ lsz A) (hR : RfP S g ad) (hL : RLog g ad 0 l A) :
    ∃ g1 m1 K1, f_X12_map N S g (ad 20000) (nI l) (nI n) = some ((), g1) ∧ FM ad (fun r => r = 20044 ∨ r = 20045 ∨ 20053 ≤ r ∧ r ≤ 20056) g g1 ∧ g1.1 (ad 20000) 49 = g.1 (ad 20000) 49 ∧ MapM g1 ad A n m1 K1 ∧ OdM g1 ad m1 (fun z => z) ∧ MkI A n n m1 K1 := by
  have hsz := hW.1
  have f0 : FM ad (fun r => r = 20044 ∨ r = 20045 ∨ 20053 ≤ r ∧ r ≤ 20056) g (rowI g (ad 20000) (upd (g.1 (ad 20000)) 57 (nI 0))) := FM.set hI (by omega)
  obtain ⟨g1, m1, K1, a1, a2, a2b, a3⟩ := m_map7 hN hI hl hW hn n N 0 (rowI g (ad 20000) (upd (g.1 (ad 20000)) 57 (nI 0))) 0 (fun _ => 0) (by omega) (by omega) (hR.fr rfl) (hL.fm f0 (fun r _ _ => by omega)) (by rw [rowI_same, upd_same]) (fun z hz => absurd hz (by omega)) (fun z hz => absurd hz (by omega)) ⟨Nat.le_refl _, fun x y _ h => absurd h (by omega), fun k h => absurd h (by omega), fun key h => absurd rfl h⟩
  refine ⟨g1, m1, K1, ?_, f0.tr a2, by rw [a2b, rowI_same, upd_ne _ _ (by decide)], a3⟩
  show b_X12_map_0 N S g _ _ _ = _
  unfold b_X12_map_0
  simp (disch := (first | assumption | omega | (apply Inj.ne <;> first | assumption | omega) | fail)) only [nn_S, nm_D, ck_T, c2_S, on_N, on_S, lit, mNEG, nI_add, pk_mul, inb_nI, nI_clamp, wrI_row, wrL_row, rdR_rowI, rdR_rowL, rdI_def, rdL_def, rowI_same, rowI_ne, rowI_rowI, rowL_same, rowL_ne, rowL_1, rowI_21, upd_same, upd_ne, nI_le_T, nI_le_F, nI_lt_T, nI_lt_F, nI_eq_F, nI_NEG, NEG_lt0, nI_p, eq_self, if_true, if_false]
  exact a1
theorem MkI.perm {A : ALog} (hW : LogWf A) {n m : Nat} {K : Nat → Int32} (hn : n ≤ lsz A) (h : MkI A n n m K) : (lst K 0 m).Perm (KL A n) := by
  obtain ⟨h1, h2, h3, h4⟩ := h
  have hO := hW.2.2.2.2.1.1
  rw [List.perm_ext_iff_of_nodup]
  · intro k
    unfold KL
    rw [List.mem_filter, lst_mem, lst_mem]
    constructor
    · rintro ⟨i, _, i2, i3⟩
      have hl := h3 i i2
      rw [i3] at hl
      refine ⟨?_, by simpa using (show LAT A n k ≠ NEG from hl)⟩
      rcases LATF_val (A := A) (n := n) (key := k) n with c | ⟨j, j1, _, j3, _⟩
      · exact absurd c hl
      · have := hW.2.2.2.2.1.2.1 j (by omega)
        exact ⟨lnu A j, by omega, this.1, this.2.trans j3⟩
    · rintro ⟨_, hl⟩
      obtain ⟨i, i1, i2⟩ := h4 k (show LATF A n k n ≠ NEG from (show LAT A n k ≠ NEG by simpa using hl))
      exact ⟨i, by omega, i1, i2⟩
  · exact lst_nodup (fun i j _ hij hj => h2 i j hij hj)
  · unfold KL
    exact (lst_nodup (fun i j _ hij hj => hO.2.1 i j hij hj)).filter _
