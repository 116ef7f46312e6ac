/-! a LOG, as mathematics: keeper, count; KEYS, VALUES, fates of its entries; its marks; the numbers of its KEYS -/
abbrev ALog : Type := (Int32 × Nat) × ((Nat → Int32) × (Nat → Int64) × (Nat → Nat)) × (Nat × (Nat → Int32) × (Nat → Nat) × (Nat → Bool)) × ((Nat → Nat) × Nat × (Nat → Int32) × (Nat → Nat))
def lkp (A : ALog) : Int32 := A.1.1
def lsz (A : ALog) : Nat := A.1.2
def lky (A : ALog) : Nat → Int32 := A.2.1.1
def lvl (A : ALog) : Nat → Int64 := A.2.1.2.1
def lft (A : ALog) : Nat → Nat := A.2.1.2.2
def lmk (A : ALog) : Nat := A.2.2.1.1
def mky (A : ALog) : Nat → Int32 := A.2.2.1.2.1
def msi (A : ALog) : Nat → Nat := A.2.2.1.2.2.1
def mhi (A : ALog) : Nat → Bool := A.2.2.1.2.2.2
def lnu (A : ALog) : Nat → Nat := A.2.2.2.1
def lks (A : ALog) : Nat := A.2.2.2.2.1
def lK (A : ALog) : Nat → Int32 := A.2.2.2.2.2.1
def lod (A : ALog) : Nat → Nat := A.2.2.2.2.2.2
/-- the mark of a KEY among the first k -/
def MW (A : ALog) (key : Int32) : Nat → Option Nat
  | 0 => none
  | k + 1 => match MW A key k with
    | some w => some w
    | none => if mky A k = key then some k else none
/-- does entry i count for the MAP at n -/
def CNT (A : ALog) (n i : Nat) : Bool := match MW A (lky A i) (lmk A) with
  | none => true
  | some w => if n < msi A w then true else !mhi A w && decide (i < msi A w)
def LATF (A : ALog) (n : Nat) (key : Int32) : Nat → Int32
  | 0 => NEG
  | i + 1 => if lky A i = key ∧ CNT A n i = true then nI i else LATF A n key i
/-- the LATEST of a KEY in the MAP at n, or NONE -/
def LAT (A : ALog) (n : Nat) (key : Int32) : Int32 := LATF A n key n
/-- the KEYS in the MAP at n -/
def KL (A : ALog) (n : Nat) : List Int32 := (lst (lK A) 0 (lks A)).filter (fun k => LAT A n k != NEG)
def TREEA (A : ALog) (n : Nat) : Nat → Int32 := TREE (LAT A n) 256 (KL A n)
def KeyWf (A : ALog) : Prop := Ord (lK A) (lks A) (lod A) ∧ (∀ i, i < lsz A → lnu A i < lks A ∧ lK A (lnu A i) = lky A i) ∧ (∀ i, i < lsz A → ∀ q, q < lnu A i → ∃ j, j < i ∧ lnu A j = q) ∧ (∀ q, q < lks A → ∃ i, i < lsz A ∧ lnu A i = q)
def LogWf (A : ALog) : Prop := lsz A ≤ 400 ∧ lmk A ≤ 100 ∧ (∀ k, k < lmk A → msi A k ≤ lsz A) ∧ (∀ i j, i < j → j < lmk A → mky A i ≠ mky A j) ∧ KeyWf A ∧ (∀ i, lft A i ≤ 2)
theorem MW_some {A : ALog} {key : Int32} {w : Nat} : ∀ {k : Nat}, MW A key k = some w → w < k ∧ mky A w = key
  | 0, h => by simp [MW] at h
  | k + 1, h => by
    unfold MW at h
    cases hc : MW A key k with
    | some z =>
      rw [hc] at h
      have := MW_some hc
      have e : z = w := by simpa using h
      rw [← e]
      exact ⟨by omega, this.2⟩
    | none =>
      rw [hc] at h
      by_cases he : mky A k = key
      · simp [he] at h
        rw [← h]
        exact ⟨by omega, he⟩
      · simp [he] at h
theorem MW_none {A : ALog} {key : Int32} : ∀ {k : Nat}, MW A key k = none → ∀ w, w < k → mky A w ≠ key
  | 0, _, w, hw => absurd hw (by omega)
  | k + 1, h, w, hw => by
    unfold MW at h
    cases hc : MW A key k with
    | some z => rw [hc] at h; simp at h
    | none =>
      rw [hc] at h
      by_cases he : mky A k = key
      · simp [he] at h
      · by_cases hk : w = k
        · rw [hk]; exact he
        · exact MW_none hc w (by omega)
theorem MW_of {A : ALog} {key : Int32} {w k : Nat} (hd : ∀ i j, i < j → j < k → mky A i ≠ mky A j) (hw : w < k) (hk : mky A w = key) : MW A key k = some w := by
  cases hc : MW A key k with
  | none => exact absurd hk (MW_none hc w hw)
  | some z =>
    obtain ⟨h1, h2⟩ := MW_some hc
    by_cases e : z = w
    · rw [e]
    · exfalso
      rcases Nat.lt_or_gt_of_ne e with h | h
      · exact hd z w h hw (h2.trans hk.symm)
      · exact hd w z h h1 (hk.trans h2.symm)
/-- the last place ahead of n with a number -/
def L0 (nu : Nat → Nat) (q : Nat) : Nat → Int32
  | 0 => NEG
  | i + 1 => if nu i = q then nI i else L0 nu q i
theorem LATF_NEG {A : ALog} {n : Nat} {key : Int32} : ∀ (m : Nat), m < 2 ^ 31 → (LATF A n key m = NEG ↔ ∀ i, i < m → ¬ (lky A i = key ∧ CNT A n i = true))
  | 0, _ => ⟨fun _ i hi => absurd hi (by omega), fun _ => rfl⟩
  | m + 1, hm => by
    unfold LATF
    by_cases hc : lky A m = key ∧ CNT A n m = true
    · rw [if_pos hc]
      constructor
      · intro h
        rw [nI_NEG (by omega)] at h
        exact h.elim
      · intro h
        exact absurd hc (h m (by omega))
    · rw [if_neg hc, LATF_NEG m (by omega)]
      constructor
      · intro h i hi
        by_cases e : i = m
        · rw [e]; exact hc
        · exact h i (by omega)
      · intro h i hi
        exact h i (by omega)
theorem LATF_val {A : ALog} {n : Nat} {key : Int32} : ∀ (m : Nat), LATF A n key m = NEG ∨ ∃ i, i < m ∧ LATF A n key m = nI i ∧ lky A i = key ∧ CNT A n i = true
  | 0 => Or.inl rfl
  | m + 1 => by
    unfold LATF
    by_cases hc : lky A m = key ∧ CNT A n m = true
    · rw [if_pos hc]
      exact Or.inr ⟨m, by omega, rfl, hc⟩
    · rw [if_neg hc]
      rcases LATF_val (A := A) (n := n) (key := key) m with h | ⟨i, i1, i2, i3⟩
      · exact Or.inl h
      · exact Or.inr ⟨i, by omega, i2, i3⟩
/-- what the class's row holds behind k marks -/
def LV (A : ALog) (n q k : Nat) : Int32 := match MW A (lK A q) k with
  | none => L0 (lnu A) q n
  | some w => if msi A w ≤ n then (if mhi A w then NEG else L0 (lnu A) q (msi A w)) else L0 (lnu A) q n
theorem key_nu {A : ALog} (h : KeyWf A) {i q : Nat} (hi : i < lsz A) (hq : q < lks A) : lky A i = lK A q ↔ lnu A i = q := by
  obtain ⟨h1, h2, -, -⟩ := h
  obtain ⟨a1, a2⟩ := h2 i hi
  constructor
  · intro e
    rcases Nat.lt_trichotomy (lnu A i) q with c | c | c
    · exact absurd (a2.trans e) (h1.2.1 _ _ c hq)
    · exact c
    · exact absurd (e.symm.trans a2.symm) (h1.2.1 _ _ c a1)
  · intro e
    rw [← e, a2]
theorem LATF_all {A : ALog} (h : KeyWf A) {n q : Nat} (hq : q < lks A) : ∀ (m : Nat), m ≤ lsz A → (∀ i, i < m → lky A i = lK A q → CNT A n i = true) → LATF A n (lK A q) m = L0 (lnu A) q m
  | 0, _, _ => rfl
  | m + 1, hm, hc => by
    unfold LATF L0
    have hk := key_nu h (i := m) (by omega) hq
    by_cases e : lnu A m = q
    · rw [if_pos e, if_pos ⟨hk.mpr e, hc m (by omega) (hk.mpr e)⟩]
    · rw [if_neg e, if_neg (fun z => e (hk.mp z.1)), LATF_all h hq m (by omega) (fun i hi => hc i (by omega))]
theorem LV_LAT {A : ALog} (hW : LogWf A) {n q : Nat} (hn : n ≤ lsz A) (hq : q < lks A) : LV A n q (lmk A) = LAT A n (lK A q) := by
  have hK := hW.2.2.2.2.1
  unfold LV LAT
  have cn : ∀ i, lky A i = lK A q → CNT A n i = match MW A (lK A q) (lmk A) with
      | none => true
      | some w => if n < msi A w then true else !mhi A w && decide (i < msi A w) := fun i e => by unfold CNT; rw [e]
  cases hc : MW A (lK A q) (lmk A) with
  | none =>
    simp only [hc] at cn ⊢
    exact (LATF_all hK hq n hn (fun i _ e => cn i e)).symm
  | some w =>
    simp only [hc] at cn ⊢
    by_cases h1 : msi A w ≤ n
    · rw [if_pos h1]
      have h2 : ¬ n < msi A w := by omega
      by_cases h3 : mhi A w = true
      · rw [if_pos h3]
        refine ((LATF_NEG n (by have := hW.1; omega)).mpr (fun i hi z => ?_)).symm
        have := cn i z.1
        rw [if_neg h2, h3] at this
        rw [z.2] at this
        simp at this
      · rw [if_neg h3]
        have hf : mhi A w = false := by simpa using h3
        -- entries from since on do not count
        have key : ∀ m, msi A w ≤ m → m ≤ lsz A → LATF A n (lK A q) m = L0 (lnu A) q (msi A w) := by
          intro m
          induction m with
          | zero =>
            intro m1 m2
            have e0 : msi A w = 0 := by omega
            rw [e0]; rfl
          | succ m ih =>
            intro m1 m2
            by_cases e : msi A w = m + 1
            · rw [e]
              refine LATF_all hK hq (m + 1) m2 (fun i hi z => ?_)
              rw [cn i z, if_neg h2, hf]
              simp
              omega
            · unfold LATF
              rw [if_neg (fun z => ?_)]
              · exact ih (by omega) (by omega)
              · have := cn m z.1
                rw [if_neg h2, hf, z.2] at this
                simp at this
                omega
        exact (key n h1 hn).symm
    · rw [if_neg h1]
      have h2 : n < msi A w := by omega
      exact (LATF_all hK hq n hn (fun i _ e => by rw [cn i e, if_pos h2])).symm
/-! the class reads the MAP -/
def bI (b : Bool) : Int32 := if b then nI 1 else nI 0
def CMark (g : Hg) (ad : Nat → Nat) (b : Nat) (A : ALog) : Prop := g.1 (ad (b + 2)) 3 = nI (lmk A) ∧ ∀ k, k < lmk A → g.1 (ad (b + 11)) k = mky A k ∧ g.1 (ad (b + 12)) k = nI (msi A k) ∧ g.1 (ad (b + 13)) k = bI (mhi A k)
def CKy (g : Hg) (ad : Nat → Nat) (b : Nat) (A : ALog) : Prop := CKey g ad b (lK A) (lks A) (lod A)
def CNum (g : Hg) (ad : Nat → Nat) (b : Nat) (A : ALog) : Prop := ∀ i, i < lsz A → g.1 (ad (b + 3)) i = nI (lnu A i)
/-- only role r's row of ints is another -/
theorem c_heed46 {N : Nat} {S : Hs} {ad : Nat → Nat} (hI : Inj ad) {b : Nat} (hb : 100 ≤ b) {A : ALog} (hW : LogWf A) {k q : Nat} (hk : k < lmk A) (hq : q < lks A) : ∀ (i n j : Nat) (g : Hg), j + i = msi A k → i < n → ScP S g ad → LgP S g ad b → CMark g ad b A → CNum g ad b A → g.1 (ad 5) q = L0 (lnu A) q j →
    ∃ g1, n_X4_heed_46 N S n g (ad 4) (ad b) (nI k) (nI q) (nI j) = some ((), g1) ∧ Fr ad (fun r => r = 5) g g1 ∧ g1.1 (ad 5) q = L0 (lnu A) q (msi A k) ∧ ∀ z, z ≠ q → g1.1 (ad 5) z = g.1 (ad 5) z := by
  have hmk := hW.2.1
  have hms := hW.2.2.1 k hk
  have hsz := hW.1
  have hks := hW.2.2.2.2.1.1.1
  intro i
  induction i with
  | zero =>
    intro n j g h1 h2 hS hP hM hU h5
    obtain ⟨n, rfl⟩ : ∃ z, n = z + 1 := ⟨n - 1, by omega⟩
    refine ⟨g, ?_, Fr.rf, ?_, fun _ _ => rfl⟩
    · show b_X4_heed_46 N S (n_X4_heed_46 N S n) g _ _ _ _ _ = _
      unfold b_X4_heed_46
      simp (disch := (first | assumption | omega | (apply Inj.ne <;> first | assumption | omega) | fail)) only [nn_S, nm_D, ck_T, c2_S, on_N, on_S, lit, mNEG, nI_add, pk_mul, inb_nI, nI_clamp, wrI_row, wrL_row, rdR_rowI, rdR_rowL, rdI_def, rdL_def, rowI_same, rowI_ne, rowI_rowI, rowL_same, rowL_ne, rowL_1, rowI_21, upd_same, upd_ne, nI_le_T, nI_le_F, nI_lt_T, nI_lt_F, nI_eq_F, nI_NEG, NEG_lt0, nI_p, eq_self, if_true, if_false, hP.1.2.1, hP.2.2.1.2.1, hP.2.2.2.2.2.2.2.2.1, (hM.2 k hk).2.1]
    · rw [h5, show j = msi A k by omega]
  | succ i ih =>
    intro n j g h1 h2 hS hP hM hU h5
    obtain ⟨n, rfl⟩ : ∃ z, n = z + 1 := ⟨n - 1, by omega⟩
    have hnu := hU j (by omega)
    have hnq := (hW.2.2.2.2.1.2.1 j (by omega)).1
    by_cases hc : lnu A j = q
    · obtain ⟨g1, a1, a2, a3, a4⟩ := ih n (j + 1) (rowI g (ad 5) (upd (g.1 (ad 5)) q (nI j))) (by omega) (by omega) (hS.fr rfl) (hP.fr rfl) (by
        refine ⟨?_, fun k hk => ?_⟩
        · simp (disch := (first | assumption | omega | (apply Inj.ne <;> first | assumption | omega) | fail)) only [nn_S, nm_D, ck_T, c2_S, on_N, on_S, lit, mNEG, nI_add, pk_mul, inb_nI, nI_clamp, wrI_row, wrL_row, rdR_rowI, rdR_rowL, rdI_def, rdL_def, rowI_same, rowI_ne, rowI_rowI, rowL_same, rowL_ne, rowL_1, rowI_21, upd_same, upd_ne, nI_le_T, nI_le_F, nI_lt_T, nI_lt_F, nI_eq_F, nI_NEG, NEG_lt0, nI_p, eq_self, if_true, if_false]; exact hM.1
        · simp (disch := (first | assumption | omega | (apply Inj.ne <;> first | assumption | omega) | fail)) only [nn_S, nm_D, ck_T, c2_S, on_N, on_S, lit, mNEG, nI_add, pk_mul, inb_nI, nI_clamp, wrI_row, wrL_row, rdR_rowI, rdR_rowL, rdI_def, rdL_def, rowI_same, rowI_ne, rowI_rowI, rowL_same, rowL_ne, rowL_1, rowI_21, upd_same, upd_ne, nI_le_T, nI_le_F, nI_lt_T, nI_lt_F, nI_eq_F, nI_NEG, NEG_lt0, nI_p, eq_self, if_true, if_false]; exact hM.2 k hk) (fun i hi => by simp (disch := (first | assumption | omega | (apply Inj.ne <;> first | assumption | omega) | fail)) only [nn_S, nm_D, ck_T, c2_S, on_N, on_S, lit, mNEG, nI_add, pk_mul, inb_nI, nI_clamp, wrI_row, wrL_row, rdR_rowI, rdR_rowL, rdI_def, rdL_def, rowI_same, rowI_ne, rowI_rowI, rowL_same, rowL_ne, rowL_1, rowI_21, upd_same, upd_ne, nI_le_T, nI_le_F, nI_lt_T, nI_lt_F, nI_eq_F, nI_NEG, NEG_lt0, nI_p, eq_self, if_true, if_false]; exact hU i hi) (by
        simp (disch := (first | assumption | omega | (apply Inj.ne <;> first | assumption | omega) | fail)) only [nn_S, nm_D, ck_T, c2_S, on_N, on_S, lit, mNEG, nI_add, pk_mul, inb_nI, nI_clamp, wrI_row, wrL_row, rdR_rowI, rdR_rowL, rdI_def, rdL_def, rowI_same, rowI_ne, rowI_rowI, rowL_same, rowL_ne, rowL_1, rowI_21, upd_same, upd_ne, nI_le_T, nI_le_F, nI_lt_T, nI_lt_F, nI_eq_F, nI_NEG, NEG_lt0, nI_p, eq_self, if_true, if_false]
        unfold L0
        rw [if_pos hc])
      refine ⟨g1, ?_, Fr.rt hI a2 rfl, a3, fun z hz => by rw [a4 z hz]; simp (disch := (first | assumption | omega | (apply Inj.ne <;> first | assumption | omega) | fail)) only [nn_S, nm_D, ck_T, c2_S, on_N, on_S, lit, mNEG, nI_add, pk_mul, inb_nI, nI_clamp, wrI_row, wrL_row, rdR_rowI, rdR_rowL, rdI_def, rdL_def, rowI_same, rowI_ne, rowI_rowI, rowL_same, rowL_ne, rowL_1, rowI_21, upd_same, upd_ne, nI_le_T, nI_le_F, nI_lt_T, nI_lt_F, nI_eq_F, nI_NEG, NEG_lt0, nI_p, eq_self, if_true, if_false]⟩
      show b_X4_heed_46 N S (n_X4_heed_46 N S n) g _ _ _ _ _ = _
      unfold b_X4_heed_46
      simp (disch := (first | assumption | omega | (apply Inj.ne <;> first | assumption | omega) | fail)) only [nn_S, nm_D, ck_T, c2_S, on_N, on_S, lit, mNEG, nI_add, pk_mul, inb_nI, nI_clamp, wrI_row, wrL_row, rdR_rowI, rdR_rowL, rdI_def, rdL_def, rowI_same, rowI_ne, rowI_rowI, rowL_same, rowL_ne, rowL_1, rowI_21, upd_same, upd_ne, nI_le_T, nI_le_F, nI_lt_T, nI_lt_F, nI_eq_F, nI_NEG, NEG_lt0, nI_p, eq_self, if_true, if_false, hP.1.2.1, hP.1.2.2.1, hP.2.2.1.2.1, hP.2.2.2.2.2.2.2.2.1, (hM.2 k hk).2.1, hP.2.2.2.1.1, hnu, hc, hS.2.1.2.1, hS.2.1.2.2.2.2.2.1]
      exact a1
    · obtain ⟨g1, a1, a2, a3, a4⟩ := ih n (j + 1) g (by omega) (by omega) hS hP hM hU (by
        unfold L0
        rw [if_neg hc]
        exact h5)
      refine ⟨g1, ?_, a2, a3, a4⟩
      show b_X4_heed_46 N S (n_X4_heed_46 N S n) g _ _ _ _ _ = _
      unfold b_X4_heed_46
      simp (disch := (first | assumption | omega | (apply Inj.ne <;> first | assumption | omega) | fail)) only [nn_S, nm_D, ck_T, c2_S, on_N, on_S, lit, mNEG, nI_add, pk_mul, inb_nI, nI_clamp, wrI_row, wrL_row, rdR_rowI, rdR_rowL, rdI_def, rdL_def, rowI_same, rowI_ne, rowI_rowI, rowL_same, rowL_ne, rowL_1, rowI_21, upd_same, upd_ne, nI_le_T, nI_le_F, nI_lt_T, nI_lt_F, nI_eq_F, nI_NEG, NEG_lt0, nI_p, eq_self, if_true, if_false, hP.1.2.1, hP.1.2.2.1, hP.2.2.1.2.1, hP.2.2.2.2.2.2.2.2.1, (hM.2 k hk).2.1, hP.2.2.2.1.1, hnu]
      exact a1
theorem c_heed {N : Nat} (hN : 40000 ≤ N) {S : Hs} {g : Hg} {ad : Nat → Nat} (hI : Inj ad) {b : Nat} (hb : 100 ≤ b) {A : ALog} (hW : LogWf A) {k : Nat} (hk : k < lmk A) (hS : ScP S g ad) (hP : LgP S g ad b) (hM : CMark g ad b A) (hU : CNum g ad b A) (hC : CKy g ad b A) {v : Nat → Int32} (hv : ∀ q, q < lks A → g.1 (ad 5) q = v q) :
    ∃ g1, f_X4_heed N S g (ad 4) (ad b) (nI k) = some ((), g1) ∧ Fr ad (fun r => r = 5) g g1 ∧ ∀ q, q < lks A → g1.1 (ad 5) q = if mky A k = lK A q then (if mhi A k then NEG else L0 (lnu A) q (msi A k)) else v q := by
  have hmk := hW.2.1
  have hks := hW.2.2.2.2.1.1.1
  have hsz := hW.1
  have hms := hW.2.2.1 k hk
  rcases c_find hN (mky A k) hP hC.1 hC.2.1 hks with ⟨z, z1, z2, z3⟩ | ⟨z1, z3⟩
  · have hz : ∀ q, q < lks A → (mky A k = lK A q ↔ q = z) := fun q hq => by
      constructor
      · intro e
        rcases Nat.lt_trichotomy q z with c | c | c
        · exact absurd (e.symm.trans z2.symm) (hW.2.2.2.2.1.1.2.1 _ _ c z1)
        · exact c
        · exact absurd (z2.trans e) (hW.2.2.2.2.1.1.2.1 _ _ c hq)
      · intro e
        rw [e, z2]
    have hst : ∀ g1, (if mhi A k = true then some ((), rowI g (ad 5) (upd (g.1 (ad 5)) z NEG)) else n_X4_heed_46 N S N (rowI g (ad 5) (upd (g.1 (ad 5)) z NEG)) (ad 4) (ad b) (nI k) (nI z) (nI 0)) = some ((), g1) → f_X4_heed N S g (ad 4) (ad b) (nI k) = some ((), g1) := by
      intro g1 hg
      show b_X4_heed_0 N S g _ _ _ = _
      unfold b_X4_heed_0
      simp (disch := (first | assumption | omega | (apply Inj.ne <;> first | assumption | omega) | fail)) only [nn_S, nm_D, ck_T, c2_S, on_N, on_S, lit, mNEG, nI_add, pk_mul, inb_nI, nI_clamp, wrI_row, wrL_row, rdR_rowI, rdR_rowL, rdI_def, rdL_def, rowI_same, rowI_ne, rowI_rowI, rowL_same, rowL_ne, rowL_1, rowI_21, upd_same, upd_ne, nI_le_T, nI_le_F, nI_lt_T, nI_lt_F, nI_eq_F, nI_NEG, NEG_lt0, nI_p, eq_self, if_true, if_false, hP.1.1, hP.1.2.1, hP.2.2.1.1, hP.2.2.2.2.2.2.2.1, (hM.2 k hk).1]
      rw [z3, c2_S, if_neg (show ¬ nI z = NEG by rw [nI_NEG (by omega)]; exact not_false)]
      simp (disch := (first | assumption | omega | (apply Inj.ne <;> first | assumption | omega) | fail)) only [nn_S, nm_D, ck_T, c2_S, on_N, on_S, lit, mNEG, nI_add, pk_mul, inb_nI, nI_clamp, wrI_row, wrL_row, rdR_rowI, rdR_rowL, rdI_def, rdL_def, rowI_same, rowI_ne, rowI_rowI, rowL_same, rowL_ne, rowL_1, rowI_21, upd_same, upd_ne, nI_le_T, nI_le_F, nI_lt_T, nI_lt_F, nI_eq_F, nI_NEG, NEG_lt0, nI_p, eq_self, if_true, if_false, hS.2.1.2.1, hS.2.1.2.2.2.2.2.1, hP.1.2.1, hP.2.2.1.2.2, hP.2.2.2.2.2.2.2.2.2, (hM.2 k hk).2.2]
      by_cases h1 : mhi A k = true
      · rw [if_pos h1] at hg
        rw [h1, if_neg (by decide)]
        exact hg
      · rw [if_neg h1] at hg
        rw [show mhi A k = false by simpa using h1, if_pos (by decide)]
        exact hg
    by_cases h1 : mhi A k = true
    · refine ⟨rowI g (ad 5) (upd (g.1 (ad 5)) z NEG), hst _ (by rw [if_pos h1]), Fr.row hI rfl, fun q hq => ?_⟩
      simp (disch := (first | assumption | omega | (apply Inj.ne <;> first | assumption | omega) | fail)) only [nn_S, nm_D, ck_T, c2_S, on_N, on_S, lit, mNEG, nI_add, pk_mul, inb_nI, nI_clamp, wrI_row, wrL_row, rdR_rowI, rdR_rowL, rdI_def, rdL_def, rowI_same, rowI_ne, rowI_rowI, rowL_same, rowL_ne, rowL_1, rowI_21, upd_same, upd_ne, nI_le_T, nI_le_F, nI_lt_T, nI_lt_F, nI_eq_F, nI_NEG, NEG_lt0, nI_p, eq_self, if_true, if_false]
      by_cases e : q = z
      · rw [if_pos ((hz q hq).mpr e), if_pos h1, e, upd_same]
      · rw [if_neg (fun w => e ((hz q hq).mp w)), upd_ne _ _ e]; exact hv q hq
    · obtain ⟨g1, a1, a2, a3, a4⟩ := c_heed46 hI hb hW hk z1 (msi A k) N 0 (rowI g (ad 5) (upd (g.1 (ad 5)) z NEG)) (by omega) (by omega) (hS.fr rfl) (hP.fr rfl) (by
        refine ⟨?_, fun k hk => ?_⟩
        · simp (disch := (first | assumption | omega | (apply Inj.ne <;> first | assumption | omega) | fail)) only [nn_S, nm_D, ck_T, c2_S, on_N, on_S, lit, mNEG, nI_add, pk_mul, inb_nI, nI_clamp, wrI_row, wrL_row, rdR_rowI, rdR_rowL, rdI_def, rdL_def, rowI_same, rowI_ne, rowI_rowI, rowL_same, rowL_ne, rowL_1, rowI_21, upd_same, upd_ne, nI_le_T, nI_le_F, nI_lt_T, nI_lt_F, nI_eq_F, nI_NEG, NEG_lt0, nI_p, eq_self, if_true, if_false]; exact hM.1
        · simp (disch := (first | assumption | omega | (apply Inj.ne <;> first | assumption | omega) | fail)) only [nn_S, nm_D, ck_T, c2_S, on_N, on_S, lit, mNEG, nI_add, pk_mul, inb_nI, nI_clamp, wrI_row, wrL_row, rdR_rowI, rdR_rowL, rdI_def, rdL_def, rowI_same, rowI_ne, rowI_rowI, rowL_same, rowL_ne, rowL_1, rowI_21, upd_same, upd_ne, nI_le_T, nI_le_F, nI_lt_T, nI_lt_F, nI_eq_F, nI_NEG, NEG_lt0, nI_p, eq_self, if_true, if_false]; exact hM.2 k hk) (fun i hi => by simp (disch := (first | assumption | omega | (apply Inj.ne <;> first | assumption | omega) | fail)) only [nn_S, nm_D, ck_T, c2_S, on_N, on_S, lit, mNEG, nI_add, pk_mul, inb_nI, nI_clamp, wrI_row, wrL_row, rdR_rowI, rdR_rowL, rdI_def, rdL_def, rowI_same, rowI_ne, rowI_rowI, rowL_same, rowL_ne, rowL_1, rowI_21, upd_same, upd_ne, nI_le_T, nI_le_F, nI_lt_T, nI_lt_F, nI_eq_F, nI_NEG, NEG_lt0, nI_p, eq_self, if_true, if_false]; exact hU i hi) (by simp (disch := (first | assumption | omega | (apply Inj.ne <;> first | assumption | omega) | fail)) only [nn_S, nm_D, ck_T, c2_S, on_N, on_S, lit, mNEG, nI_add, pk_mul, inb_nI, nI_clamp, wrI_row, wrL_row, rdR_rowI, rdR_rowL, rdI_def, rdL_def, rowI_same, rowI_ne, rowI_rowI, rowL_same, rowL_ne, rowL_1, rowI_21, upd_same, upd_ne, nI_le_T, nI_le_F, nI_lt_T, nI_lt_F, nI_eq_F, nI_NEG, NEG_lt0, nI_p, eq_self, if_true, if_false]; rfl)
      refine ⟨g1, hst _ (by rw [if_neg h1]; exact a1), Fr.rt hI a2 rfl, fun q hq => ?_⟩
      by_cases e : q = z
      · rw [if_pos ((hz q hq).mpr e), if_neg h1, e]; exact a3
      · rw [if_neg (fun w => e ((hz q hq).mp w)), a4 q e]
        simp (disch := (first | assumption | omega | (apply Inj.ne <;> first | assumption | omega) | fail)) only [nn_S, nm_D, ck_T, c2_S, on_N, on_S, lit, mNEG, nI_add, pk_mul, inb_nI, nI_clamp, wrI_row, wrL_row, rdR_rowI, rdR_rowL, rdI_def, rdL_def, rowI_same, rowI_ne, rowI_rowI, rowL_same, rowL_ne, rowL_1, rowI_21, upd_same, upd_ne, nI_le_T, nI_le_F, nI_lt_T, nI_lt_F, nI_eq_F, nI_NEG, NEG_lt0, nI_p, eq_self, if_true, if_false]
        exact hv q hq
  · refine ⟨g, ?_, Fr.rf, fun q hq => ?_⟩
    · show b_X4_heed_0 N S g _ _ _ = _
      unfold b_X4_heed_0
      simp (disch := (first | assumption | omega | (apply Inj.ne <;> first | assumption | omega) | fail)) only [nn_S, nm_D, ck_T, c2_S, on_N, on_S, lit, mNEG, nI_add, pk_mul, inb_nI, nI_clamp, wrI_row, wrL_row, rdR_rowI, rdR_rowL, rdI_def, rdL_def, rowI_same, rowI_ne, rowI_rowI, rowL_same, rowL_ne, rowL_1, rowI_21, upd_same, upd_ne, nI_le_T, nI_le_F, nI_lt_T, nI_lt_F, nI_eq_F, nI_NEG, NEG_lt0, nI_p, eq_self, if_true, if_false, hP.1.1, hP.1.2.1, hP.2.2.1.1, hP.2.2.2.2.2.2.2.1, (hM.2 k hk).1]
      rw [z3, c2_S, if_pos rfl]
    · rw [if_neg (fun e => z1 q hq e.symm)]
      exact hv q hq
