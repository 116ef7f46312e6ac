/-- the numbers inside the MAP at n, by their WAYS -/
def InsOk (A : ALog) (n m : Nat) (ins : Nat → Nat) : Prop := m ≤ lks A ∧ (∀ k, k < m → ins k < lks A ∧ LAT A n (lK A (ins k)) ≠ NEG) ∧ (∀ i j, i < j → j < m → Ahead (WAY (lK A (ins i))) (WAY (lK A (ins j)))) ∧ (∀ q, q < lks A → LAT A n (lK A q) ≠ NEG → ∃ k, k < m ∧ ins k = q)
def MapR (g : Hg) (ad : Nat → Nat) (A : ALog) (n m : Nat) (ins : Nat → Nat) : Prop := (∀ q, q < lks A → g.1 (ad 5) q = LAT A n (lK A q)) ∧ g.1 (ad 4) 5 = nI m ∧ (∀ k, k < m → g.1 (ad 6) k = nI (ins k))
theorem CMark.fr {ad : Nat → Nat} {g g1 : Hg} {b : Nat} {A : ALog} {R : Nat → Prop} (h : CMark g ad b A) (hf : Fr ad R g g1) (hr : ¬ R (b + 2) ∧ ¬ R (b + 11) ∧ ¬ R (b + 12) ∧ ¬ R (b + 13)) : CMark g1 ad b A := by
  unfold CMark
  rw [hf.I hr.1, hf.I hr.2.1, hf.I hr.2.2.1, hf.I hr.2.2.2]
  exact h
theorem CKey.fr {ad : Nat → Nat} {g g1 : Hg} {b ks : Nat} {K : Nat → Int32} {od : Nat → Nat} {R : Nat → Prop} (h : CKey g ad b K ks od) (hf : Fr ad R g g1) (hr : ¬ R (b + 1) ∧ ¬ R (b + 8) ∧ ¬ R (b + 9) ∧ ¬ R (b + 10)) : CKey g1 ad b K ks od := by
  unfold CKey
  rw [hf.I hr.1, hf.I hr.2.1, hf.I hr.2.2.1, hf.I hr.2.2.2]
  exact h
theorem CKy.fr {ad : Nat → Nat} {g g1 : Hg} {b : Nat} {A : ALog} {R : Nat → Prop} (h : CKy g ad b A) (hf : Fr ad R g g1) (hr : ¬ R (b + 1) ∧ ¬ R (b + 8) ∧ ¬ R (b + 9) ∧ ¬ R (b + 10)) : CKy g1 ad b A := CKey.fr h hf hr
theorem CNum.fr {ad : Nat → Nat} {g g1 : Hg} {b : Nat} {A : ALog} {R : Nat → Prop} (h : CNum g ad b A) (hf : Fr ad R g g1) (hr : ¬ R (b + 3)) : CNum g1 ad b A := by
  unfold CNum
  rw [hf.I hr]
  exact h
theorem c_read86 {N : Nat} {S : Hs} {ad : Nat → Nat} (hI : Inj ad) {b : Nat} (hb : 100 ≤ b) {A : ALog} (hW : LogWf A) {nn_ : Nat} : ∀ (i n k : Nat) (g : Hg) (m : Nat) (ins : Nat → Nat), k + i = lks A → i < n → m ≤ k → ScP S g ad → LgP S g ad b → CKy g ad b A → MapR g ad A nn_ m ins → (∀ z, z < m → ∃ j, j < k ∧ ins z = lod A j ∧ LAT A nn_ (lK A (ins z)) ≠ NEG) → (∀ y z, y < z → z < m → Ahead (WAY (lK A (ins y))) (WAY (lK A (ins z)))) → (∀ j, j < k → LAT A nn_ (lK A (lod A j)) ≠ NEG → ∃ z, z < m ∧ ins z = lod A j) →
    ∃ g1 m1 ins1, n_X4_read_86 N S n g (ad 4) (ad b) (nI k) = some ((), g1) ∧ Fr ad (fun r => r = 4 ∨ r = 6) g g1 ∧ MapR g1 ad A nn_ m1 ins1 ∧ InsOk A nn_ m1 ins1 := by
  have hO := hW.2.2.2.2.1.1
  obtain ⟨hks, o2, o3, o4, o5⟩ := id hO
  intro i
  induction i with
  | zero =>
    intro n k g m ins h1 h2 hm hS hP hC hR a1 a2 a3
    obtain ⟨n, rfl⟩ : ∃ z, n = z + 1 := ⟨n - 1, by omega⟩
    refine ⟨g, m, ins, ?_, Fr.rf, hR, by omega, fun z hz => ?_, a2, fun q hq hl => ?_⟩
    · show b_X4_read_86 N S (n_X4_read_86 N S n) g _ _ _ = _
      unfold b_X4_read_86
      simp (disch := (first | assumption | omega | (apply Inj.ne <;> first | assumption | omega) | fail)) only [nn_S, nm_D, ck_T, c2_S, on_N, on_S, lit, mNEG, nI_add, pk_mul, inb_nI, nI_clamp, wrI_row, wrL_row, rdR_rowI, rdR_rowL, rdI_def, rdL_def, rowI_same, rowI_ne, rowI_rowI, rowL_same, rowL_ne, rowL_1, rowI_21, upd_same, upd_ne, nI_le_T, nI_le_F, nI_lt_T, nI_lt_F, nI_eq_F, nI_NEG, NEG_lt0, nI_p, eq_self, if_true, if_false, hP.1.1, hC.1]
    · obtain ⟨j, j1, j2, j3⟩ := a1 z hz
      exact ⟨by rw [j2]; exact o3 j (by omega), j3⟩
    · obtain ⟨j, j1, j2⟩ := o5 q hq
      rw [← j2] at hl ⊢
      exact a3 j (by omega) hl
  | succ i ih =>
    intro n k g m ins h1 h2 hm hS hP hC hR a1 a2 a3
    obtain ⟨n, rfl⟩ : ∃ z, n = z + 1 := ⟨n - 1, by omega⟩
    have hok := o3 k (by omega)
    have hod := hC.2.2.2 k (by omega)
    have hlt := hR.1 (lod A k) hok
    by_cases hc : LAT A nn_ (lK A (lod A k)) = NEG
    · obtain ⟨g1, m1, ins1, q1, q2, q3, q4⟩ := ih n (k + 1) g m ins (by omega) (by omega) (by omega) hS hP hC hR (fun z hz => by
        obtain ⟨j, j1, j2⟩ := a1 z hz
        exact ⟨j, by omega, j2⟩) a2 (fun j j1 j2 => by
        by_cases e : j = k
        · rw [e] at j2; exact absurd hc j2
        · exact a3 j (by omega) j2)
      refine ⟨g1, m1, ins1, ?_, q2, q3, q4⟩
      show b_X4_read_86 N S (n_X4_read_86 N S n) g _ _ _ = _
      unfold b_X4_read_86
      simp (disch := (first | assumption | omega | (apply Inj.ne <;> first | assumption | omega) | fail)) only [nn_S, nm_D, ck_T, c2_S, on_N, on_S, lit, mNEG, nI_add, pk_mul, inb_nI, nI_clamp, wrI_row, wrL_row, rdR_rowI, rdR_rowL, rdI_def, rdL_def, rowI_same, rowI_ne, rowI_rowI, rowL_same, rowL_ne, rowL_1, rowI_21, upd_same, upd_ne, nI_le_T, nI_le_F, nI_lt_T, nI_lt_F, nI_eq_F, nI_NEG, NEG_lt0, nI_p, eq_self, if_true, if_false, hP.1.1, hC.1, hP.2.1.2.2, hP.2.2.2.2.2.2.1, hod, hS.2.1.2.1, hS.2.1.2.2.2.2.2.1, hlt, hc]
      exact q1
    · obtain ⟨g1, m1, ins1, q1, q2, q3, q4⟩ := ih n (k + 1) (rowI (rowI g (ad 6) (upd (g.1 (ad 6)) m (nI (lod A k)))) (ad 4) (upd (g.1 (ad 4)) 5 (nI (m + 1)))) (m + 1) (va_up ins m (lod A k)) (by omega) (by omega) (by omega) (hS.fr rfl) (hP.fr rfl) (by
        obtain ⟨c1, c2, c3, c4⟩ := hC
        refine ⟨?_, fun q hq => ?_, fun q hq => ?_, fun q hq => ?_⟩
        · simp (disch := (first | assumption | omega | (apply Inj.ne <;> first | assumption | omega) | fail)) only [nn_S, nm_D, ck_T, c2_S, on_N, on_S, lit, mNEG, nI_add, pk_mul, inb_nI, nI_clamp, wrI_row, wrL_row, rdR_rowI, rdR_rowL, rdI_def, rdL_def, rowI_same, rowI_ne, rowI_rowI, rowL_same, rowL_ne, rowL_1, rowI_21, upd_same, upd_ne, nI_le_T, nI_le_F, nI_lt_T, nI_lt_F, nI_eq_F, nI_NEG, NEG_lt0, nI_p, eq_self, if_true, if_false]; exact c1
        · simp (disch := (first | assumption | omega | (apply Inj.ne <;> first | assumption | omega) | fail)) only [nn_S, nm_D, ck_T, c2_S, on_N, on_S, lit, mNEG, nI_add, pk_mul, inb_nI, nI_clamp, wrI_row, wrL_row, rdR_rowI, rdR_rowL, rdI_def, rdL_def, rowI_same, rowI_ne, rowI_rowI, rowL_same, rowL_ne, rowL_1, rowI_21, upd_same, upd_ne, nI_le_T, nI_le_F, nI_lt_T, nI_lt_F, nI_eq_F, nI_NEG, NEG_lt0, nI_p, eq_self, if_true, if_false]; exact c2 q hq
        · simp (disch := (first | assumption | omega | (apply Inj.ne <;> first | assumption | omega) | fail)) only [nn_S, nm_D, ck_T, c2_S, on_N, on_S, lit, mNEG, nI_add, pk_mul, inb_nI, nI_clamp, wrI_row, wrL_row, rdR_rowI, rdR_rowL, rdI_def, rdL_def, rowI_same, rowI_ne, rowI_rowI, rowL_same, rowL_ne, rowL_1, rowI_21, upd_same, upd_ne, nI_le_T, nI_le_F, nI_lt_T, nI_lt_F, nI_eq_F, nI_NEG, NEG_lt0, nI_p, eq_self, if_true, if_false]; exact c3 q hq
        · simp (disch := (first | assumption | omega | (apply Inj.ne <;> first | assumption | omega) | fail)) only [nn_S, nm_D, ck_T, c2_S, on_N, on_S, lit, mNEG, nI_add, pk_mul, inb_nI, nI_clamp, wrI_row, wrL_row, rdR_rowI, rdR_rowL, rdI_def, rdL_def, rowI_same, rowI_ne, rowI_rowI, rowL_same, rowL_ne, rowL_1, rowI_21, upd_same, upd_ne, nI_le_T, nI_le_F, nI_lt_T, nI_lt_F, nI_eq_F, nI_NEG, NEG_lt0, nI_p, eq_self, if_true, if_false]; exact c4 q hq) (by
        refine ⟨fun q hq => ?_, ?_, fun z hz => ?_⟩
        · simp (disch := (first | assumption | omega | (apply Inj.ne <;> first | assumption | omega) | fail)) only [nn_S, nm_D, ck_T, c2_S, on_N, on_S, lit, mNEG, nI_add, pk_mul, inb_nI, nI_clamp, wrI_row, wrL_row, rdR_rowI, rdR_rowL, rdI_def, rdL_def, rowI_same, rowI_ne, rowI_rowI, rowL_same, rowL_ne, rowL_1, rowI_21, upd_same, upd_ne, nI_le_T, nI_le_F, nI_lt_T, nI_lt_F, nI_eq_F, nI_NEG, NEG_lt0, nI_p, eq_self, if_true, if_false]; exact hR.1 q hq
        · simp (disch := (first | assumption | omega | (apply Inj.ne <;> first | assumption | omega) | fail)) only [nn_S, nm_D, ck_T, c2_S, on_N, on_S, lit, mNEG, nI_add, pk_mul, inb_nI, nI_clamp, wrI_row, wrL_row, rdR_rowI, rdR_rowL, rdI_def, rdL_def, rowI_same, rowI_ne, rowI_rowI, rowL_same, rowL_ne, rowL_1, rowI_21, upd_same, upd_ne, nI_le_T, nI_le_F, nI_lt_T, nI_lt_F, nI_eq_F, nI_NEG, NEG_lt0, nI_p, eq_self, if_true, if_false]
        · by_cases e : z = m
          · subst e; simp (disch := (first | assumption | omega | (apply Inj.ne <;> first | assumption | omega) | fail)) only [nn_S, nm_D, ck_T, c2_S, on_N, on_S, lit, mNEG, nI_add, pk_mul, inb_nI, nI_clamp, wrI_row, wrL_row, rdR_rowI, rdR_rowL, rdI_def, rdL_def, rowI_same, rowI_ne, rowI_rowI, rowL_same, rowL_ne, rowL_1, rowI_21, upd_same, upd_ne, nI_le_T, nI_le_F, nI_lt_T, nI_lt_F, nI_eq_F, nI_NEG, NEG_lt0, nI_p, eq_self, if_true, if_false]; simp [va_up]
          · simp (disch := (first | assumption | omega | (apply Inj.ne <;> first | assumption | omega) | fail)) only [nn_S, nm_D, ck_T, c2_S, on_N, on_S, lit, mNEG, nI_add, pk_mul, inb_nI, nI_clamp, wrI_row, wrL_row, rdR_rowI, rdR_rowL, rdI_def, rdL_def, rowI_same, rowI_ne, rowI_rowI, rowL_same, rowL_ne, rowL_1, rowI_21, upd_same, upd_ne, nI_le_T, nI_le_F, nI_lt_T, nI_lt_F, nI_eq_F, nI_NEG, NEG_lt0, nI_p, eq_self, if_true, if_false]; simp only [va_up, e, if_false]; exact hR.2.2 z (by omega)) (fun z hz => by
        by_cases e : z = m
        · subst e; exact ⟨k, by omega, by simp [va_up], by simp [va_up]; exact hc⟩
        · obtain ⟨j, j1, j2, j3⟩ := a1 z (by omega)
          simp only [va_up, e, if_false]
          exact ⟨j, by omega, j2, j3⟩) (fun y z hyz hz => by
        by_cases e : z = m
        · subst e
          obtain ⟨j, j1, j2, j3⟩ := a1 y hyz
          simp only [va_up, show y ≠ z by omega, if_false, if_true]
          rw [j2]
          exact o4 j k j1 (by omega)
        · simp only [va_up, e, show y ≠ m by omega, if_false]
          exact a2 y z hyz (by omega)) (fun j j1 j2 => by
        by_cases e : j = k
        · exact ⟨m, by omega, by simp [va_up, e]⟩
        · obtain ⟨z, z1, z2⟩ := a3 j (by omega) j2
          exact ⟨z, by omega, by simp only [va_up, show z ≠ m by omega, if_false]; exact z2⟩)
      refine ⟨g1, m1, ins1, ?_, Fr.rt hI (Fr.rt hI q2 (Or.inl rfl)) (Or.inr rfl), q3, q4⟩
      show b_X4_read_86 N S (n_X4_read_86 N S n) g _ _ _ = _
      unfold b_X4_read_86
      simp (disch := (first | assumption | omega | (apply Inj.ne <;> first | assumption | omega) | fail)) only [nn_S, nm_D, ck_T, c2_S, on_N, on_S, lit, mNEG, nI_add, pk_mul, inb_nI, nI_clamp, wrI_row, wrL_row, rdR_rowI, rdR_rowL, rdI_def, rdL_def, rowI_same, rowI_ne, rowI_rowI, rowL_same, rowL_ne, rowL_1, rowI_21, upd_same, upd_ne, nI_le_T, nI_le_F, nI_lt_T, nI_lt_F, nI_eq_F, nI_NEG, NEG_lt0, nI_p, eq_self, if_true, if_false, hP.1.1, hC.1, hP.2.1.2.2, hP.2.2.2.2.2.2.1, hod, hS.2.1.2.1, hS.2.1.2.2.2.2.2.1, hlt, hc, hS.2.1.2.2.1, hS.2.1.2.2.2.2.2.2.1, hR.2.1]
      exact q1
theorem LV_step {A : ALog} (hW : LogWf A) {n k q : Nat} (hk : k < lmk A) : LV A n q (k + 1) = if msi A k ≤ n then (if mky A k = lK A q then (if mhi A k then NEG else L0 (lnu A) q (msi A k)) else LV A n q k) else LV A n q k := by
  have hd := hW.2.2.2.1
  unfold LV
  cases hc : MW A (lK A q) k with
  | some w =>
    obtain ⟨w1, w2⟩ := MW_some hc
    have hne : mky A k ≠ lK A q := fun e => hd w k w1 hk (w2.trans e.symm)
    have e1 : MW A (lK A q) (k + 1) = some w := by unfold MW; rw [hc]
    simp only [e1, if_neg hne]
    by_cases h1 : msi A k ≤ n
    · rw [if_pos h1]
    · rw [if_neg h1]
  | none =>
    by_cases he : mky A k = lK A q
    · have e1 : MW A (lK A q) (k + 1) = some k := by unfold MW; rw [hc]; simp [he]
      simp only [e1, if_pos he]
    · have e1 : MW A (lK A q) (k + 1) = none := by unfold MW; rw [hc]; simp [he]
      simp only [e1, if_neg he]
      by_cases h1 : msi A k ≤ n
      · rw [if_pos h1]
      · rw [if_neg h1]
theorem c_read43 {N : Nat} (hN : 40000 ≤ N) {S : Hs} {ad : Nat → Nat} (hI : Inj ad) {b : Nat} (hb : 100 ≤ b) {A : ALog} (hW : LogWf A) {nn_ : Nat} (hnn : nn_ ≤ lsz A) : ∀ (i n k : Nat) (g : Hg), k + i = lmk A → i < n → ScP S g ad → LgP S g ad b → CMark g ad b A → CNum g ad b A → CKy g ad b A → (∀ q, q < lks A → g.1 (ad 5) q = LV A nn_ q k) →
    ∃ g1 m1 ins1, n_X4_read_43 N S n g (ad 4) (ad b) (nI nn_) (nI k) = some ((), g1) ∧ Fr ad (fun r => r = 4 ∨ r = 5 ∨ r = 6) g g1 ∧ MapR g1 ad A nn_ m1 ins1 ∧ InsOk A nn_ m1 ins1 := by
  have hmk := hW.2.1
  have hks := hW.2.2.2.2.1.1.1
  have hsz := hW.1
  intro i
  induction i with
  | zero =>
    intro n k g h1 h2 hS hP hM hU hC hv
    obtain ⟨n, rfl⟩ : ∃ z, n = z + 1 := ⟨n - 1, by omega⟩
    obtain rfl : k = lmk A := by omega
    obtain ⟨g1, m1, ins1, q1, q2, q3, q4⟩ := c_read86 (N := N) hI hb hW (nn_ := nn_) (lks A) N 0 (rowI g (ad 4) (upd (g.1 (ad 4)) 5 (nI 0))) 0 (fun _ => 0) (by omega) (by omega) (by omega) (hS.fr rfl) (hP.fr rfl) (by
        obtain ⟨c1, c2, c3, c4⟩ := hC
        refine ⟨?_, fun q hq => ?_, fun q hq => ?_, fun q hq => ?_⟩
        · simp (disch := (first | assumption | omega | (apply Inj.ne <;> first | assumption | omega) | fail)) only [nn_S, nm_D, ck_T, c2_S, on_N, on_S, lit, mNEG, nI_add, pk_mul, inb_nI, nI_clamp, wrI_row, wrL_row, rdR_rowI, rdR_rowL, rdI_def, rdL_def, rowI_same, rowI_ne, rowI_rowI, rowL_same, rowL_ne, rowL_1, rowI_21, upd_same, upd_ne, nI_le_T, nI_le_F, nI_lt_T, nI_lt_F, nI_eq_F, nI_NEG, NEG_lt0, nI_p, eq_self, if_true, if_false]; exact c1
        · simp (disch := (first | assumption | omega | (apply Inj.ne <;> first | assumption | omega) | fail)) only [nn_S, nm_D, ck_T, c2_S, on_N, on_S, lit, mNEG, nI_add, pk_mul, inb_nI, nI_clamp, wrI_row, wrL_row, rdR_rowI, rdR_rowL, rdI_def, rdL_def, rowI_same, rowI_ne, rowI_rowI, rowL_same, rowL_ne, rowL_1, rowI_21, upd_same, upd_ne, nI_le_T, nI_le_F, nI_lt_T, nI_lt_F, nI_eq_F, nI_NEG, NEG_lt0, nI_p, eq_self, if_true, if_false]; exact c2 q hq
        · simp (disch := (first | assumption | omega | (apply Inj.ne <;> first | assumption | omega) | fail)) only [nn_S, nm_D, ck_T, c2_S, on_N, on_S, lit, mNEG, nI_add, pk_mul, inb_nI, nI_clamp, wrI_row, wrL_row, rdR_rowI, rdR_rowL, rdI_def, rdL_def, rowI_same, rowI_ne, rowI_rowI, rowL_same, rowL_ne, rowL_1, rowI_21, upd_same, upd_ne, nI_le_T, nI_le_F, nI_lt_T, nI_lt_F, nI_eq_F, nI_NEG, NEG_lt0, nI_p, eq_self, if_true, if_false]; exact c3 q hq
        · simp (disch := (first | assumption | omega | (apply Inj.ne <;> first | assumption | omega) | fail)) only [nn_S, nm_D, ck_T, c2_S, on_N, on_S, lit, mNEG, nI_add, pk_mul, inb_nI, nI_clamp, wrI_row, wrL_row, rdR_rowI, rdR_rowL, rdI_def, rdL_def, rowI_same, rowI_ne, rowI_rowI, rowL_same, rowL_ne, rowL_1, rowI_21, upd_same, upd_ne, nI_le_T, nI_le_F, nI_lt_T, nI_lt_F, nI_eq_F, nI_NEG, NEG_lt0, nI_p, eq_self, if_true, if_false]; exact c4 q hq) ⟨fun q hq => by simp (disch := (first | assumption | omega | (apply Inj.ne <;> first | assumption | omega) | fail)) only [nn_S, nm_D, ck_T, c2_S, on_N, on_S, lit, mNEG, nI_add, pk_mul, inb_nI, nI_clamp, wrI_row, wrL_row, rdR_rowI, rdR_rowL, rdI_def, rdL_def, rowI_same, rowI_ne, rowI_rowI, rowL_same, rowL_ne, rowL_1, rowI_21, upd_same, upd_ne, nI_le_T, nI_le_F, nI_lt_T, nI_lt_F, nI_eq_F, nI_NEG, NEG_lt0, nI_p, eq_self, if_true, if_false]; rw [hv q hq]; exact LV_LAT hW hnn hq, by simp (disch := (first | assumption | omega | (apply Inj.ne <;> first | assumption | omega) | fail)) only [nn_S, nm_D, ck_T, c2_S, on_N, on_S, lit, mNEG, nI_add, pk_mul, inb_nI, nI_clamp, wrI_row, wrL_row, rdR_rowI, rdR_rowL, rdI_def, rdL_def, rowI_same, rowI_ne, rowI_rowI, rowL_same, rowL_ne, rowL_1, rowI_21, upd_same, upd_ne, nI_le_T, nI_le_F, nI_lt_T, nI_lt_F, nI_eq_F, nI_NEG, NEG_lt0, nI_p, eq_self, if_true, if_false], fun z hz => absurd hz (by omega)⟩ (fun z hz => absurd hz (by omega)) (fun y z hyz hz => absurd hz (by omega)) (fun j hj => absurd hj (by omega))
    refine ⟨g1, m1, ins1, ?_, Fr.rt hI (q2.mono (fun r h => by omega)) (Or.inl rfl), q3, q4⟩
    show b_X4_read_43 N S (n_X4_read_43 N S n) g _ _ _ _ = _
    unfold b_X4_read_43
    simp (disch := (first | assumption | omega | (apply Inj.ne <;> first | assumption | omega) | fail)) only [nn_S, nm_D, ck_T, c2_S, on_N, on_S, lit, mNEG, nI_add, pk_mul, inb_nI, nI_clamp, wrI_row, wrL_row, rdR_rowI, rdR_rowL, rdI_def, rdL_def, rowI_same, rowI_ne, rowI_rowI, rowL_same, rowL_ne, rowL_1, rowI_21, upd_same, upd_ne, nI_le_T, nI_le_F, nI_lt_T, nI_lt_F, nI_eq_F, nI_NEG, NEG_lt0, nI_p, eq_self, if_true, if_false, hP.1.2.1, hM.1]
    exact q1
  | succ i ih =>
    intro n k g h1 h2 hS hP hM hU hC hv
    obtain ⟨n, rfl⟩ : ∃ z, n = z + 1 := ⟨n - 1, by omega⟩
    have hms := hW.2.2.1 k (by omega)
    by_cases hc : msi A k ≤ nn_
    · obtain ⟨g2, a1, a2, a3⟩ := c_heed hN hI hb hW (k := k) (by omega) hS hP hM hU hC hv
      obtain ⟨g1, m1, ins1, q1, q2, q3, q4⟩ := ih n (k + 1) g2 (by omega) (by omega) (hS.fr a2.1) (hP.fr a2.1) (hM.fr a2 (by omega)) (hU.fr a2 (by omega)) (hC.fr a2 (by omega)) (fun q hq => by rw [a3 q hq, LV_step hW (by omega), if_pos hc])
      refine ⟨g1, m1, ins1, ?_, (a2.mono (fun r h => by omega)).tr q2, q3, q4⟩
      show b_X4_read_43 N S (n_X4_read_43 N S n) g _ _ _ _ = _
      unfold b_X4_read_43
      simp (disch := (first | assumption | omega | (apply Inj.ne <;> first | assumption | omega) | fail)) only [nn_S, nm_D, ck_T, c2_S, on_N, on_S, lit, mNEG, nI_add, pk_mul, inb_nI, nI_clamp, wrI_row, wrL_row, rdR_rowI, rdR_rowL, rdI_def, rdL_def, rowI_same, rowI_ne, rowI_rowI, rowL_same, rowL_ne, rowL_1, rowI_21, upd_same, upd_ne, nI_le_T, nI_le_F, nI_lt_T, nI_lt_F, nI_eq_F, nI_NEG, NEG_lt0, nI_p, eq_self, if_true, if_false, hP.1.2.1, hM.1, hP.2.2.1.2.1, hP.2.2.2.2.2.2.2.2.1, (hM.2 k (show k < lmk A by omega)).2.1]
      rw [a1, c2_S]
      exact q1
    · obtain ⟨g1, m1, ins1, q1, q2, q3, q4⟩ := ih n (k + 1) g (by omega) (by omega) hS hP hM hU hC (fun q hq => by rw [hv q hq, LV_step hW (by omega), if_neg hc])
      refine ⟨g1, m1, ins1, ?_, q2, q3, q4⟩
      show b_X4_read_43 N S (n_X4_read_43 N S n) g _ _ _ _ = _
      unfold b_X4_read_43
      simp (disch := (first | assumption | omega | (apply Inj.ne <;> first | assumption | omega) | fail)) only [nn_S, nm_D, ck_T, c2_S, on_N, on_S, lit, mNEG, nI_add, pk_mul, inb_nI, nI_clamp, wrI_row, wrL_row, rdR_rowI, rdR_rowL, rdI_def, rdL_def, rowI_same, rowI_ne, rowI_rowI, rowL_same, rowL_ne, rowL_1, rowI_21, upd_same, upd_ne, nI_le_T, nI_le_F, nI_lt_T, nI_lt_F, nI_eq_F, nI_NEG, NEG_lt0, nI_p, eq_self, if_true, if_false, hP.1.2.1, hM.1, hP.2.2.1.2.1, hP.2.2.2.2.2.2.2.2.1, (hM.2 k (show k < lmk A by omega)).2.1]
      exact q1
theorem c_read18 {N : Nat} (hN : 40000 ≤ N) {S : Hs} {ad : Nat → Nat} (hI : Inj ad) {b : Nat} (hb : 100 ≤ b) {A : ALog} (hW : LogWf A) {nn_ : Nat} (hnn : nn_ ≤ lsz A) : ∀ (i n j : Nat) (g : Hg), j + i = nn_ → i < n → ScP S g ad → LgP S g ad b → CMark g ad b A → CNum g ad b A → CKy g ad b A → (∀ q, q < lks A → g.1 (ad 5) q = L0 (lnu A) q j) →
    ∃ g1 m1 ins1, n_X4_read_18 N S n g (ad 4) (ad b) (nI nn_) (nI j) = some ((), g1) ∧ Fr ad (fun r => r = 4 ∨ r = 5 ∨ r = 6) g g1 ∧ MapR g1 ad A nn_ m1 ins1 ∧ InsOk A nn_ m1 ins1 := by
  have hmk := hW.2.1
  have hks := hW.2.2.2.2.1.1.1
  have hsz := hW.1
  intro i
  induction i with
  | zero =>
    intro n j g h1 h2 hS hP hM hU hC hv
    obtain ⟨n, rfl⟩ : ∃ z, n = z + 1 := ⟨n - 1, by omega⟩
    obtain rfl : j = nn_ := by omega
    obtain ⟨g1, m1, ins1, q1, q2, q3, q4⟩ := c_read43 hN hI hb hW hnn (lmk A) N 0 g (by omega) (by omega) hS hP hM hU hC hv
    refine ⟨g1, m1, ins1, ?_, q2, q3, q4⟩
    show b_X4_read_18 N S (n_X4_read_18 N S n) g _ _ _ _ = _
    unfold b_X4_read_18
    simp (disch := (first | assumption | omega | (apply Inj.ne <;> first | assumption | omega) | fail)) only [nn_S, nm_D, ck_T, c2_S, on_N, on_S, lit, mNEG, nI_add, pk_mul, inb_nI, nI_clamp, wrI_row, wrL_row, rdR_rowI, rdR_rowL, rdI_def, rdL_def, rowI_same, rowI_ne, rowI_rowI, rowL_same, rowL_ne, rowL_1, rowI_21, upd_same, upd_ne, nI_le_T, nI_le_F, nI_lt_T, nI_lt_F, nI_eq_F, nI_NEG, NEG_lt0, nI_p, eq_self, if_true, if_false]
    exact q1
  | succ i ih =>
    intro n j g h1 h2 hS hP hM hU hC hv
    obtain ⟨n, rfl⟩ : ∃ z, n = z + 1 := ⟨n - 1, by omega⟩
    have hnu := hU j (by omega)
    have hnq := (hW.2.2.2.2.1.2.1 j (by omega)).1
    have f1 : Fr ad (fun r => r = 5) g (rowI g (ad 5) (upd (g.1 (ad 5)) (lnu A j) (nI j))) := Fr.row hI rfl
    obtain ⟨g1, m1, ins1, q1, q2, q3, q4⟩ := ih n (j + 1) (rowI g (ad 5) (upd (g.1 (ad 5)) (lnu A j) (nI j))) (by omega) (by omega) (hS.fr rfl) (hP.fr rfl) (hM.fr f1 (by omega)) (hU.fr f1 (by omega)) (hC.fr f1 (by omega)) (fun q hq => by
      simp (disch := (first | assumption | omega | (apply Inj.ne <;> first | assumption | omega) | fail)) only [nn_S, nm_D, ck_T, c2_S, on_N, on_S, lit, mNEG, nI_add, pk_mul, inb_nI, nI_clamp, wrI_row, wrL_row, rdR_rowI, rdR_rowL, rdI_def, rdL_def, rowI_same, rowI_ne, rowI_rowI, rowL_same, rowL_ne, rowL_1, rowI_21, upd_same, upd_ne, nI_le_T, nI_le_F, nI_lt_T, nI_lt_F, nI_eq_F, nI_NEG, NEG_lt0, nI_p, eq_self, if_true, if_false]
      unfold L0
      by_cases e : lnu A j = q
      · rw [if_pos e, e, upd_same]
      · rw [if_neg e, upd_ne _ _ (Ne.symm e)]; exact hv q hq)
    refine ⟨g1, m1, ins1, ?_, (f1.mono (fun r h => by omega)).tr q2, q3, q4⟩
    show b_X4_read_18 N S (n_X4_read_18 N S n) g _ _ _ _ = _
    unfold b_X4_read_18
    simp (disch := (first | assumption | omega | (apply Inj.ne <;> first | assumption | omega) | fail)) only [nn_S, nm_D, ck_T, c2_S, on_N, on_S, lit, mNEG, nI_add, pk_mul, inb_nI, nI_clamp, wrI_row, wrL_row, rdR_rowI, rdR_rowL, rdI_def, rdL_def, rowI_same, rowI_ne, rowI_rowI, rowL_same, rowL_ne, rowL_1, rowI_21, upd_same, upd_ne, nI_le_T, nI_le_F, nI_lt_T, nI_lt_F, nI_eq_F, nI_NEG, NEG_lt0, nI_p, eq_self, if_true, if_false, hS.2.1.2.1, hP.1.2.2.1, hP.2.2.2.1.1, hnu, hS.2.1.2.2.2.2.2.1]
    exact q1
/-- the class reads the MAP at n -/
theorem c_read {N : Nat} (hN : 40000 ≤ N) {S : Hs} {g : Hg} {ad : Nat → Nat} (hI : Inj ad) {b : Nat} (hb : 100 ≤ b) {A : ALog} (hW : LogWf A) {n : Nat} {x : Int32} (e : x = nI n) (hn : n ≤ lsz A) (hS : ScP S g ad) (hP : LgP S g ad b) (hM : CMark g ad b A) (hU : CNum g ad b A) (hC : CKy g ad b A) :
    ∃ g1 m1 ins1, f_X4_read N S g (ad 4) (ad b) x = some ((), g1) ∧ Fr ad (fun r => r = 4 ∨ r = 5 ∨ r = 6) g g1 ∧ MapR g1 ad A n m1 ins1 ∧ InsOk A n m1 ins1 := by
  subst e
  have hks := hW.2.2.2.2.1.1.1
  have hsz := hW.1
  have f1 : Fr ad (fun r => r = 5) g (rowI g (ad 5) (fillR (g.1 (ad 5)) 0 (lks A) (-1))) := Fr.row hI rfl
  obtain ⟨g1, m1, ins1, q1, q2, q3, q4⟩ := c_read18 hN hI hb hW hn n N 0 (rowI g (ad 5) (fillR (g.1 (ad 5)) 0 (lks A) (-1))) (by omega) (by omega) (hS.fr rfl) (hP.fr rfl) (hM.fr f1 (by omega)) (hU.fr f1 (by omega)) (hC.fr f1 (by omega)) (fun q hq => by
    rw [rowI_same]
    unfold fillR
    rw [if_pos (by omega)]
    rfl)
  refine ⟨g1, m1, ins1, ?_, (f1.mono (fun r h => by omega)).tr q2, q3, q4⟩
  show b_X4_read_0 N S g _ _ _ = _
  unfold b_X4_read_0
  rw [hS.2.1.2.1, nn_S, hP.1.1, nn_S, show rdI g (ad (b + 1)) 3 = nI (lks A) from hC.1, j_fill (p := 0) (q := lks A) (x1 := (0 : Int32)) (-1) rfl rfl (by omega) (by rw [hS.2.1.2.2.2.2.2.1]; omega) (by rw [hS.2.1.2.2.2.2.2.1]; decide) (by omega), c2_S]
  exact q1
theorem c_latestOf {N : Nat} {S : Hs} {g : Hg} {ad : Nat → Nat} {q : Nat} {x : Int32} (e : x = nI q) (hq : q < 400) (hS : ScP S g ad) : f_X4_latestOf N S g (ad 4) x = some (g.1 (ad 5) q, g) := by
  subst e
  show b_X4_latestOf_0 N S g _ _ = _
  unfold b_X4_latestOf_0
  rw [if_neg (nI_pos (by omega))]
  simp (disch := (first | assumption | omega | (apply Inj.ne <;> first | assumption | omega) | fail)) only [nn_S, nm_D, ck_T, c2_S, on_N, on_S, lit, mNEG, nI_add, pk_mul, inb_nI, nI_clamp, wrI_row, wrL_row, rdR_rowI, rdR_rowL, rdI_def, rdL_def, rowI_same, rowI_ne, rowI_rowI, rowL_same, rowL_ne, rowL_1, rowI_21, upd_same, upd_ne, nI_le_T, nI_le_F, nI_lt_T, nI_lt_F, nI_eq_F, nI_NEG, NEG_lt0, nI_p, eq_self, if_true, if_false, hS.2.1.2.1, hS.2.1.2.2.2.2.2.1]
theorem c_latestOfN {N : Nat} {S : Hs} {g : Hg} {a : Nat} : f_X4_latestOf N S g a NEG = some (NEG, g) := by
  show b_X4_latestOf_0 N S g _ _ = _
  unfold b_X4_latestOf_0
  rw [if_pos (by decide)]
  rfl
theorem InsOk.len {A : ALog} (hW : LogWf A) {n m : Nat} {ins : Nat → Nat} (h : InsOk A n m ins) : (lst (fun k => lK A (ins k)) 0 m).Perm (KL A n) := by
  obtain ⟨h1, h2, h3, h4⟩ := h
  have hO := hW.2.2.2.2.1.1
  rw [List.perm_ext_iff_of_nodup]
  · intro k
    unfold KL
    rw [List.mem_filter, lst_mem, lst_mem]
    constructor
    · rintro ⟨i, _, i2, i3⟩
      obtain ⟨a1, a2⟩ := h2 i i2
      exact ⟨⟨ins i, by omega, a1, i3⟩, by rw [← i3]; simpa using a2⟩
    · rintro ⟨⟨q, _, q2, q3⟩, hl⟩
      rw [← q3] at hl
      obtain ⟨i, i1, i2⟩ := h4 q q2 (by simpa using hl)
      exact ⟨i, by omega, i1, by rw [i2]; exact q3⟩
  · exact lst_nodup (fun i j _ hij hj e => by
      have := h3 i j hij hj
      rw [show lK A (ins i) = lK A (ins j) from e] at this
      exact this.irr)
  · unfold KL
    exact (lst_nodup (fun i j _ hij hj => hO.2.1 i j hij hj)).filter _
