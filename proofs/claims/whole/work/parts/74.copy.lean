/-! pigeons -/
theorem php : ∀ (n : Nat) (f : Nat → Nat), (∀ i, i ≤ n → f i < n) → ∃ i j, i < j ∧ j ≤ n ∧ f i = f j
  | 0, f, h => absurd (h 0 (Nat.le_refl _)) (by omega)
  | n + 1, f, h => by
    by_cases hc : ∃ i, i ≤ n ∧ f i = f (n + 1)
    · obtain ⟨i, i1, i2⟩ := hc
      exact ⟨i, n + 1, by omega, Nat.le_refl _, i2⟩
    · have hv := h (n + 1) (Nat.le_refl _)
      have no : ∀ i, i ≤ n → f i ≠ f (n + 1) := fun i hi e => hc ⟨i, hi, e⟩
      obtain ⟨i, j, h1, h2, h3⟩ := php n (fun i => if f i = n then f (n + 1) else f i) (fun i hi => by
        have := h i (by omega)
        have hn := no i hi
        show (if f i = n then f (n + 1) else f i) < n
        by_cases e : f i = n
        · rw [if_pos e]; omega
        · rw [if_neg e]; omega)
      refine ⟨i, j, h1, by omega, ?_⟩
      have h3 : (if f i = n then f (n + 1) else f i) = (if f j = n then f (n + 1) else f j) := h3
      have ni := no i (by omega)
      have nj := no j h2
      by_cases e1 : f i = n
      · by_cases e2 : f j = n
        · omega
        · rw [if_pos e1, if_neg e2] at h3
          exact absurd h3.symm nj
      · by_cases e2 : f j = n
        · rw [if_neg e1, if_pos e2] at h3
          exact absurd h3 ni
        · rw [if_neg e1, if_neg e2] at h3
          exact h3
theorem php_sur {u : Nat} {f : Nat → Nat} (h : ∀ i, i < u → f i < u) (hi : ∀ i j, i < j → j < u → f i ≠ f j) {q : Nat} (hq : q < u) : ∃ i, i < u ∧ f i = q := by
  apply Classical.byContradiction
  intro hn
  obtain ⟨i, j, h1, h2, h3⟩ := php u (fun i => if i < u then f i else q) (fun i _ => by
    show (if i < u then f i else q) < u
    by_cases e : i < u
    · rw [if_pos e]; exact h i e
    · rw [if_neg e]; exact hq)
  have h3 : (if i < u then f i else q) = (if j < u then f j else q) := h3
  by_cases e : j < u
  · rw [if_pos e, if_pos (by omega)] at h3
    exact hi i j h1 e h3
  · rw [if_neg e, if_pos (by omega)] at h3
    exact hn ⟨i, by omega, h3⟩
theorem php_le {m u : Nat} {f : Nat → Nat} (h : ∀ i, i < m → f i < u) (hi : ∀ i j, i < j → j < m → f i ≠ f j) : m ≤ u := by
  apply Classical.byContradiction
  intro hn
  obtain ⟨i, j, h1, h2, h3⟩ := php u f (fun i hi2 => h i (by omega))
  exact hi i j h1 (by omega) h3
theorem php_ge {m u : Nat} {f : Nat → Nat} (hs : ∀ q, q < u → ∃ z, z < m ∧ f z = q) : u ≤ m := by
  have hc : ∀ q, ∃ z, q < u → z < m ∧ f z = q := fun q => by
    by_cases h : q < u
    · obtain ⟨z, z1⟩ := hs q h
      exact ⟨z, fun _ => z1⟩
    · exact ⟨0, fun h1 => absurd h1 h⟩
  refine php_le (m := u) (u := m) (f := fun q => Classical.choose (hc q)) (fun q hq => (Classical.choose_spec (hc q) hq).1) (fun i j hij hj e => ?_)
  have a := (Classical.choose_spec (hc i) (by omega)).2
  have b := (Classical.choose_spec (hc j) hj).2
  have e : Classical.choose (hc i) = Classical.choose (hc j) := e
  rw [e, b] at a
  omega
/-! the first KEYS of a LOG into another one -/
theorem c_keysCopy38 {N : Nat} {S : Hs} {ad : Nat → Nat} (hI : Inj ad) {b c ks u : Nat} {K : Nat → Int32} {od : Nat → Nat} (hbc : b + 14 ≤ c ∨ c + 14 ≤ b) (hO : Ord K ks od) (hu : u ≤ ks) : ∀ (i n k : Nat) (g : Hg) (m : Nat) (ins : Nat → Nat), k + i = ks → i < n → m ≤ k → m ≤ u → LgP S g ad b → LgP S g ad c → g.1 (ad (c + 1)) 3 = nI ks → (∀ j, j < ks → g.1 (ad (c + 10)) j = nI (od j)) → g.1 (ad (b + 1)) 3 = nI m → (∀ z, z < m → g.1 (ad (b + 10)) z = nI (ins z)) → (∀ z, z < m → ins z < u ∧ ∃ j, j < k ∧ ins z = od j) → (∀ y z, y < z → z < m → Ahead (WAY (K (ins y))) (WAY (K (ins z)))) → (∀ j, j < k → od j < u → ∃ z, z < m ∧ ins z = od j) →
    ∃ g1 ins1, n_X2_copyFirst_38 N S n g (ad (b + 1)) (ad (c + 1)) (nI u) (nI k) = some ((), g1) ∧ Fr ad (fun r => r = b + 1 ∨ r = b + 10) g g1 ∧ g1.1 (ad (b + 1)) 3 = nI u ∧ (∀ z, z < u → g1.1 (ad (b + 10)) z = nI (ins1 z)) ∧ Ord K u ins1 := by
  obtain ⟨hks, o2, o3, o4, o5⟩ := id hO
  have inj : ∀ (m : Nat) (ins : Nat → Nat), (∀ y z, y < z → z < m → Ahead (WAY (K (ins y))) (WAY (K (ins z)))) → ∀ y z, y < z → z < m → ins y ≠ ins z := fun m ins h y z h1 h2 e => by
    have := h y z h1 h2
    rw [e] at this
    exact this.irr
  intro i
  induction i with
  | zero =>
    intro n k g m ins h1 h2 hmk hmu hP hQ hs ho hm hr a1 a2 a3
    obtain ⟨n, rfl⟩ : ∃ z, n = z + 1 := ⟨n - 1, by omega⟩
    have sur : ∀ q, q < u → ∃ z, z < m ∧ ins z = q := fun q hq => by
      obtain ⟨j, j1, j2⟩ := o5 q (by omega)
      obtain ⟨z, z1, z2⟩ := a3 j (by omega) (by omega)
      exact ⟨z, z1, by rw [z2]; exact j2⟩
    have hmu2 : m = u := Nat.le_antisymm hmu (php_ge sur)
    subst hmu2
    refine ⟨g, ins, ?_, Fr.rf, hm, hr, by omega, fun i j hij hj => o2 i j hij (by omega), fun j hj => (a1 j hj).1, a2, sur⟩
    show b_X2_copyFirst_38 N S (n_X2_copyFirst_38 N S n) g _ _ _ _ = _
    unfold b_X2_copyFirst_38
    simp (disch := (first | assumption | omega | (apply Inj.ne <;> first | assumption | omega) | fail)) only [nn_S, nm_D, ck_T, c2_S, on_N, on_S, lit, mNEG, nI_add, pk_mul, inb_nI, nI_clamp, wrI_row, wrL_row, rdR_rowI, rdR_rowL, rdI_def, rdL_def, rowI_same, rowI_ne, rowI_rowI, rowL_same, rowL_ne, rowL_1, rowI_21, upd_same, upd_ne, nI_le_T, nI_le_F, nI_lt_T, nI_lt_F, nI_eq_F, nI_NEG, NEG_lt0, nI_p, eq_self, if_true, if_false, hs]
  | succ i ih =>
    intro n k g m ins h1 h2 hmk hmu hP hQ hs ho hm hr a1 a2 a3
    obtain ⟨n, rfl⟩ : ∃ z, n = z + 1 := ⟨n - 1, by omega⟩
    have hok := ho k (by omega)
    have hokl := o3 k (by omega)
    by_cases hfull : m = u
    · subst hfull
      have sur : ∀ q, q < m → ∃ z, z < m ∧ ins z = q := fun q hq => php_sur (fun i hi => (a1 i hi).1) (inj m ins a2) hq
      refine ⟨g, ins, ?_, Fr.rf, hm, hr, by omega, fun i j hij hj => o2 i j hij (by omega), fun j hj => (a1 j hj).1, a2, sur⟩
      show b_X2_copyFirst_38 N S (n_X2_copyFirst_38 N S n) g _ _ _ _ = _
      unfold b_X2_copyFirst_38
      simp (disch := (first | assumption | omega | (apply Inj.ne <;> first | assumption | omega) | fail)) only [nn_S, nm_D, ck_T, c2_S, on_N, on_S, lit, mNEG, nI_add, pk_mul, inb_nI, nI_clamp, wrI_row, wrL_row, rdR_rowI, rdR_rowL, rdI_def, rdL_def, rowI_same, rowI_ne, rowI_rowI, rowL_same, rowL_ne, rowL_1, rowI_21, upd_same, upd_ne, nI_le_T, nI_le_F, nI_lt_T, nI_lt_F, nI_eq_F, nI_NEG, NEG_lt0, nI_p, eq_self, if_true, if_false, hs, hm]
    · by_cases hc : od k < u
      · obtain ⟨g1, ins1, q1, q2, q3⟩ := ih n (k + 1) (rowI (rowI g (ad (b + 10)) (upd (g.1 (ad (b + 10))) m (nI (od k)))) (ad (b + 1)) (upd (g.1 (ad (b + 1))) 3 (nI (m + 1)))) (m + 1) (va_up ins m (od k)) (by omega) (by omega) (by omega) (by omega) (hP.fr rfl) (hQ.fr rfl) (by simp (disch := (first | assumption | omega | (apply Inj.ne <;> first | assumption | omega) | fail)) only [nn_S, nm_D, ck_T, c2_S, on_N, on_S, lit, mNEG, nI_add, pk_mul, inb_nI, nI_clamp, wrI_row, wrL_row, rdR_rowI, rdR_rowL, rdI_def, rdL_def, rowI_same, rowI_ne, rowI_rowI, rowL_same, rowL_ne, rowL_1, rowI_21, upd_same, upd_ne, nI_le_T, nI_le_F, nI_lt_T, nI_lt_F, nI_eq_F, nI_NEG, NEG_lt0, nI_p, eq_self, if_true, if_false]; exact hs) (fun j hj => by simp (disch := (first | assumption | omega | (apply Inj.ne <;> first | assumption | omega) | fail)) only [nn_S, nm_D, ck_T, c2_S, on_N, on_S, lit, mNEG, nI_add, pk_mul, inb_nI, nI_clamp, wrI_row, wrL_row, rdR_rowI, rdR_rowL, rdI_def, rdL_def, rowI_same, rowI_ne, rowI_rowI, rowL_same, rowL_ne, rowL_1, rowI_21, upd_same, upd_ne, nI_le_T, nI_le_F, nI_lt_T, nI_lt_F, nI_eq_F, nI_NEG, NEG_lt0, nI_p, eq_self, if_true, if_false]; exact ho j hj) (by simp (disch := (first | assumption | omega | (apply Inj.ne <;> first | assumption | omega) | fail)) only [nn_S, nm_D, ck_T, c2_S, on_N, on_S, lit, mNEG, nI_add, pk_mul, inb_nI, nI_clamp, wrI_row, wrL_row, rdR_rowI, rdR_rowL, rdI_def, rdL_def, rowI_same, rowI_ne, rowI_rowI, rowL_same, rowL_ne, rowL_1, rowI_21, upd_same, upd_ne, nI_le_T, nI_le_F, nI_lt_T, nI_lt_F, nI_eq_F, nI_NEG, NEG_lt0, nI_p, eq_self, if_true, if_false]) (fun z hz => by
          by_cases e : z = m
          · subst e; simp (disch := (first | assumption | omega | (apply Inj.ne <;> first | assumption | omega) | fail)) only [nn_S, nm_D, ck_T, c2_S, on_N, on_S, lit, mNEG, nI_add, pk_mul, inb_nI, nI_clamp, wrI_row, wrL_row, rdR_rowI, rdR_rowL, rdI_def, rdL_def, rowI_same, rowI_ne, rowI_rowI, rowL_same, rowL_ne, rowL_1, rowI_21, upd_same, upd_ne, nI_le_T, nI_le_F, nI_lt_T, nI_lt_F, nI_eq_F, nI_NEG, NEG_lt0, nI_p, eq_self, if_true, if_false]; simp [va_up]
          · simp (disch := (first | assumption | omega | (apply Inj.ne <;> first | assumption | omega) | fail)) only [nn_S, nm_D, ck_T, c2_S, on_N, on_S, lit, mNEG, nI_add, pk_mul, inb_nI, nI_clamp, wrI_row, wrL_row, rdR_rowI, rdR_rowL, rdI_def, rdL_def, rowI_same, rowI_ne, rowI_rowI, rowL_same, rowL_ne, rowL_1, rowI_21, upd_same, upd_ne, nI_le_T, nI_le_F, nI_lt_T, nI_lt_F, nI_eq_F, nI_NEG, NEG_lt0, nI_p, eq_self, if_true, if_false]; simp only [va_up, e, if_false]; exact hr z (by omega)) (fun z hz => by
          by_cases e : z = m
          · subst e; simp only [va_up, if_true]; exact ⟨hc, k, by omega, rfl⟩
          · simp only [va_up, e, if_false]
            obtain ⟨b1, j, j1, j2⟩ := a1 z (by omega)
            exact ⟨b1, j, by omega, j2⟩) (fun y z hyz hz => by
          by_cases e : z = m
          · subst e
            obtain ⟨_, j, j1, j2⟩ := a1 y hyz
            simp only [va_up, show y ≠ z by omega, if_false, if_true]
            rw [j2]
            exact o4 j k j1 (by omega)
          · simp only [va_up, e, show y ≠ m by omega, if_false]
            exact a2 y z hyz (by omega)) (fun j j1 j2 => by
          by_cases e : j = k
          · exact ⟨m, by omega, by simp [va_up, e]⟩
          · obtain ⟨z, z1, z2⟩ := a3 j (by omega) j2
            exact ⟨z, by omega, by simp only [va_up, show z ≠ m by omega, if_false]; exact z2⟩)
        refine ⟨g1, ins1, ?_, Fr.rt hI (Fr.rt hI q2 (Or.inl rfl)) (Or.inr rfl), q3⟩
        show b_X2_copyFirst_38 N S (n_X2_copyFirst_38 N S n) g _ _ _ _ = _
        unfold b_X2_copyFirst_38
        simp (disch := (first | assumption | omega | (apply Inj.ne <;> first | assumption | omega) | fail)) only [nn_S, nm_D, ck_T, c2_S, on_N, on_S, lit, mNEG, nI_add, pk_mul, inb_nI, nI_clamp, wrI_row, wrL_row, rdR_rowI, rdR_rowL, rdI_def, rdL_def, rowI_same, rowI_ne, rowI_rowI, rowL_same, rowL_ne, rowL_1, rowI_21, upd_same, upd_ne, nI_le_T, nI_le_F, nI_lt_T, nI_lt_F, nI_eq_F, nI_NEG, NEG_lt0, nI_p, eq_self, if_true, if_false, hs, hm, hQ.2.1.2.2, hP.2.1.2.2, hQ.2.2.2.2.2.2.1, hP.2.2.2.2.2.2.1, hok]
        exact q1
      · obtain ⟨g1, ins1, q1, q2, q3⟩ := ih n (k + 1) g m ins (by omega) (by omega) (by omega) hmu hP hQ hs ho hm hr (fun z hz => by
          obtain ⟨b1, j, j1, j2⟩ := a1 z hz
          exact ⟨b1, j, by omega, j2⟩) a2 (fun j j1 j2 => by
          by_cases e : j = k
          · rw [e] at j2; exact absurd j2 hc
          · exact a3 j (by omega) j2)
        refine ⟨g1, ins1, ?_, q2, q3⟩
        show b_X2_copyFirst_38 N S (n_X2_copyFirst_38 N S n) g _ _ _ _ = _
        unfold b_X2_copyFirst_38
        simp (disch := (first | assumption | omega | (apply Inj.ne <;> first | assumption | omega) | fail)) only [nn_S, nm_D, ck_T, c2_S, on_N, on_S, lit, mNEG, nI_add, pk_mul, inb_nI, nI_clamp, wrI_row, wrL_row, rdR_rowI, rdR_rowL, rdI_def, rdL_def, rowI_same, rowI_ne, rowI_rowI, rowL_same, rowL_ne, rowL_1, rowI_21, upd_same, upd_ne, nI_le_T, nI_le_F, nI_lt_T, nI_lt_F, nI_eq_F, nI_NEG, NEG_lt0, nI_p, eq_self, if_true, if_false, hs, hm, hQ.2.1.2.2, hQ.2.2.2.2.2.2.1, hok]
        exact q1
theorem c_keysCopy {N : Nat} (hN : 40000 ≤ N) {S : Hs} {g : Hg} {ad : Nat → Nat} (hI : Inj ad) {b c ks u : Nat} {K : Nat → Int32} {od : Nat → Nat} (hbc : b + 14 ≤ c ∨ c + 14 ≤ b) (hO : Ord K ks od) (hu : u ≤ ks) (hP : LgP S g ad b) (hQ : LgP S g ad c) (hC : CKey g ad c K ks od) :
    ∃ g1 od1, f_X2_copyFirst N S g (ad (b + 1)) (ad (c + 1)) (nI u) = some ((), g1) ∧ Fr ad (fun r => r = b + 1 ∨ r = b + 8 ∨ r = b + 9 ∨ r = b + 10) g g1 ∧ CKey g1 ad b K u od1 ∧ Ord K u od1 := by
  have hks := hO.1
  let g0 : Hg := rowI (rowI (rowI g (ad (b + 8)) (va_cpy (g.1 (ad (c + 8))) (g.1 (ad (b + 8))) 0 0 u)) (ad (b + 9)) (va_cpy (g.1 (ad (c + 9))) (g.1 (ad (b + 9))) 0 0 (u * 8))) (ad (b + 1)) (upd (g.1 (ad (b + 1))) 3 (nI 0))
  have f0 : Fr ad (fun r => r = b + 1 ∨ r = b + 8 ∨ r = b + 9) g g0 := Fr.rt hI (Fr.rt hI (Fr.row hI (Or.inl rfl)) (Or.inr (Or.inr rfl))) (Or.inr (Or.inl rfl))
  obtain ⟨g1, od1, a1, a2, a3, a4, a5⟩ := c_keysCopy38 (N := N) (S := S) hI hbc hO hu ks N 0 g0 0 (fun _ => 0) (by omega) (by omega) (by omega) (by omega) (hP.fr f0.1) (hQ.fr f0.1) (by rw [f0.I (by omega)]; exact hC.1) (fun j hj => by rw [f0.I (by omega)]; exact hC.2.2.2 j hj) (by show (rowI _ (ad (b + 1)) _).1 (ad (b + 1)) 3 = _; rw [rowI_same, upd_same]) (fun z hz => absurd hz (by omega)) (fun z hz => absurd hz (by omega)) (fun y z _ hz => absurd hz (by omega)) (fun j hj => absurd hj (by omega))
  refine ⟨g1, od1, ?_, (f0.mono (fun r h => by omega)).tr (a2.mono (fun r h => by omega)), ⟨a3, fun q hq => ?_, fun q hq => ?_, a4⟩, a5⟩
  · show b_X2_copyFirst_0 N S g _ _ _ = _
    unfold b_X2_copyFirst_0
    simp (disch := (first | assumption | omega | (apply Inj.ne <;> first | assumption | omega) | fail)) only [nn_S, nm_D, ck_T, c2_S, on_N, on_S, lit, mNEG, nI_add, pk_mul, inb_nI, nI_clamp, wrI_row, wrL_row, rdR_rowI, rdR_rowL, rdI_def, rdL_def, rowI_same, rowI_ne, rowI_rowI, rowL_same, rowL_ne, rowL_1, rowI_21, upd_same, upd_ne, nI_le_T, nI_le_F, nI_lt_T, nI_lt_F, nI_eq_F, nI_NEG, NEG_lt0, nI_p, eq_self, if_true, if_false, hQ.2.1.1, hP.2.1.1, hQ.2.1.2.1, hP.2.1.2.1, hQ.2.2.2.2.1, hP.2.2.2.2.1, hQ.2.2.2.2.2.1, hP.2.2.2.2.2.1, cpI_row, cpok_nI]
    exact a1
  · rw [a2.I (by omega)]
    show (rowI (rowI (rowI g _ _) _ _) _ _).1 (ad (b + 8)) q = _
    simp (disch := (first | assumption | omega | (apply Inj.ne <;> first | assumption | omega) | fail)) only [nn_S, nm_D, ck_T, c2_S, on_N, on_S, lit, mNEG, nI_add, pk_mul, inb_nI, nI_clamp, wrI_row, wrL_row, rdR_rowI, rdR_rowL, rdI_def, rdL_def, rowI_same, rowI_ne, rowI_rowI, rowL_same, rowL_ne, rowL_1, rowI_21, upd_same, upd_ne, nI_le_T, nI_le_F, nI_lt_T, nI_lt_F, nI_eq_F, nI_NEG, NEG_lt0, nI_p, eq_self, if_true, if_false]
    rw [pk_cpy_in (by omega) (by omega)]
    simp only [Nat.zero_add, Nat.sub_zero]
    exact hC.2.1 q (by omega)
  · rw [a2.I (by omega)]
    show eq8 (seg ((rowI (rowI (rowI g _ _) _ _) _ _).1 (ad (b + 9))) (8 * q)) _
    simp (disch := (first | assumption | omega | (apply Inj.ne <;> first | assumption | omega) | fail)) only [nn_S, nm_D, ck_T, c2_S, on_N, on_S, lit, mNEG, nI_add, pk_mul, inb_nI, nI_clamp, wrI_row, wrL_row, rdR_rowI, rdR_rowL, rdI_def, rdL_def, rowI_same, rowI_ne, rowI_rowI, rowL_same, rowL_ne, rowL_1, rowI_21, upd_same, upd_ne, nI_le_T, nI_le_F, nI_lt_T, nI_lt_F, nI_eq_F, nI_NEG, NEG_lt0, nI_p, eq_self, if_true, if_false]
    intro j hj
    show va_cpy _ _ _ _ _ (8 * q + j) = _
    rw [pk_cpy_in (by omega) (by omega)]
    simp only [Nat.zero_add, Nat.sub_zero]
    exact hC.2.2.1 q (by omega) j hj
/-! the marks since a count of at most n -/
def cutM (A : ALog) (n : Nat) : Nat → Nat × (Nat → Int32) × (Nat → Nat) × (Nat → Bool)
  | 0 => (0, fun _ => 0, fun _ => 0, fun _ => false)
  | k + 1 => if msi A k ≤ n then ((cutM A n k).1 + 1, upd (cutM A n k).2.1 (cutM A n k).1 (mky A k), va_up (cutM A n k).2.2.1 (cutM A n k).1 (msi A k), va_up (cutM A n k).2.2.2 (cutM A n k).1 (mhi A k)) else cutM A n k
theorem cutM_s (A : ALog) (n k : Nat) : cutM A n (k + 1) = if msi A k ≤ n then ((cutM A n k).1 + 1, upd (cutM A n k).2.1 (cutM A n k).1 (mky A k), va_up (cutM A n k).2.2.1 (cutM A n k).1 (msi A k), va_up (cutM A n k).2.2.2 (cutM A n k).1 (mhi A k)) else cutM A n k := rfl
theorem cutM_le (A : ALog) (n : Nat) : ∀ k, (cutM A n k).1 ≤ k
  | 0 => Nat.le_refl _
  | k + 1 => by
    have := cutM_le A n k
    rw [cutM_s]
    by_cases h : msi A k ≤ n
    · rw [if_pos h]; show _ + 1 ≤ _; omega
    · rw [if_neg h]; omega
theorem cutM_of (A : ALog) (n : Nat) : ∀ k j, j < (cutM A n k).1 → ∃ i, i < k ∧ (cutM A n k).2.1 j = mky A i ∧ (cutM A n k).2.2.1 j = msi A i ∧ (cutM A n k).2.2.2 j = mhi A i ∧ msi A i ≤ n
  | 0, j, h => absurd h (by show ¬ j < 0; omega)
  | k + 1, j, h => by
    rw [cutM_s] at h ⊢
    by_cases hc : msi A k ≤ n
    · rw [if_pos hc] at h ⊢
      have h : j < (cutM A n k).1 + 1 := h
      by_cases e : j = (cutM A n k).1
      · subst e
        refine ⟨k, by omega, ?_, ?_, ?_, hc⟩
        · exact upd_same _ _ _
        · show va_up _ _ _ _ = _; simp [va_up]
        · show va_up _ _ _ _ = _; simp [va_up]
      · obtain ⟨i, i1, i2, i3, i4, i5⟩ := cutM_of A n k j (by omega)
        refine ⟨i, by omega, ?_, ?_, ?_, i5⟩
        · exact (upd_ne _ _ e).trans i2
        · show va_up _ _ _ _ = _; simp only [va_up, if_neg e]; exact i3
        · show va_up _ _ _ _ = _; simp only [va_up, if_neg e]; exact i4
    · rw [if_neg hc] at h ⊢
      obtain ⟨i, i1, i2⟩ := cutM_of A n k j h
      exact ⟨i, by omega, i2⟩
theorem cutM_un (A : ALog) (n : Nat) : ∀ k, (∀ i j, i < j → j < k → mky A i ≠ mky A j) → ∀ i j, i < j → j < (cutM A n k).1 → (cutM A n k).2.1 i ≠ (cutM A n k).2.1 j
  | 0, _, i, j, _, h => absurd h (by show ¬ j < 0; omega)
  | k + 1, hd, i, j, hij, h => by
    rw [cutM_s] at h ⊢
    by_cases hc : msi A k ≤ n
    · rw [if_pos hc] at h ⊢
      have h : j < (cutM A n k).1 + 1 := h
      show upd _ _ _ i ≠ upd _ _ _ j
      by_cases e : j = (cutM A n k).1
      · subst e
        rw [upd_same, upd_ne _ _ (by omega)]
        obtain ⟨z, z1, z2, -⟩ := cutM_of A n k i hij
        rw [z2]
        exact hd z k z1 (by omega)
      · rw [upd_ne _ _ e, upd_ne _ _ (by omega)]
        exact cutM_un A n k (fun a b h1 h2 => hd a b h1 (by omega)) i j hij (by omega)
    · rw [if_neg hc] at h ⊢
      exact cutM_un A n k (fun a b h1 h2 => hd a b h1 (by omega)) i j hij h
theorem cutM_all (A : ALog) (n : Nat) : ∀ k, (∀ i, i < k → msi A i ≤ n) → (cutM A n k).1 = k ∧ ∀ j, j < k → (cutM A n k).2.1 j = mky A j ∧ (cutM A n k).2.2.1 j = msi A j ∧ (cutM A n k).2.2.2 j = mhi A j
  | 0, _ => ⟨rfl, fun j hj => absurd hj (by omega)⟩
  | k + 1, h => by
    obtain ⟨a1, a2⟩ := cutM_all A n k (fun i hi => h i (by omega))
    rw [cutM_s, if_pos (h k (by omega))]
    refine ⟨by show _ + 1 = _; omega, fun j hj => ?_⟩
    by_cases e : j = k
    · subst e
      rw [a1]
      exact ⟨upd_same _ _ _, by show va_up _ _ _ _ = _; simp [va_up], by show va_up _ _ _ _ = _; simp [va_up]⟩
    · obtain ⟨b1, b2, b3⟩ := a2 j (by omega)
      rw [a1]
      exact ⟨(upd_ne _ _ e).trans b1, by show va_up _ _ _ _ = _; simp only [va_up, if_neg e]; exact b2, by show va_up _ _ _ _ = _; simp only [va_up, if_neg e]; exact b3⟩
theorem c_copyUpTo7 {N : Nat} {S : Hs} {ad : Nat → Nat} (hI : Inj ad) {b c n_ : Nat} {A : ALog} (hbc : b + 14 ≤ c ∨ c + 14 ≤ b) (hW : LogWf A) (hn : n_ ≤ 400) : ∀ (i n k : Nat) (g : Hg), k + i = lmk A → i < n → LgP S g ad b → LgP S g ad c → CMark g ad c A → g.1 (ad (b + 2)) 3 = nI (cutM A n_ k).1 → (∀ j, j < (cutM A n_ k).1 → g.1 (ad (b + 11)) j = (cutM A n_ k).2.1 j ∧ g.1 (ad (b + 12)) j = nI ((cutM A n_ k).2.2.1 j) ∧ g.1 (ad (b + 13)) j = bI ((cutM A n_ k).2.2.2 j)) →
    ∃ g1, n_X5_copyUpTo_7 N S n g (ad (b + 2)) (ad (c + 2)) (nI n_) (nI k) = some ((), g1) ∧ Fr ad (fun r => r = b + 2 ∨ 11 + b ≤ r ∧ r ≤ b + 13) g g1 ∧ g1.1 (ad (b + 2)) 3 = nI (cutM A n_ (lmk A)).1 ∧ (∀ j, j < (cutM A n_ (lmk A)).1 → g1.1 (ad (b + 11)) j = (cutM A n_ (lmk A)).2.1 j ∧ g1.1 (ad (b + 12)) j = nI ((cutM A n_ (lmk A)).2.2.1 j) ∧ g1.1 (ad (b + 13)) j = bI ((cutM A n_ (lmk A)).2.2.2 j)) := by
  have hmk := hW.2.1
  have hsz := hW.1
  intro i
  induction i with
  | zero =>
    intro n k g h1 h2 hP hQ hM hm hr
    obtain ⟨n, rfl⟩ : ∃ z, n = z + 1 := ⟨n - 1, by omega⟩
    obtain rfl : k = lmk A := by omega
    refine ⟨g, ?_, Fr.rf, hm, hr⟩
    show b_X5_copyUpTo_7 N S (n_X5_copyUpTo_7 N S n) g _ _ _ _ = _
    unfold b_X5_copyUpTo_7
    simp (disch := (first | assumption | omega | (apply Inj.ne <;> first | assumption | omega) | fail)) only [nn_S, nm_D, ck_T, c2_S, on_N, on_S, lit, mNEG, nI_add, pk_mul, inb_nI, nI_clamp, wrI_row, wrL_row, rdR_rowI, rdR_rowL, rdI_def, rdL_def, rowI_same, rowI_ne, rowI_rowI, rowL_same, rowL_ne, rowL_1, rowI_21, upd_same, upd_ne, nI_le_T, nI_le_F, nI_lt_T, nI_lt_F, nI_eq_F, nI_NEG, NEG_lt0, nI_p, eq_self, if_true, if_false, hM.1]
  | succ i ih =>
    intro n k g h1 h2 hP hQ hM hm hr
    obtain ⟨n, rfl⟩ : ∃ z, n = z + 1 := ⟨n - 1, by omega⟩
    have hms := hW.2.2.1 k (by omega)
    obtain ⟨m1, m2, m3⟩ := hM.2 k (by omega)
    have hle := cutM_le A n_ k
    have hs := cutM_s A n_ k
    by_cases hc : msi A k ≤ n_
    · rw [if_pos hc] at hs
      generalize hq : cutM A n_ k = c0 at *
      obtain ⟨g1, q1, q2, q3⟩ := ih n (k + 1) (rowI (rowI (rowI (rowI g (ad (b + 11)) (upd (g.1 (ad (b + 11))) c0.1 (mky A k))) (ad (b + 12)) (upd (g.1 (ad (b + 12))) c0.1 (nI (msi A k)))) (ad (b + 13)) (upd (g.1 (ad (b + 13))) c0.1 (bI (mhi A k)))) (ad (b + 2)) (upd (g.1 (ad (b + 2))) 3 (nI (c0.1 + 1)))) (by omega) (by omega) (hP.fr rfl) (hQ.fr rfl) (by
        refine ⟨?_, fun k hk => ?_⟩
        · simp (disch := (first | assumption | omega | (apply Inj.ne <;> first | assumption | omega) | fail)) only [nn_S, nm_D, ck_T, c2_S, on_N, on_S, lit, mNEG, nI_add, pk_mul, inb_nI, nI_clamp, wrI_row, wrL_row, rdR_rowI, rdR_rowL, rdI_def, rdL_def, rowI_same, rowI_ne, rowI_rowI, rowL_same, rowL_ne, rowL_1, rowI_21, upd_same, upd_ne, nI_le_T, nI_le_F, nI_lt_T, nI_lt_F, nI_eq_F, nI_NEG, NEG_lt0, nI_p, eq_self, if_true, if_false]; exact hM.1
        · simp (disch := (first | assumption | omega | (apply Inj.ne <;> first | assumption | omega) | fail)) only [nn_S, nm_D, ck_T, c2_S, on_N, on_S, lit, mNEG, nI_add, pk_mul, inb_nI, nI_clamp, wrI_row, wrL_row, rdR_rowI, rdR_rowL, rdI_def, rdL_def, rowI_same, rowI_ne, rowI_rowI, rowL_same, rowL_ne, rowL_1, rowI_21, upd_same, upd_ne, nI_le_T, nI_le_F, nI_lt_T, nI_lt_F, nI_eq_F, nI_NEG, NEG_lt0, nI_p, eq_self, if_true, if_false]; exact hM.2 k hk) (by simp (disch := (first | assumption | omega | (apply Inj.ne <;> first | assumption | omega) | fail)) only [nn_S, nm_D, ck_T, c2_S, on_N, on_S, lit, mNEG, nI_add, pk_mul, inb_nI, nI_clamp, wrI_row, wrL_row, rdR_rowI, rdR_rowL, rdI_def, rdL_def, rowI_same, rowI_ne, rowI_rowI, rowL_same, rowL_ne, rowL_1, rowI_21, upd_same, upd_ne, nI_le_T, nI_le_F, nI_lt_T, nI_lt_F, nI_eq_F, nI_NEG, NEG_lt0, nI_p, eq_self, if_true, if_false]; rw [hs]) (by
        intro j hj
        rw [hs] at hj ⊢
        have hj : j < c0.1 + 1 := hj
        simp (disch := (first | assumption | omega | (apply Inj.ne <;> first | assumption | omega) | fail)) only [nn_S, nm_D, ck_T, c2_S, on_N, on_S, lit, mNEG, nI_add, pk_mul, inb_nI, nI_clamp, wrI_row, wrL_row, rdR_rowI, rdR_rowL, rdI_def, rdL_def, rowI_same, rowI_ne, rowI_rowI, rowL_same, rowL_ne, rowL_1, rowI_21, upd_same, upd_ne, nI_le_T, nI_le_F, nI_lt_T, nI_lt_F, nI_eq_F, nI_NEG, NEG_lt0, nI_p, eq_self, if_true, if_false]
        by_cases e : j = c0.1
        · rw [e]
          refine ⟨?_, ?_, ?_⟩ <;> simp [upd, va_up]
        · obtain ⟨b1, b2, b3⟩ := hr j (by omega)
          simp only [upd, va_up, if_neg e]
          exact ⟨b1, b2, b3⟩)
      refine ⟨g1, ?_, Fr.rt hI (Fr.rt hI (Fr.rt hI (Fr.rt hI q2 (Or.inl rfl)) (Or.inr (by omega))) (Or.inr (by omega))) (Or.inr (by omega)), q3⟩
      show b_X5_copyUpTo_7 N S (n_X5_copyUpTo_7 N S n) g _ _ _ _ = _
      unfold b_X5_copyUpTo_7
      simp (disch := (first | assumption | omega | (apply Inj.ne <;> first | assumption | omega) | fail)) only [nn_S, nm_D, ck_T, c2_S, on_N, on_S, lit, mNEG, nI_add, pk_mul, inb_nI, nI_clamp, wrI_row, wrL_row, rdR_rowI, rdR_rowL, rdI_def, rdL_def, rowI_same, rowI_ne, rowI_rowI, rowL_same, rowL_ne, rowL_1, rowI_21, upd_same, upd_ne, nI_le_T, nI_le_F, nI_lt_T, nI_lt_F, nI_eq_F, nI_NEG, NEG_lt0, nI_p, eq_self, if_true, if_false, hM.1, hQ.2.2.1.1, hQ.2.2.1.2.1, hQ.2.2.1.2.2, hP.2.2.1.1, hP.2.2.1.2.1, hP.2.2.1.2.2, hQ.2.2.2.2.2.2.2.1, hQ.2.2.2.2.2.2.2.2.1, hQ.2.2.2.2.2.2.2.2.2, hP.2.2.2.2.2.2.2.1, hP.2.2.2.2.2.2.2.2.1, hP.2.2.2.2.2.2.2.2.2, m1, m2, m3, hm, zb_bI]
      exact q1
    · rw [if_neg hc] at hs
      obtain ⟨g1, q1, q2, q3⟩ := ih n (k + 1) g (by omega) (by omega) hP hQ hM (by rw [hs]; exact hm) (by rw [hs]; exact hr)
      refine ⟨g1, ?_, q2, q3⟩
      show b_X5_copyUpTo_7 N S (n_X5_copyUpTo_7 N S n) g _ _ _ _ = _
      unfold b_X5_copyUpTo_7
      simp (disch := (first | assumption | omega | (apply Inj.ne <;> first | assumption | omega) | fail)) only [nn_S, nm_D, ck_T, c2_S, on_N, on_S, lit, mNEG, nI_add, pk_mul, inb_nI, nI_clamp, wrI_row, wrL_row, rdR_rowI, rdR_rowL, rdI_def, rdL_def, rowI_same, rowI_ne, rowI_rowI, rowL_same, rowL_ne, rowL_1, rowI_21, upd_same, upd_ne, nI_le_T, nI_le_F, nI_lt_T, nI_lt_F, nI_eq_F, nI_NEG, NEG_lt0, nI_p, eq_self, if_true, if_false, hM.1, hQ.2.2.1.2.1, hQ.2.2.2.2.2.2.2.2.1, m2]
      exact q1
theorem c_copyUpTo {N : Nat} (hN : 40000 ≤ N) {S : Hs} {g : Hg} {ad : Nat → Nat} (hI : Inj ad) {b c n_ : Nat} {A : ALog} (hbc : b + 14 ≤ c ∨ c + 14 ≤ b) (hW : LogWf A) (hn : n_ ≤ 400) (hP : LgP S g ad b) (hQ : LgP S g ad c) (hM : CMark g ad c A) :
    ∃ g1, f_X5_copyUpTo N S g (ad (b + 2)) (ad (c + 2)) (nI n_) = some ((), g1) ∧ Fr ad (fun r => r = b + 2 ∨ 11 + b ≤ r ∧ r ≤ b + 13) g g1 ∧ g1.1 (ad (b + 2)) 3 = nI (cutM A n_ (lmk A)).1 ∧ (∀ j, j < (cutM A n_ (lmk A)).1 → g1.1 (ad (b + 11)) j = (cutM A n_ (lmk A)).2.1 j ∧ g1.1 (ad (b + 12)) j = nI ((cutM A n_ (lmk A)).2.2.1 j) ∧ g1.1 (ad (b + 13)) j = bI ((cutM A n_ (lmk A)).2.2.2 j)) := by
  have hmk := hW.2.1
  have f0 : Fr ad (fun r => r = b + 2) g (rowI g (ad (b + 2)) (upd (g.1 (ad (b + 2))) 3 (nI 0))) := Fr.row hI rfl
  obtain ⟨g1, q1, q2, q3⟩ := c_copyUpTo7 (N := N) hI hbc hW hn (lmk A) N 0 (rowI g (ad (b + 2)) (upd (g.1 (ad (b + 2))) 3 (nI 0))) (by omega) (by omega) (hP.fr rfl) (hQ.fr rfl) (hM.fr f0 (by omega)) (by simp (disch := (first | assumption | omega | (apply Inj.ne <;> first | assumption | omega) | fail)) only [nn_S, nm_D, ck_T, c2_S, on_N, on_S, lit, mNEG, nI_add, pk_mul, inb_nI, nI_clamp, wrI_row, wrL_row, rdR_rowI, rdR_rowL, rdI_def, rdL_def, rowI_same, rowI_ne, rowI_rowI, rowL_same, rowL_ne, rowL_1, rowI_21, upd_same, upd_ne, nI_le_T, nI_le_F, nI_lt_T, nI_lt_F, nI_eq_F, nI_NEG, NEG_lt0, nI_p, eq_self, if_true, if_false]; rfl) (fun j hj => absurd hj (by show ¬ j < 0; omega))
  refine ⟨g1, ?_, (f0.mono (fun r h => by omega)).tr q2, q3⟩
  show b_X5_copyUpTo_0 N S g _ _ _ = _
  unfold b_X5_copyUpTo_0
  simp (disch := (first | assumption | omega | (apply Inj.ne <;> first | assumption | omega) | fail)) only [nn_S, nm_D, ck_T, c2_S, on_N, on_S, lit, mNEG, nI_add, pk_mul, inb_nI, nI_clamp, wrI_row, wrL_row, rdR_rowI, rdR_rowL, rdI_def, rdL_def, rowI_same, rowI_ne, rowI_rowI, rowL_same, rowL_ne, rowL_1, rowI_21, upd_same, upd_ne, nI_le_T, nI_le_F, nI_lt_T, nI_lt_F, nI_eq_F, nI_NEG, NEG_lt0, nI_p, eq_self, if_true, if_false]
  exact q1
