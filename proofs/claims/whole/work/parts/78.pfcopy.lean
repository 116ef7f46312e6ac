/-! PROOFS: copied, asked, held against a HEAD -/
def trX (X : ASl) (e s : Nat) : ASl := (X.1, (e, X.2.1.2.1, X.2.1.2.2), (s, X.2.2.2))
theorem upd_id (f : Nat → Int32) (k : Nat) : upd f k (f k) = f := by
  funext j
  by_cases h : j = k
  · rw [h, upd_same]
  · rw [upd_ne _ _ h]
theorem va_id {α : Type} (f : Nat → α) (k : Nat) : va_up f k (f k) = f := by
  funext j
  by_cases h : j = k
  · rw [h, va_same]
  · rw [va_ne _ _ h]
theorem trX_ent (X : ASl) (e s : Nat) : entX (trX X e s) (X.2.1.2.1 e) (X.2.1.2.2 e) = trX X (e + 1) s := by
  unfold entX trX
  simp only [upd_id]
  congr 3
  congr 1
  funext i
  by_cases h : i = e
  · rw [if_pos h, h]
  · rw [if_neg h]
theorem trX_step (X : ASl) (e s : Nat) : stepX (trX X e s) (X.2.2.2 s) = trX X e (s + 1) := by
  unfold stepX trX
  simp only [va_id]
theorem c_pfCopy82 {N B : Nat} {p q : Nat} {X : ASl} (hpq : p + 4 ≤ q ∨ q + 4 ≤ p) (hs : X.2.2.1 ≤ 256) : ∀ (f n s : Nat) (ad : Nat → Nat) (S : Hs) (g : Hg), s + f = X.2.2.1 → f < n → AdOk B ad S → PfO S g ad q X → PfO S g ad p (trX X X.2.1.1 s) → Room B ad S p →
    ∃ ad1 S1 g1 k w, n_X7_copy_82 N n S g (ad p) (ad q) (nI s) = some ((), S1, g1, k, w) ∧ PfR B (fun r => p ≤ r ∧ r < p + 4) ad S g p X ad1 S1 g1 k w := by
  intro f
  induction f with
  | zero =>
    intro n s ad S g h1 h2 hA hQ hO hB
    obtain ⟨n, rfl⟩ : ∃ z, n = z + 1 := ⟨n - 1, by omega⟩
    have h4 := hQ.2.1.1.2.1
    obtain rfl : s = X.2.2.1 := by omega
    refine ⟨ad, S, g, 0, 0, ?_, PfR.rf hA hO⟩
    show b_X7_copy_82 N (n_X7_copy_82 N n) S g _ _ _ = _
    unfold b_X7_copy_82
    simp (disch := (first | assumption | omega | (apply Inj.ne <;> first | assumption | omega) | fail)) only [nn_S, nm_D, ck_T, c2_S, on_N, on_S, lit, mNEG, nI_add, pk_mul, inb_nI, nI_clamp, wrI_row, wrL_row, rdR_rowI, rdR_rowL, rdI_def, rdL_def, rowI_same, rowI_ne, rowI_rowI, rowL_same, rowL_ne, rowL_1, rowI_21, upd_same, upd_ne, nI_le_T, nI_le_F, nI_lt_T, nI_lt_F, nI_eq_F, nI_NEG, NEG_lt0, nI_p, eq_self, if_true, if_false, h4]
  | succ f ih =>
    intro n s ad S g h1 h2 hA hQ hO hB
    obtain ⟨n, rfl⟩ : ∃ z, n = z + 1 := ⟨n - 1, by omega⟩
    have h4 := hQ.2.1.1.2.1
    have hle := hQ.1.le
    have hroom := hQ.2.2
    obtain ⟨ad1, S1, g1, k1, w1, a1, a2, a3, a4, a5, a6⟩ := c_tellStep (N := N) (x := nI s) (rs := q + 3) (v := X.2.2.2 s) hA rfl hO hB (by show s < 256; omega) (by omega) (by omega) (by omega) (hQ.2.1.2.2 s (by omega))
    rw [trX_step] at a5
    have r1 : PfR B (fun r => p ≤ r ∧ r < p + 4) ad S g p (trX X X.2.1.1 (s + 1)) ad1 S1 g1 k1 w1 := ⟨a2.mono (fun r h => by omega), a3, a4, a5, a6⟩
    obtain ⟨ad2, S2, g2, k2, w2, b1, b2⟩ := ih n (s + 1) ad1 S1 g1 (by omega) (by omega) a3 (hQ.mv a2 (fun r r1 r2 => by omega)) a5 (hB.gw a6)
    refine ⟨ad2, S2, g2, k1 + k2, w1 + w2, ?_, r1.tr b2⟩
    rw [a4, a2.ad (r := q) (by omega)] at b1
    show b_X7_copy_82 N (n_X7_copy_82 N n) S g _ _ _ = _
    unfold b_X7_copy_82
    simp (disch := (first | assumption | omega | (apply Inj.ne <;> first | assumption | omega) | fail)) only [nn_S, nm_D, ck_T, c2_S, on_N, on_S, lit, mNEG, nI_add, pk_mul, inb_nI, nI_clamp, wrI_row, wrL_row, rdR_rowI, rdR_rowL, rdI_def, rdL_def, rowI_same, rowI_ne, rowI_rowI, rowL_same, rowL_ne, rowL_1, rowI_21, upd_same, upd_ne, nI_le_T, nI_le_F, nI_lt_T, nI_lt_F, nI_eq_F, nI_NEG, NEG_lt0, nI_p, eq_self, if_true, if_false, h4, hQ.1.2.2.1, a1, c5_S, b1, tk_S]
theorem c_pfCopy50 {N B : Nat} (hN : 40000 ≤ N) {p q : Nat} {X : ASl} (hpq : p + 4 ≤ q ∨ q + 4 ≤ p) (he : X.2.1.1 ≤ 40) (hs : X.2.2.1 ≤ 256) : ∀ (f n e : Nat) (ad : Nat → Nat) (S : Hs) (g : Hg), e + f = X.2.1.1 → f < n → AdOk B ad S → PfO S g ad q X → PfO S g ad p (trX X e 0) → Room B ad S p →
    ∃ ad1 S1 g1 k w, n_X7_copy_50 N n S g (ad p) (ad q) (nI e) = some ((), S1, g1, k, w) ∧ PfR B (fun r => p ≤ r ∧ r < p + 4) ad S g p X ad1 S1 g1 k w := by
  intro f
  induction f with
  | zero =>
    intro n e ad S g h1 h2 hA hQ hO hB
    obtain ⟨n, rfl⟩ : ∃ z, n = z + 1 := ⟨n - 1, by omega⟩
    have h3 := hQ.2.1.1.1
    obtain rfl : e = X.2.1.1 := by omega
    obtain ⟨ad1, S1, g1, k1, w1, a1, a2⟩ := c_pfCopy82 (N := N) hpq hs X.2.2.1 N 0 ad S g (by omega) (by omega) hA hQ hO hB
    refine ⟨ad1, S1, g1, k1, w1, ?_, a2⟩
    show b_X7_copy_50 N (n_X7_copy_50 N n) S g _ _ _ = _
    unfold b_X7_copy_50
    simp (disch := (first | assumption | omega | (apply Inj.ne <;> first | assumption | omega) | fail)) only [nn_S, nm_D, ck_T, c2_S, on_N, on_S, lit, mNEG, nI_add, pk_mul, inb_nI, nI_clamp, wrI_row, wrL_row, rdR_rowI, rdR_rowL, rdI_def, rdL_def, rowI_same, rowI_ne, rowI_rowI, rowL_same, rowL_ne, rowL_1, rowI_21, upd_same, upd_ne, nI_le_T, nI_le_F, nI_lt_T, nI_lt_F, nI_eq_F, nI_NEG, NEG_lt0, nI_p, eq_self, if_true, if_false, h3]
    exact a1
  | succ f ih =>
    intro n e ad S g h1 h2 hA hQ hO hB
    obtain ⟨n, rfl⟩ : ∃ z, n = z + 1 := ⟨n - 1, by omega⟩
    have h3 := hQ.2.1.1.1
    obtain ⟨v1, v2⟩ := hQ.2.1.2.1 e (by omega)
    obtain ⟨g1, a1, a2, a3⟩ := c_tellEntry (N := N) hA.1 (X.2.1.2.1 e) (X.2.1.2.2 e) hO (by show e < 40; omega)
    rw [trX_ent] at a3
    have f1 : Fr ad (fun r => p ≤ r ∧ r < p + 4) g g1 := a2.mono (fun r h => by omega)
    obtain ⟨ad2, S2, g2, k2, w2, b1, b2⟩ := ih n (e + 1) ad S g1 (by omega) (by omega) hA (hQ.fr a2 (fun r r1 r2 => by omega)) a3 hB
    refine ⟨ad2, S2, g2, k2, w2, ?_, PfR.frl f1 b2⟩
    have l1 := hQ.1.2.2.2.1
    have l2 := hQ.1.2.2.2.2.1
    show b_X7_copy_50 N (n_X7_copy_50 N n) S g _ _ _ = _
    unfold b_X7_copy_50
    simp (disch := (first | assumption | omega | (apply Inj.ne <;> first | assumption | omega) | fail)) only [nn_S, nm_D, ck_T, c2_S, on_N, on_S, lit, mNEG, nI_add, pk_mul, inb_nI, nI_clamp, wrI_row, wrL_row, rdR_rowI, rdR_rowL, rdI_def, rdL_def, rowI_same, rowI_ne, rowI_rowI, rowL_same, rowL_ne, rowL_1, rowI_21, upd_same, upd_ne, nI_le_T, nI_le_F, nI_lt_T, nI_lt_F, nI_eq_F, nI_NEG, NEG_lt0, nI_p, eq_self, if_true, if_false, h3, hQ.1.1, hQ.1.2.1, l1, l2, v1, v2, a1, b1]
theorem c_pfCopy {N B : Nat} (hN : 40000 ≤ N) {S : Hs} {g : Hg} {ad : Nat → Nat} {p q : Nat} {X : ASl} (hpq : p + 4 ≤ q ∨ q + 4 ≤ p) (he : X.2.1.1 ≤ 40) (hs : X.2.2.1 ≤ 256) (hA : AdOk B ad S) (hQ : PfO S g ad q X) (hP : PfP S g ad p) (hB : Room B ad S p) :
    ∃ ad1 S1 g1 k w, f_X7_copy N S g (ad p) (ad q) = some ((), S1, g1, k, w) ∧ PfR B (fun r => p ≤ r ∧ r < p + 4) ad S g p X ad1 S1 g1 k w := by
  obtain ⟨⟨u3, u4, u5, u6, u7, u8, u9, u10, u11⟩, _, _⟩ := hQ.2.1
  obtain ⟨g1, a1, a2, a3⟩ := c_begin (N := N) hA.1 X.1.1 X.1.2.1 X.1.2.2.1 hP
  have hI := hA.1
  let g2 : Hg := rowI g1 (ad p) (upd (upd (upd (upd (g1.1 (ad p)) 8 X.1.2.2.2.1) 9 X.1.2.2.2.2.1) 10 X.1.2.2.2.2.2.1) 11 X.1.2.2.2.2.2.2)
  have f1 : Fr ad (fun r => p ≤ r ∧ r < p + 4) g g2 := (a2.mono (fun r h => by omega)).tr (Fr.row hI (by omega))
  have hQ1 := hQ.fr a2 (fun r r1 r2 => by omega)
  obtain ⟨⟨w3, w4, w5, w6, w7, w8, w9, w10, w11⟩, _, _⟩ := hQ1.2.1
  have hO2 : PfO S g2 ad p (trX X 0 0) := by
    obtain ⟨hP1, ⟨⟨v3, v4, v5, v6, v7, v8, v9, v10, v11⟩, ve, vs⟩, hf⟩ := a3
    refine ⟨hP1.fr rfl, ⟨⟨?_, ?_, ?_, ?_, ?_, ?_, ?_, ?_, ?_⟩, fun i hi => absurd hi (by show ¬ i < 0; omega), fun i hi => absurd hi (by show ¬ i < 0; omega)⟩, Nat.zero_le _⟩
    · show g2.1 (ad p) 3 = nI 0
      simp (disch := (first | assumption | omega | (apply Inj.ne <;> first | assumption | omega) | fail)) only [nn_S, nm_D, ck_T, c2_S, on_N, on_S, lit, mNEG, nI_add, pk_mul, inb_nI, nI_clamp, wrI_row, wrL_row, rdR_rowI, rdR_rowL, rdI_def, rdL_def, rowI_same, rowI_ne, rowI_rowI, rowL_same, rowL_ne, rowL_1, rowI_21, upd_same, upd_ne, nI_le_T, nI_le_F, nI_lt_T, nI_lt_F, nI_eq_F, nI_NEG, NEG_lt0, nI_p, eq_self, if_true, if_false, g2]; exact v3
    · show g2.1 (ad p) 4 = nI 0
      simp (disch := (first | assumption | omega | (apply Inj.ne <;> first | assumption | omega) | fail)) only [nn_S, nm_D, ck_T, c2_S, on_N, on_S, lit, mNEG, nI_add, pk_mul, inb_nI, nI_clamp, wrI_row, wrL_row, rdR_rowI, rdR_rowL, rdI_def, rdL_def, rowI_same, rowI_ne, rowI_rowI, rowL_same, rowL_ne, rowL_1, rowI_21, upd_same, upd_ne, nI_le_T, nI_le_F, nI_lt_T, nI_lt_F, nI_eq_F, nI_NEG, NEG_lt0, nI_p, eq_self, if_true, if_false, g2]; exact v4
    · show g2.1 (ad p) 5 = X.1.1
      simp (disch := (first | assumption | omega | (apply Inj.ne <;> first | assumption | omega) | fail)) only [nn_S, nm_D, ck_T, c2_S, on_N, on_S, lit, mNEG, nI_add, pk_mul, inb_nI, nI_clamp, wrI_row, wrL_row, rdR_rowI, rdR_rowL, rdI_def, rdL_def, rowI_same, rowI_ne, rowI_rowI, rowL_same, rowL_ne, rowL_1, rowI_21, upd_same, upd_ne, nI_le_T, nI_le_F, nI_lt_T, nI_lt_F, nI_eq_F, nI_NEG, NEG_lt0, nI_p, eq_self, if_true, if_false, g2]; exact v5
    · show g2.1 (ad p) 6 = X.1.2.1
      simp (disch := (first | assumption | omega | (apply Inj.ne <;> first | assumption | omega) | fail)) only [nn_S, nm_D, ck_T, c2_S, on_N, on_S, lit, mNEG, nI_add, pk_mul, inb_nI, nI_clamp, wrI_row, wrL_row, rdR_rowI, rdR_rowL, rdI_def, rdL_def, rowI_same, rowI_ne, rowI_rowI, rowL_same, rowL_ne, rowL_1, rowI_21, upd_same, upd_ne, nI_le_T, nI_le_F, nI_lt_T, nI_lt_F, nI_eq_F, nI_NEG, NEG_lt0, nI_p, eq_self, if_true, if_false, g2]; exact v6
    · show g2.1 (ad p) 7 = X.1.2.2.1
      simp (disch := (first | assumption | omega | (apply Inj.ne <;> first | assumption | omega) | fail)) only [nn_S, nm_D, ck_T, c2_S, on_N, on_S, lit, mNEG, nI_add, pk_mul, inb_nI, nI_clamp, wrI_row, wrL_row, rdR_rowI, rdR_rowL, rdI_def, rdL_def, rowI_same, rowI_ne, rowI_rowI, rowL_same, rowL_ne, rowL_1, rowI_21, upd_same, upd_ne, nI_le_T, nI_le_F, nI_lt_T, nI_lt_F, nI_eq_F, nI_NEG, NEG_lt0, nI_p, eq_self, if_true, if_false, g2]; exact v7
    · show g2.1 (ad p) 8 = X.1.2.2.2.1
      simp (disch := (first | assumption | omega | (apply Inj.ne <;> first | assumption | omega) | fail)) only [nn_S, nm_D, ck_T, c2_S, on_N, on_S, lit, mNEG, nI_add, pk_mul, inb_nI, nI_clamp, wrI_row, wrL_row, rdR_rowI, rdR_rowL, rdI_def, rdL_def, rowI_same, rowI_ne, rowI_rowI, rowL_same, rowL_ne, rowL_1, rowI_21, upd_same, upd_ne, nI_le_T, nI_le_F, nI_lt_T, nI_lt_F, nI_eq_F, nI_NEG, NEG_lt0, nI_p, eq_self, if_true, if_false, g2]
    · show g2.1 (ad p) 9 = X.1.2.2.2.2.1
      simp (disch := (first | assumption | omega | (apply Inj.ne <;> first | assumption | omega) | fail)) only [nn_S, nm_D, ck_T, c2_S, on_N, on_S, lit, mNEG, nI_add, pk_mul, inb_nI, nI_clamp, wrI_row, wrL_row, rdR_rowI, rdR_rowL, rdI_def, rdL_def, rowI_same, rowI_ne, rowI_rowI, rowL_same, rowL_ne, rowL_1, rowI_21, upd_same, upd_ne, nI_le_T, nI_le_F, nI_lt_T, nI_lt_F, nI_eq_F, nI_NEG, NEG_lt0, nI_p, eq_self, if_true, if_false, g2]
    · show g2.1 (ad p) 10 = X.1.2.2.2.2.2.1
      simp (disch := (first | assumption | omega | (apply Inj.ne <;> first | assumption | omega) | fail)) only [nn_S, nm_D, ck_T, c2_S, on_N, on_S, lit, mNEG, nI_add, pk_mul, inb_nI, nI_clamp, wrI_row, wrL_row, rdR_rowI, rdR_rowL, rdI_def, rdL_def, rowI_same, rowI_ne, rowI_rowI, rowL_same, rowL_ne, rowL_1, rowI_21, upd_same, upd_ne, nI_le_T, nI_le_F, nI_lt_T, nI_lt_F, nI_eq_F, nI_NEG, NEG_lt0, nI_p, eq_self, if_true, if_false, g2]
    · show g2.1 (ad p) 11 = X.1.2.2.2.2.2.2
      simp (disch := (first | assumption | omega | (apply Inj.ne <;> first | assumption | omega) | fail)) only [nn_S, nm_D, ck_T, c2_S, on_N, on_S, lit, mNEG, nI_add, pk_mul, inb_nI, nI_clamp, wrI_row, wrL_row, rdR_rowI, rdR_rowL, rdI_def, rdL_def, rowI_same, rowI_ne, rowI_rowI, rowL_same, rowL_ne, rowL_1, rowI_21, upd_same, upd_ne, nI_le_T, nI_le_F, nI_lt_T, nI_lt_F, nI_eq_F, nI_NEG, NEG_lt0, nI_p, eq_self, if_true, if_false, g2]
  obtain ⟨ad3, S3, g3, k3, w3', b1, b2⟩ := c_pfCopy50 (N := N) hN hpq he hs X.2.1.1 N 0 ad S g2 (by omega) (by omega) hA (hQ.fr f1 (fun r r1 r2 => by omega)) hO2 hB
  refine ⟨ad3, S3, g3, k3, w3', ?_, PfR.frl f1 b2⟩
  show b_X7_copy_0 N S g (ad p) (ad q) = _
  unfold b_X7_copy_0
  simp (disch := (first | assumption | omega | (apply Inj.ne <;> first | assumption | omega) | fail)) only [nn_S, nm_D, ck_T, c2_S, on_N, on_S, lit, mNEG, nI_add, pk_mul, inb_nI, nI_clamp, wrI_row, wrL_row, rdR_rowI, rdR_rowL, rdI_def, rdL_def, rowI_same, rowI_ne, rowI_rowI, rowL_same, rowL_ne, rowL_1, rowI_21, upd_same, upd_ne, nI_le_T, nI_le_F, nI_lt_T, nI_lt_F, nI_eq_F, nI_NEG, NEG_lt0, nI_p, eq_self, if_true, if_false, u5, u6, u7, a1, w8, w9, w10, w11]
  exact b1
theorem c_hasStepT {N : Nat} {S : Hs} {g : Hg} {ad : Nat → Nat} {p s : Nat} {X : ASl} (hO : PfO S g ad p X) (hs : s < X.2.2.1) (h2 : X.2.2.1 ≤ 256) : f_X7_hasStep N S g (ad p) (nI s) = some (nI 1, g) := by
  have h4 := hO.2.1.1.2.1
  show b_X7_hasStep_0 N S g (ad p) (nI s) = _
  unfold b_X7_hasStep_0
  simp (disch := (first | assumption | omega | (apply Inj.ne <;> first | assumption | omega) | fail)) only [nn_S, nm_D, ck_T, c2_S, on_N, on_S, lit, mNEG, nI_add, pk_mul, inb_nI, nI_clamp, wrI_row, wrL_row, rdR_rowI, rdR_rowL, rdI_def, rdL_def, rowI_same, rowI_ne, rowI_rowI, rowL_same, rowL_ne, rowL_1, rowI_21, upd_same, upd_ne, nI_le_T, nI_le_F, nI_lt_T, nI_lt_F, nI_eq_F, nI_NEG, NEG_lt0, nI_p, eq_self, if_true, if_false, h4]
theorem c_hasStepF {N : Nat} {S : Hs} {g : Hg} {ad : Nat → Nat} {p : Nat} {X : ASl} {x : Int32} (hO : PfO S g ad p X) (h : x < 0 ∨ nI X.2.2.1 ≤ x) : f_X7_hasStep N S g (ad p) x = some (nI 0, g) := by
  have h4 := hO.2.1.1.2.1
  show b_X7_hasStep_0 N S g (ad p) x = _
  unfold b_X7_hasStep_0
  by_cases c : x < 0
  · rw [if_pos c]; rfl
  · rcases h with h | h
    · exact absurd h c
    · rw [if_neg c, rdI_def, h4, if_pos h]; rfl
theorem c_toldKey0 {N : Nat} {S : Hs} {g : Hg} {ad : Nat → Nat} {p : Nat} {X : ASl} (hO : PfO S g ad p X) (h : X.2.1.1 = 0) : f_X7_toldKey N S g (ad p) = some (X.1.2.2.2.2.1, g) := by
  have h3 := hO.2.1.1.1
  have h9 := hO.2.1.1.2.2.2.2.2.2.1
  rw [h] at h3
  show b_X7_toldKey_0 N S g (ad p) = _
  unfold b_X7_toldKey_0
  simp (disch := (first | assumption | omega | (apply Inj.ne <;> first | assumption | omega) | fail)) only [nn_S, nm_D, ck_T, c2_S, on_N, on_S, lit, mNEG, nI_add, pk_mul, inb_nI, nI_clamp, wrI_row, wrL_row, rdR_rowI, rdR_rowL, rdI_def, rdL_def, rowI_same, rowI_ne, rowI_rowI, rowL_same, rowL_ne, rowL_1, rowI_21, upd_same, upd_ne, nI_le_T, nI_le_F, nI_lt_T, nI_lt_F, nI_eq_F, nI_NEG, NEG_lt0, nI_p, eq_self, if_true, if_false, h3, h9]
theorem c_toldKeyS {N : Nat} {S : Hs} {g : Hg} {ad : Nat → Nat} {p : Nat} {X : ASl} (hO : PfO S g ad p X) (h : 0 < X.2.1.1) (h2 : X.2.1.1 ≤ 40) : f_X7_toldKey N S g (ad p) = some (X.2.1.2.1 0, g) := by
  have h3 := hO.2.1.1.1
  have h9 := (hO.2.1.2.1 0 h).1
  have l1 := hO.1.2.2.2.1
  show b_X7_toldKey_0 N S g (ad p) = _
  unfold b_X7_toldKey_0
  simp (disch := (first | assumption | omega | (apply Inj.ne <;> first | assumption | omega) | fail)) only [nn_S, nm_D, ck_T, c2_S, on_N, on_S, lit, mNEG, nI_add, pk_mul, inb_nI, nI_clamp, wrI_row, wrL_row, rdR_rowI, rdR_rowL, rdI_def, rdL_def, rowI_same, rowI_ne, rowI_rowI, rowL_same, rowL_ne, rowL_1, rowI_21, upd_same, upd_ne, nI_le_T, nI_le_F, nI_lt_T, nI_lt_F, nI_eq_F, nI_NEG, NEG_lt0, nI_p, eq_self, if_true, if_false, h3, h9, hO.1.1, l1]
/-! is a PROOF RIGHT for a HEAD -/
theorem c_isRightN {N : Nat} {S : Hs} {g : Hg} {ad : Nat → Nat} {p h : Nat} {X : ASl} {H : AHd} (hn : H.2.1.1 ≠ X.1.2.1) (hO : PfO S g ad p X) (hH : HdO S g ad h H) : f_X8_isRight N S g (ad 9) (ad p) (ad h) = some (nI 0, g) := by
  have h6 := hO.2.1.1.2.2.2.1
  have h4 := hH.2.1.2.1
  show b_X8_isRight_0 N S g _ _ _ = _
  unfold b_X8_isRight_0
  rw [rdI_def, rdI_def, h6, h4, if_neg hn]
  rfl
theorem c_isRightE {N : Nat} (hN : 40000 ≤ N) {S : Hs} {g : Hg} {ad : Nat → Nat} (hI : Inj ad) {p h a n_ : Nat} {X : ASl} {H : AHd} (hk : X.1.1 = nI 1 ∨ X.1.1 = nI 5) (hn : H.2.1.1 = X.1.2.1) (hp : 16 ≤ p) (hh : 16 ≤ h) (hX : X.1.2.2.1 = nI a ∧ X.1.2.1 = nI n_) (hec : X.2.1.1 ≤ 40) (han : a + X.2.1.1 ≤ n_) (hn4 : n_ ≤ 400) (hs : nb 0 a + nb (a + X.2.1.1) n_ ≤ X.2.2.1) (hs2 : X.2.2.1 ≤ 256) (hS : ScP S g ad) (hO : PfO S g ad p X) (hH : HdO S g ad h H) :
    ∃ g1, f_X8_isRight N S g (ad 9) (ad p) (ad h) = some (bI (sameB (TOPX (entT X a n_)) H.2.2.1), g1) ∧ Fr ad (fun r => r = 2 ∨ r = 3 ∨ 10 ≤ r ∧ r ≤ 15) g g1 := by
  have h6 := hO.2.1.1.2.2.2.1
  have h5 := hO.2.1.1.2.2.1
  have h4 := hH.2.1.2.1
  obtain ⟨g1, a1, a2⟩ := c_hasEntries hN hI hp hh hX hec han hn4 hs hs2 hS hO hH
  refine ⟨g1, ?_, a2.mono (fun r h => by omega)⟩
  show b_X8_isRight_0 N S g _ _ _ = _
  unfold b_X8_isRight_0
  rw [rdI_def, rdI_def, rdI_def, h6, h4, h5, if_pos hn, nm_D]
  rcases hk with hk | hk
  · rw [hk]
    simp (disch := (first | assumption | omega | (apply Inj.ne <;> first | assumption | omega) | fail)) only [nn_S, nm_D, ck_T, c2_S, on_N, on_S, lit, mNEG, nI_add, pk_mul, inb_nI, nI_clamp, wrI_row, wrL_row, rdR_rowI, rdR_rowL, rdI_def, rdL_def, rowI_same, rowI_ne, rowI_rowI, rowL_same, rowL_ne, rowL_1, rowI_21, upd_same, upd_ne, nI_le_T, nI_le_F, nI_lt_T, nI_lt_F, nI_eq_F, nI_NEG, NEG_lt0, nI_p, eq_self, if_true, if_false, a1, zb_bI]
  · rw [hk]
    simp (disch := (first | assumption | omega | (apply Inj.ne <;> first | assumption | omega) | fail)) only [nn_S, nm_D, ck_T, c2_S, on_N, on_S, lit, mNEG, nI_add, pk_mul, inb_nI, nI_clamp, wrI_row, wrL_row, rdR_rowI, rdR_rowL, rdI_def, rdL_def, rowI_same, rowI_ne, rowI_rowI, rowL_same, rowL_ne, rowL_1, rowI_21, upd_same, upd_ne, nI_le_T, nI_le_F, nI_lt_T, nI_lt_F, nI_eq_F, nI_NEG, NEG_lt0, nI_p, eq_self, if_true, if_false, a1, zb_bI]
theorem c_isRightH {N : Nat} (hN : 40000 ≤ N) {S : Hs} {g : Hg} {ad : Nat → Nat} (hI : Inj ad) {p h : Nat} {X : ASl} {H : AHd} (hk : X.1.1 = nI 3) (hn : H.2.1.1 = X.1.2.1) (hp : 16 ≤ p) (hh : 16 ≤ h) (hs2 : X.2.2.1 ≤ 256) (hS : ScP S g ad) (hO : PfO S g ad p X) (hH : HdO S g ad h H) :
    ∃ g1, f_X8_isRight N S g (ad 9) (ad p) (ad h) = some (bI (LEADB X X.1.2.2.2.2.1 H), g1) ∧ Fr ad (fun r => r = 2 ∨ r = 3 ∨ 10 ≤ r ∧ r ≤ 15) g g1 := by
  have h6 := hO.2.1.1.2.2.2.1
  have h5 := hO.2.1.1.2.2.1
  have h4 := hH.2.1.2.1
  have h9 := hO.2.1.1.2.2.2.2.2.2.1
  obtain ⟨g1, a1, a2⟩ := c_leadsTo hN hI X.1.2.2.2.2.1 hp hh hs2 hS hO hH
  refine ⟨g1, ?_, a2.mono (fun r h => by omega)⟩
  show b_X8_isRight_0 N S g _ _ _ = _
  unfold b_X8_isRight_0
  rw [rdI_def, rdI_def, rdI_def, rdI_def, h6, h4, h5, h9, if_pos hn, nm_D, hk]
  simp (disch := (first | assumption | omega | (apply Inj.ne <;> first | assumption | omega) | fail)) only [nn_S, nm_D, ck_T, c2_S, on_N, on_S, lit, mNEG, nI_add, pk_mul, inb_nI, nI_clamp, wrI_row, wrL_row, rdR_rowI, rdR_rowL, rdI_def, rdL_def, rowI_same, rowI_ne, rowI_rowI, rowL_same, rowL_ne, rowL_1, rowI_21, upd_same, upd_ne, nI_le_T, nI_le_F, nI_lt_T, nI_lt_F, nI_eq_F, nI_NEG, NEG_lt0, nI_p, eq_self, if_true, if_false, a1, zb_bI]
theorem c_isRightA {N : Nat} (hN : 40000 ≤ N) {S : Hs} {g : Hg} {ad : Nat → Nat} (hI : Inj ad) {p h : Nat} {X : ASl} {H : AHd} (hk : X.1.1 = nI 4) (hn : H.2.1.1 = X.1.2.1) (hp : 16 ≤ p) (hh : 16 ≤ h) (hs2 : X.2.2.1 ≤ 256) (hS : ScP S g ad) (hO : PfO S g ad p X) (hH : HdO S g ad h H) :
    ∃ g1, f_X8_isRight N S g (ad 9) (ad p) (ad h) = some (bI (!(decide (X.1.2.2.2.2.2.1 ≠ NEG) && decide (X.1.2.2.2.2.2.2 = X.1.2.2.2.2.1)) && LEADB X X.1.2.2.2.2.2.2 H), g1) ∧ Fr ad (fun r => r = 2 ∨ r = 3 ∨ 10 ≤ r ∧ r ≤ 15) g g1 := by
  have h6 := hO.2.1.1.2.2.2.1
  have h5 := hO.2.1.1.2.2.1
  have h4 := hH.2.1.2.1
  have h9 := hO.2.1.1.2.2.2.2.2.2.1
  have h10 := hO.2.1.1.2.2.2.2.2.2.2.1
  have h11 := hO.2.1.1.2.2.2.2.2.2.2.2
  obtain ⟨g1, a1, a2⟩ := c_leadsTo hN hI X.1.2.2.2.2.2.2 hp hh hs2 hS hO hH
  have hb : ∀ b : Bool, (if bI b = 0 then some ((0 : Int32), g1) else some ((1 : Int32), g1)) = some (bI b, g1) := by
    intro b
    cases b
    · rw [if_pos (by decide)]; rfl
    · rw [if_neg (by decide)]; rfl
  by_cases c1 : X.1.2.2.2.2.2.1 = NEG
  · refine ⟨g1, ?_, a2.mono (fun r h => by omega)⟩
    show b_X8_isRight_0 N S g _ _ _ = _
    unfold b_X8_isRight_0 b_X8_isRight_93 b_X8_isRight_94
    simp only [rdI_def, h6, h4, h5, h9, h10, h11, if_pos hn, nm_D, hk, mNEG', c1, if_true]
    rw [a1]
    simp only [c2_S]
    rw [hb]
    simp
    rw [if_neg (by decide), if_neg (by decide), if_neg (by decide), if_pos (by decide)]
  · by_cases c2' : X.1.2.2.2.2.2.2 = X.1.2.2.2.2.1
    · refine ⟨g, ?_, Fr.rf⟩
      show b_X8_isRight_0 N S g _ _ _ = _
      unfold b_X8_isRight_0 b_X8_isRight_93 b_X8_isRight_94
      simp only [rdI_def, h6, h4, h5, h9, h10, h11, if_pos hn, nm_D, hk, mNEG', if_neg c1, if_pos c2']
      simp [c1, c2']
      rw [if_neg (by decide), if_neg (by decide), if_neg (by decide), if_pos (by decide)]
      rfl
    · refine ⟨g1, ?_, a2.mono (fun r h => by omega)⟩
      show b_X8_isRight_0 N S g _ _ _ = _
      unfold b_X8_isRight_0 b_X8_isRight_93 b_X8_isRight_94
      simp only [rdI_def, h6, h4, h5, h9, h10, h11, if_pos hn, nm_D, hk, mNEG', if_neg c1, if_neg c2', if_true]
      rw [a1]
      simp only [c2_S]
      rw [hb]
      simp [c2']
      rw [if_neg (by decide), if_neg (by decide), if_neg (by decide), if_pos (by decide)]
