def put8 (row : Nat → Int32) (p : Nat) (v : Nat → Int32) : Nat → Int32 := fun j => if 8 * p ≤ j ∧ j < 8 * p + 8 then v (j - 8 * p) else row j
theorem put8_cpy {R v row : Nat → Int32} {p : Nat} (h : eq8 R v) : va_cpy R row 0 (8 * p) 8 = put8 row p v := by
  funext j
  unfold va_cpy put8
  by_cases hc : 8 * p ≤ j ∧ j < 8 * p + 8
  · rw [if_pos hc, if_pos hc, Nat.zero_add, h _ (by omega)]
  · rw [if_neg hc, if_neg hc]
theorem cpok_nI {a b n n0 n1 : Nat} (h0 : a + n ≤ n0) (h1 : b + n ≤ n1) (k0 : n0 < 2 ^ 31) (k1 : n1 < 2 ^ 31) : cpok (nI a) (nI b) (nI n) n0 n1 = true := by
  have ha : ¬ nI a < 0 := nI_pos (by omega)
  have hb : ¬ nI b < 0 := nI_pos (by omega)
  have hn : ¬ nI n < 0 := nI_pos (by omega)
  unfold cpok
  rw [nI_clamp (show a < 2 ^ 31 by omega), nI_clamp (show b < 2 ^ 31 by omega), nI_clamp (show n < 2 ^ 31 by omega)]
  simp [ha, hb, hn, h0, h1]
def iniF : Nat → (Nat → Int32) → Nat → Int32
  | 0, r => r
  | i + 1, r => iniF i (upd r (7 - i) (nI (7 - i + 1) * 1640531527))
theorem iniF_8 (r : Nat → Int32) : iniF 8 r = ini r := by
  funext j
  by_cases h : j < 8
  · have : j = 0 ∨ j = 1 ∨ j = 2 ∨ j = 3 ∨ j = 4 ∨ j = 5 ∨ j = 6 ∨ j = 7 := by omega
    rcases this with rfl | rfl | rfl | rfl | rfl | rfl | rfl | rfl <;> simp [iniF, ini, upd]
  · simp [iniF, ini, upd, h, show j ≠ 0 by omega, show j ≠ 1 by omega, show j ≠ 2 by omega, show j ≠ 3 by omega, show j ≠ 4 by omega, show j ≠ 5 by omega, show j ≠ 6 by omega, show j ≠ 7 by omega]
theorem c_mix3 (N : Nat) (S : Hs) (mx A to : Nat) (hL : hpL S A = 8) (x1 x3 : Int32) : ∀ (i n : Nat) (g : Hg), i ≤ 8 → i < n → rdR g mx 1 = some A → n_X6_mix_3 N S n g mx x1 to x3 (nI (8 - i)) = n_X6_mix_33 N S N (rowI g A (iniF i (g.1 A))) mx x1 to x3 (nI 0) := by
  intro i
  induction i with
  | zero =>
    intro n g h1 h2 hR
    obtain ⟨n, rfl⟩ : ∃ z, n = z + 1 := ⟨n - 1, by omega⟩
    show b_X6_mix_3 N S (n_X6_mix_3 N S n) g mx x1 to x3 (nI 8) = _
    unfold b_X6_mix_3
    rw [if_pos (by decide)]
    simp only [iniF, rowI_self]
    rfl
  | succ i ih =>
    intro n g h1 h2 hR
    obtain ⟨n, rfl⟩ : ∃ z, n = z + 1 := ⟨n - 1, by omega⟩
    show b_X6_mix_3 N S (n_X6_mix_3 N S n) g mx x1 to x3 (nI (8 - (i + 1))) = _
    have e7 : 8 - (i + 1) = 7 - i := by omega
    rw [e7]
    have hj : 7 - i < 8 := by omega
    have e8 : 7 - i + 1 = 8 - i := by omega
    unfold b_X6_mix_3
    rw [if_neg (show ¬ ((8 : Int32) ≤ nI (7 - i)) from nI_ge (a := 7 - i) (b := 8) hj (by decide))]
    simp only [hR, nn_S, nm_D, hL, inb_nI hj (show 8 < 2 ^ 31 by decide), ck_T, wrI_row, nI_clamp (show 7 - i < 2 ^ 31 by omega), nI_1]
    have key := ih n (rowI g A (upd (g.1 A) (7 - i) (nI (7 - i + 1) * 1640531527))) (by omega) (by omega) hR
    rw [rowI_rowI, rowI_same, ← e8] at key
    exact key
theorem m_mix2 (N : Nat) (S : Hs) (m A : Nat) (hL : hpL S A = 8) (x1 : Int32) : ∀ (i n : Nat) (g : Hg), i ≤ 8 → i < n → rdR g m 44 = some A → n_X12_mix_2 N S n g m x1 (nI (8 - i)) = n_X12_mix_28 N S N (rowI g A (iniF i (g.1 A))) m x1 (nI 0) := by
  intro i
  induction i with
  | zero =>
    intro n g h1 h2 hR
    obtain ⟨n, rfl⟩ : ∃ z, n = z + 1 := ⟨n - 1, by omega⟩
    show b_X12_mix_2 N S (n_X12_mix_2 N S n) g m x1 (nI 8) = _
    unfold b_X12_mix_2
    rw [if_pos (by decide)]
    simp only [iniF, rowI_self]
    rfl
  | succ i ih =>
    intro n g h1 h2 hR
    obtain ⟨n, rfl⟩ : ∃ z, n = z + 1 := ⟨n - 1, by omega⟩
    show b_X12_mix_2 N S (n_X12_mix_2 N S n) g m x1 (nI (8 - (i + 1))) = _
    have e7 : 8 - (i + 1) = 7 - i := by omega
    rw [e7]
    have hj : 7 - i < 8 := by omega
    have e8 : 7 - i + 1 = 8 - i := by omega
    unfold b_X12_mix_2
    rw [if_neg (show ¬ ((8 : Int32) ≤ nI (7 - i)) from nI_ge (a := 7 - i) (b := 8) hj (by decide))]
    simp only [hR, nn_S, nm_D, hL, inb_nI hj (show 8 < 2 ^ 31 by decide), ck_T, wrI_row, nI_clamp (show 7 - i < 2 ^ 31 by omega), nI_1]
    have key := ih n (rowI g A (upd (g.1 A) (7 - i) (nI (7 - i + 1) * 1640531527))) (by omega) (by omega) hR
    rw [rowI_rowI, rowI_same, ← e8] at key
    exact key
def finR (n : Nat) (r : Nat → Int32) : Nat → Int32 := TURN (upd r 0 (r 0 ^^^ nI n))
theorem c_mix33 (N : Nat) (hN : 9 ≤ N) (S : Hs) (mx A W to p cnt : Nat) (hL : hpL S A = 8) (hLW : hpL S W = 20) (hc : cnt ≤ 20) (hWA : W ≠ A) (hto : 8 * p + 8 ≤ hpL S to) (hto2 : hpL S to < 2 ^ 31) : ∀ (i n : Nat) (g : Hg), i ≤ cnt → i < n → rdR g mx 1 = some A → rdR g mx 0 = some W → n_X6_mix_33 N S n g mx (nI cnt) to (nI p) (nI (cnt - i)) = some ((), cpI (rowI g A (finR cnt (ab (g.1 W) cnt i (g.1 A)))) A 0 to (8 * p) 8) := by
  intro i
  induction i with
  | zero =>
    intro n g h1 h2 hR hRW
    obtain ⟨n, rfl⟩ : ∃ z, n = z + 1 := ⟨n - 1, by omega⟩
    show b_X6_mix_33 N S (n_X6_mix_33 N S n) g mx (nI cnt) to (nI p) (nI cnt) = _
    unfold b_X6_mix_33
    rw [if_pos (Int32.le_refl _)]
    simp only [hR, nn_S, nm_D, hL, wrI_row, show inb (0 : Int32) 8 = true by decide, ck_T]
    rw [c_turn hN hL (by rw [rdR_rowI]; exact hR)]
    simp only [c2_S, rdR_rowI, hR, nn_S, lit, pk_mul, hL, rowI_rowI, rowI_same]
    rw [cpok_nI (by omega) (by omega) (by omega) hto2, ck_T, nI_clamp (show p * 8 < 2 ^ 31 by omega), Nat.mul_comm p 8]
    rfl
  | succ i ih =>
    intro n g h1 h2 hR hRW
    obtain ⟨n, rfl⟩ : ∃ z, n = z + 1 := ⟨n - 1, by omega⟩
    show b_X6_mix_33 N S (n_X6_mix_33 N S n) g mx (nI cnt) to (nI p) (nI (cnt - (i + 1))) = _
    generalize hk : cnt - (i + 1) = k
    have hk1 : k < cnt := by omega
    have hm : k % 8 < 8 := Nat.mod_lt _ (by decide)
    have e1 : k + 1 = cnt - i := by omega
    unfold b_X6_mix_33
    rw [if_neg (show ¬ (nI cnt ≤ nI k) from nI_ge hk1 (by omega))]
    simp only [lit, hR, hRW, nn_S, nm_D, hL, hLW, nI_rem8 (show k < 2 ^ 31 by omega), inb_nI hm (show 8 < 2 ^ 31 by decide), inb_nI (show k < 20 by omega) (show 20 < 2 ^ 31 by decide), ck_T, wrI_row, nI_clamp (show k % 8 < 2 ^ 31 by omega), nI_clamp (show k < 2 ^ 31 by omega), rdI_def]
    have hs : nI cnt - nI 1 = nI (cnt - 1) := pk_sub (by omega)
    have key := ih n (rowI g A (ab1 (g.1 W) cnt k (g.1 A))) (by omega) (by omega) hR hRW
    rw [rowI_rowI, rowI_same, rowI_ne g _ hWA, ← e1] at key
    have hab : ab (g.1 W) cnt (i + 1) (g.1 A) = ab (g.1 W) cnt i (ab1 (g.1 W) cnt k (g.1 A)) := by
      show ab (g.1 W) cnt i (ab1 (g.1 W) cnt (cnt - (i + 1)) (g.1 A)) = _
      rw [hk]
    rw [hab, ← key]
    have hT : b_X6_mix_77 N S (n_X6_mix_33 N S n) (rowI g A (upd (g.1 A) (k % 8) (g.1 A (k % 8) ^^^ g.1 W k))) mx (nI cnt) to (nI p) (nI k) = n_X6_mix_33 N S n (rowI g A (TURN (upd (g.1 A) (k % 8) (g.1 A (k % 8) ^^^ g.1 W k)))) mx (nI cnt) to (nI p) (nI (k + 1)) := by
      unfold b_X6_mix_77
      rw [c_turn hN hL (by rw [rdR_rowI]; exact hR)]
      simp only [c2_S, nm_D, rowI_rowI, rowI_same, nI_1]
    by_cases h7 : k % 8 = 7
    · rw [if_pos (by rw [h7]), hT]
      unfold ab1
      rw [if_pos (Or.inl h7)]
    · rw [if_neg (fun e => h7 ((nI_eq (by omega) (by decide)).mp e))]
      by_cases hl : k + 1 = cnt
      · rw [if_pos (show nI k = nI cnt - nI 1 by rw [hs, show k = cnt - 1 by omega]), hT]
        unfold ab1
        rw [if_pos (Or.inr hl)]
      · rw [if_neg (show ¬ (nI k = nI cnt - nI 1) from fun e => hl (by rw [hs] at e; have := (nI_eq (by omega) (by omega)).mp e; omega)), nI_add]
        unfold ab1
        rw [if_neg (by omega)]
theorem m_mix28 (N : Nat) (hN : 9 ≤ N) (S : Hs) (m A W cnt : Nat) (hL : hpL S A = 8) (hLW : hpL S W = 24) (hc : cnt ≤ 24) (hWA : W ≠ A) : ∀ (i n : Nat) (g : Hg), i ≤ cnt → i < n → rdR g m 44 = some A → rdR g m 43 = some W → n_X12_mix_28 N S n g m (nI cnt) (nI (cnt - i)) = some ((), rowI g A (finR cnt (ab (g.1 W) cnt i (g.1 A)))) := by
  intro i
  induction i with
  | zero =>
    intro n g h1 h2 hR hRW
    obtain ⟨n, rfl⟩ : ∃ z, n = z + 1 := ⟨n - 1, by omega⟩
    show b_X12_mix_28 N S (n_X12_mix_28 N S n) g m (nI cnt) (nI cnt) = _
    unfold b_X12_mix_28
    rw [if_pos (Int32.le_refl _)]
    simp only [hR, nn_S, nm_D, hL, wrI_row, show inb (0 : Int32) 8 = true by decide, ck_T]
    rw [m_turn hN hL (by rw [rdR_rowI]; exact hR)]
    simp only [c2_S, rowI_rowI, rowI_same]
    rfl
  | succ i ih =>
    intro n g h1 h2 hR hRW
    obtain ⟨n, rfl⟩ : ∃ z, n = z + 1 := ⟨n - 1, by omega⟩
    show b_X12_mix_28 N S (n_X12_mix_28 N S n) g m (nI cnt) (nI (cnt - (i + 1))) = _
    generalize hk : cnt - (i + 1) = k
    have hk1 : k < cnt := by omega
    have hm : k % 8 < 8 := Nat.mod_lt _ (by decide)
    have e1 : k + 1 = cnt - i := by omega
    unfold b_X12_mix_28
    rw [if_neg (show ¬ (nI cnt ≤ nI k) from nI_ge hk1 (by omega))]
    simp only [lit, hR, hRW, nn_S, nm_D, hL, hLW, nI_rem8 (show k < 2 ^ 31 by omega), inb_nI hm (show 8 < 2 ^ 31 by decide), inb_nI (show k < 24 by omega) (show 24 < 2 ^ 31 by decide), ck_T, wrI_row, nI_clamp (show k % 8 < 2 ^ 31 by omega), nI_clamp (show k < 2 ^ 31 by omega), rdI_def]
    have hs : nI cnt - nI 1 = nI (cnt - 1) := pk_sub (by omega)
    have key := ih n (rowI g A (ab1 (g.1 W) cnt k (g.1 A))) (by omega) (by omega) hR hRW
    rw [rowI_rowI, rowI_same, rowI_ne g _ hWA, ← e1] at key
    have hab : ab (g.1 W) cnt (i + 1) (g.1 A) = ab (g.1 W) cnt i (ab1 (g.1 W) cnt k (g.1 A)) := by
      show ab (g.1 W) cnt i (ab1 (g.1 W) cnt (cnt - (i + 1)) (g.1 A)) = _
      rw [hk]
    rw [hab, ← key]
    have hT : b_X12_mix_67 N S (n_X12_mix_28 N S n) (rowI g A (upd (g.1 A) (k % 8) (g.1 A (k % 8) ^^^ g.1 W k))) m (nI cnt) (nI k) = n_X12_mix_28 N S n (rowI g A (TURN (upd (g.1 A) (k % 8) (g.1 A (k % 8) ^^^ g.1 W k)))) m (nI cnt) (nI (k + 1)) := by
      unfold b_X12_mix_67
      rw [m_turn hN hL (by rw [rdR_rowI]; exact hR)]
      simp only [c2_S, nm_D, rowI_rowI, rowI_same, nI_1]
    by_cases h7 : k % 8 = 7
    · rw [if_pos (by rw [h7]), hT]
      unfold ab1
      rw [if_pos (Or.inl h7)]
    · rw [if_neg (fun e => h7 ((nI_eq (by omega) (by decide)).mp e))]
      by_cases hl : k + 1 = cnt
      · rw [if_pos (show nI k = nI cnt - nI 1 by rw [hs, show k = cnt - 1 by omega]), hT]
        unfold ab1
        rw [if_pos (Or.inr hl)]
      · rw [if_neg (show ¬ (nI k = nI cnt - nI 1) from fun e => hl (by rw [hs] at e; have := (nI_eq (by omega) (by omega)).mp e; omega)), nI_add]
        unfold ab1
        rw [if_neg (by omega)]
/-- MIX of the class -/
theorem c_mix {N : Nat} (hN : 30 ≤ N) {S : Hs} {g : Hg} {mx A W to p cnt : Nat} (hL : hpL S A = 8) (hLW : hpL S W = 20) (hc : cnt ≤ 20) (hWA : W ≠ A) (htA : to ≠ A) (hto : 8 * p + 8 ≤ hpL S to) (hto2 : hpL S to < 2 ^ 31) (hR : rdR g mx 1 = some A) (hRW : rdR g mx 0 = some W) :
    f_X6_mix N S g mx (nI cnt) to (nI p) = some ((), rowI (rowI g A (MIXr (g.1 W) cnt (g.1 A))) to (put8 (g.1 to) p (MIX (g.1 W) cnt))) := by
  show n_X6_mix_3 N S N g mx (nI cnt) to (nI p) (nI (8 - 8)) = _
  rw [c_mix3 N S mx A to hL (nI cnt) (nI p) 8 N g (by omega) (by omega) hR]
  have key := c_mix33 N (by omega) S mx A W to p cnt hL hLW hc hWA hto hto2 cnt N (rowI g A (iniF 8 (g.1 A))) (Nat.le_refl _) (by omega) hR hRW
  rw [Nat.sub_self] at key
  rw [key, rowI_rowI, rowI_same, rowI_ne g _ hWA, iniF_8, cpI_row]
  rw [rowI_same, rowI_ne g _ htA]
  have hh : va_cpy (MIXr (g.1 W) cnt (g.1 A)) (g.1 to) 0 (8 * p) 8 = put8 (g.1 to) p (MIX (g.1 W) cnt) := put8_cpy (MIXr_eq (fun _ _ => rfl) _)
  have h2 : finR cnt (ab (g.1 W) cnt cnt (ini (g.1 A))) = MIXr (g.1 W) cnt (g.1 A) := rfl
  rw [h2, hh]
/-- MIX of the reference -/
theorem m_mix {N : Nat} (hN : 30 ≤ N) {S : Hs} {g : Hg} {m A W cnt : Nat} (hL : hpL S A = 8) (hLW : hpL S W = 24) (hc : cnt ≤ 24) (hWA : W ≠ A) (hR : rdR g m 44 = some A) (hRW : rdR g m 43 = some W) :
    f_X12_mix N S g m (nI cnt) = some ((), rowI g A (MIXr (g.1 W) cnt (g.1 A))) := by
  show n_X12_mix_2 N S N g m (nI cnt) (nI (8 - 8)) = _
  rw [m_mix2 N S m A hL (nI cnt) 8 N g (by omega) (by omega) hR]
  have key := m_mix28 N (by omega) S m A W cnt hL hLW hc hWA cnt N (rowI g A (iniF 8 (g.1 A))) (Nat.le_refl _) (by omega) hR hRW
  rw [Nat.sub_self] at key
  rw [key, rowI_rowI, rowI_same, rowI_ne g _ hWA, iniF_8]
  rfl
