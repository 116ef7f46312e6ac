/-! TURN and MIX -/
def rot7 (x : Int32) : Int32 := (x <<< ((7 : Int32) &&& 31)) ||| (x.toUInt32 >>> ((25 : Int32).toUInt32 &&& Int32.toUInt32 31)).toInt32
def tj (r : Nat → Int32) (j : Nat) : Nat → Int32 := upd r j (rot7 (r j + r ((j + 1) % 8)) ^^^ r ((j + 3) % 8))
def tF : Nat → (Nat → Int32) → Nat → Int32
  | 0, r => r
  | i + 1, r => tF i (tj r (7 - i))
def tIt : Nat → (Nat → Int32) → Nat → Int32
  | 0, r => r
  | n + 1, r => tIt n (tF 8 r)
def TURN (r : Nat → Int32) : Nat → Int32 := tIt 6 r
theorem m_turn10 (N : Nat) (S : Hs) (a0 A : Nat) (hL : hpL S A = 8) (k2 : Hg → Nat → Int32 → Option (Unit × Hg)) (x1 : Int32) : ∀ (i n : Nat) (g : Hg), i ≤ 8 → i < n → rdR g a0 44 = some A → n_X12_turn_10 N S k2 n g a0 x1 (nI (8 - i)) = k2 (rowI g A (tF i (g.1 A))) a0 (x1 + 1) := by
  intro i
  induction i with
  | zero =>
    intro n g h1 h2 hR
    obtain ⟨n, rfl⟩ : ∃ z, n = z + 1 := ⟨n - 1, by omega⟩
    show b_X12_turn_10 N S k2 (n_X12_turn_10 N S k2 n) g a0 x1 (nI 8) = _
    unfold b_X12_turn_10
    rw [if_pos (by decide)]
    simp only [nm_D, tF, rowI_self]
  | succ i ih =>
    intro n g h1 h2 hR
    obtain ⟨n, rfl⟩ : ∃ z, n = z + 1 := ⟨n - 1, by omega⟩
    show b_X12_turn_10 N S k2 (n_X12_turn_10 N S k2 n) g a0 x1 (nI (8 - (i + 1))) = _
    unfold b_X12_turn_10
    have hj : 8 - (i + 1) < 8 := by omega
    have e7 : 8 - (i + 1) = 7 - i := by omega
    rw [e7] at hj ⊢
    generalize hjj : 7 - i = j at hj ⊢
    have hlt : ¬ ((8 : Int32) ≤ nI j) := nI_ge (a := j) (b := 8) hj (by decide)
    rw [if_neg hlt]
    simp only [lit, nI_add, hR, nn_S, nm_D, hL, nI_rem8 (show j + 1 < 2 ^ 31 by omega), nI_rem8 (show j + 3 < 2 ^ 31 by omega)]
    rw [inb_nI hj (by decide), inb_nI (Nat.mod_lt _ (by decide)) (by decide), inb_nI (Nat.mod_lt _ (by decide)) (by decide)]
    simp only [ck_T, wrI_row, nI_clamp (show j < 2 ^ 31 by omega), nI_clamp (show (j + 1) % 8 < 2 ^ 31 by omega), nI_clamp (show (j + 3) % 8 < 2 ^ 31 by omega)]
    have e1 : j + 1 = 8 - i := by omega
    have key := ih n (rowI g A (tj (g.1 A) j)) (by omega) (by omega) hR
    rw [rowI_rowI, rowI_same] at key
    show n_X12_turn_10 N S k2 n (rowI g A (tj (g.1 A) j)) a0 x1 (nI (j + 1)) = k2 (rowI g A (tF i (tj (g.1 A) (7 - i)))) a0 (x1 + 1)
    rw [e1, key, hjj]
theorem m_turn2 (N : Nat) (hN : 9 ≤ N) (S : Hs) (a0 A : Nat) (hL : hpL S A = 8) : ∀ (i n : Nat) (g : Hg), i ≤ 6 → i < n → rdR g a0 44 = some A → n_X12_turn_2 N S n g a0 (nI (6 - i)) = some ((), rowI g A (tIt i (g.1 A))) := by
  intro i
  induction i with
  | zero =>
    intro n g h1 h2 hR
    obtain ⟨n, rfl⟩ : ∃ z, n = z + 1 := ⟨n - 1, by omega⟩
    show b_X12_turn_2 N S (n_X12_turn_2 N S n) g a0 (nI 6) = _
    unfold b_X12_turn_2
    rw [if_pos (by decide)]
    simp only [tIt, rowI_self]
  | succ i ih =>
    intro n g h1 h2 hR
    obtain ⟨n, rfl⟩ : ∃ z, n = z + 1 := ⟨n - 1, by omega⟩
    show b_X12_turn_2 N S (n_X12_turn_2 N S n) g a0 (nI (6 - (i + 1))) = _
    unfold b_X12_turn_2
    rw [if_neg (show ¬ ((6 : Int32) ≤ nI (6 - (i + 1))) from nI_ge (a := 6 - (i + 1)) (b := 6) (by omega) (by decide))]
    have key := m_turn10 N S a0 A hL (n_X12_turn_2 N S n) (nI (6 - (i + 1))) 8 N g (by omega) (by omega) hR
    rw [show ((0 : Int32)) = nI (8 - 8) from rfl, key]
    have e1 : nI (6 - (i + 1)) + 1 = nI (6 - i) := by
      rw [nI_1]
      congr 1
      omega
    rw [e1, ih n (rowI g A (tF 8 (g.1 A))) (by omega) (by omega) hR, rowI_rowI, rowI_same]
    rfl
theorem m_turn {N : Nat} (hN : 9 ≤ N) {S : Hs} {g : Hg} {a0 A : Nat} (hL : hpL S A = 8) (hR : rdR g a0 44 = some A) : f_X12_turn N S g a0 = some ((), rowI g A (TURN (g.1 A))) := by
  have := m_turn2 N hN S a0 A hL 6 N g (by omega) (by omega) hR
  exact this
