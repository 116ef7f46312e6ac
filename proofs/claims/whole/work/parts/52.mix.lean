def up8 (row r : Nat → Int32) : Nat → Int32 := fun j => if j < 8 then r j else row j
theorem up8_eq (row r : Nat → Int32) : upd (upd (upd (upd (upd (upd (upd (upd row 0 (r 0)) 1 (r 1)) 2 (r 2)) 3 (r 3)) 4 (r 4)) 5 (r 5)) 6 (r 6)) 7 (r 7) = up8 row r := by
  funext j
  unfold up8
  by_cases h : j < 8
  · have : j = 0 ∨ j = 1 ∨ j = 2 ∨ j = 3 ∨ j = 4 ∨ j = 5 ∨ j = 6 ∨ j = 7 := by omega
    rcases this with rfl | rfl | rfl | rfl | rfl | rfl | rfl | rfl <;> simp [upd]
  · rw [if_neg h]
    simp [upd, show j ≠ 0 by omega, show j ≠ 1 by omega, show j ≠ 2 by omega, show j ≠ 3 by omega, show j ≠ 4 by omega, show j ≠ 5 by omega, show j ≠ 6 by omega, show j ≠ 7 by omega]
theorem tj_hi (r : Nat → Int32) {i j : Nat} (hi : i < 8) (hj : 8 ≤ j) : tj r i j = r j := by simp [tj, upd, show j ≠ i by omega]
theorem tF_hi : ∀ (i : Nat) (r : Nat → Int32) {j : Nat}, i ≤ 8 → 8 ≤ j → tF i r j = r j
  | 0, r, j, _, _ => rfl
  | i + 1, r, j, hi, hj => by
    show tF i (tj r (7 - i)) j = r j
    rw [tF_hi i _ (by omega) hj, tj_hi r (by omega) hj]
theorem tIt_hi : ∀ (i : Nat) (r : Nat → Int32) {j : Nat}, 8 ≤ j → tIt i r j = r j
  | 0, r, j, _ => rfl
  | i + 1, r, j, hj => by
    show tIt i (tF 8 r) j = r j
    rw [tIt_hi i _ hj, tF_hi 8 r (by omega) hj]
def eq8 (r q : Nat → Int32) : Prop := ∀ j, j < 8 → r j = q j
theorem upd_eq8 {r q : Nat → Int32} (h : eq8 r q) (k : Nat) {x y : Int32} (hx : x = y) : eq8 (upd r k x) (upd q k y) := by
  intro j hj
  by_cases hk : j = k
  · simp [upd, hk, hx]
  · simp [upd, hk, h j hj]
theorem tj_eq8 {r q : Nat → Int32} (h : eq8 r q) {i : Nat} (hi : i < 8) : eq8 (tj r i) (tj q i) := upd_eq8 h i (by rw [h i hi, h ((i + 1) % 8) (Nat.mod_lt _ (by decide)), h ((i + 3) % 8) (Nat.mod_lt _ (by decide))])
theorem tF_eq8 : ∀ (i : Nat) {r q : Nat → Int32}, i ≤ 8 → eq8 r q → eq8 (tF i r) (tF i q)
  | 0, _, _, _, h => h
  | i + 1, r, q, hi, h => tF_eq8 i (by omega) (tj_eq8 h (by omega))
theorem tIt_eq8 : ∀ (i : Nat) {r q : Nat → Int32}, eq8 r q → eq8 (tIt i r) (tIt i q)
  | 0, _, _, h => h
  | i + 1, r, q, h => tIt_eq8 i (tF_eq8 8 (by omega) h)
theorem TURN_eq8 {r q : Nat → Int32} (h : eq8 r q) : eq8 (TURN r) (TURN q) := tIt_eq8 6 h
theorem c_turn66 (N : Nat) (S : Hs) (a0 A : Nat) (hL : hpL S A = 8) : ∀ (i n : Nat) (g : Hg) (r : Nat → Int32), i ≤ 6 → i < n → rdR g a0 1 = some A → n_X6_turn_66 N S n g a0 (r 0) (r 1) (r 2) (r 3) (r 4) (r 5) (r 6) (r 7) (nI (6 - i)) = some ((), rowI g A (up8 (g.1 A) (tIt i r))) := by
  intro i
  induction i with
  | zero =>
    intro n g r h1 h2 hR
    obtain ⟨n, rfl⟩ : ∃ z, n = z + 1 := ⟨n - 1, by omega⟩
    show b_X6_turn_66 N S (n_X6_turn_66 N S n) g a0 (r 0) (r 1) (r 2) (r 3) (r 4) (r 5) (r 6) (r 7) (nI 6) = _
    unfold b_X6_turn_66
    rw [if_pos (by decide)]
    simp only [hR, nn_S, nm_D, hL, wrI_row, rdR_rowI, rowI_rowI, rowI_same]
    show _ = some ((), rowI g A (up8 (g.1 A) r))
    rw [← up8_eq]
    rfl
  | succ i ih =>
    intro n g r h1 h2 hR
    obtain ⟨n, rfl⟩ : ∃ z, n = z + 1 := ⟨n - 1, by omega⟩
    show b_X6_turn_66 N S (n_X6_turn_66 N S n) g a0 (r 0) (r 1) (r 2) (r 3) (r 4) (r 5) (r 6) (r 7) (nI (6 - (i + 1))) = _
    unfold b_X6_turn_66
    rw [if_neg (show ¬ ((6 : Int32) ≤ nI (6 - (i + 1))) from nI_ge (a := 6 - (i + 1)) (b := 6) (by omega) (by decide))]
    simp only [nm_D]
    have e1 : nI (6 - (i + 1)) + 1 = nI (6 - i) := by
      rw [nI_1]
      congr 1
      omega
    rw [e1]
    have key := ih n g (tF 8 r) (by omega) (by omega) hR
    have e0 : tF 8 r 0 = rot7 (r 0 + r 1) ^^^ r 3 := by simp [tF, tj, upd]
    have f1 : tF 8 r 1 = rot7 (r 1 + r 2) ^^^ r 4 := by simp [tF, tj, upd]
    have f2 : tF 8 r 2 = rot7 (r 2 + r 3) ^^^ r 5 := by simp [tF, tj, upd]
    have f3 : tF 8 r 3 = rot7 (r 3 + r 4) ^^^ r 6 := by simp [tF, tj, upd]
    have f4 : tF 8 r 4 = rot7 (r 4 + r 5) ^^^ r 7 := by simp [tF, tj, upd]
    have f5 : tF 8 r 5 = rot7 (r 5 + r 6) ^^^ (rot7 (r 0 + r 1) ^^^ r 3) := by simp [tF, tj, upd]
    have f6 : tF 8 r 6 = rot7 (r 6 + r 7) ^^^ (rot7 (r 1 + r 2) ^^^ r 4) := by simp [tF, tj, upd]
    have f7 : tF 8 r 7 = rot7 (r 7 + (rot7 (r 0 + r 1) ^^^ r 3)) ^^^ (rot7 (r 2 + r 3) ^^^ r 5) := by simp [tF, tj, upd]
    rw [e0, f1, f2, f3, f4, f5, f6, f7] at key
    exact key
theorem c_turn {N : Nat} (hN : 9 ≤ N) {S : Hs} {g : Hg} {a0 A : Nat} (hL : hpL S A = 8) (hR : rdR g a0 1 = some A) : f_X6_turn N S g a0 = some ((), rowI g A (TURN (g.1 A))) := by
  show b_X6_turn_0 N S g a0 = _
  unfold b_X6_turn_0
  simp only [hR, nn_S, nm_D, hL]
  have key := c_turn66 N S a0 A hL 6 N g (g.1 A) (by omega) (by omega) hR
  have e : up8 (g.1 A) (tIt 6 (g.1 A)) = TURN (g.1 A) := by
    funext j
    unfold up8 TURN
    by_cases h : j < 8
    · rw [if_pos h]
    · rw [if_neg h, tIt_hi 6 _ (by omega)]
  rw [e] at key
  exact key
def ini (r : Nat → Int32) : Nat → Int32 := fun j => if j < 8 then nI (j + 1) * 1640531527 else r j
def ab1 (w : Nat → Int32) (n k : Nat) (r : Nat → Int32) : Nat → Int32 := if k % 8 = 7 ∨ k + 1 = n then TURN (upd r (k % 8) (r (k % 8) ^^^ w k)) else upd r (k % 8) (r (k % 8) ^^^ w k)
def ab (w : Nat → Int32) (n : Nat) : Nat → (Nat → Int32) → Nat → Int32
  | 0, r => r
  | i + 1, r => ab w n i (ab1 w n (n - (i + 1)) r)
def MIXr (w : Nat → Int32) (n : Nat) (r : Nat → Int32) : Nat → Int32 := TURN (upd (ab w n n (ini r)) 0 (ab w n n (ini r) 0 ^^^ nI n))
def MIX (w : Nat → Int32) (n : Nat) : Nat → Int32 := MIXr w n (fun _ => 0)
theorem ab1_eq8 {w v : Nat → Int32} {n k : Nat} (hw : w k = v k) {r q : Nat → Int32} (h : eq8 r q) : eq8 (ab1 w n k r) (ab1 v n k q) := by
  have hm : k % 8 < 8 := Nat.mod_lt _ (by decide)
  have h1 : eq8 (upd r (k % 8) (r (k % 8) ^^^ w k)) (upd q (k % 8) (q (k % 8) ^^^ v k)) := upd_eq8 h _ (by rw [h _ hm, hw])
  unfold ab1
  by_cases hc : k % 8 = 7 ∨ k + 1 = n
  · rw [if_pos hc, if_pos hc]; exact TURN_eq8 h1
  · rw [if_neg hc, if_neg hc]; exact h1
theorem ab_eq8 {w v : Nat → Int32} {n : Nat} (hw : ∀ k, k < n → w k = v k) : ∀ (i : Nat) {r q : Nat → Int32}, i ≤ n → eq8 r q → eq8 (ab w n i r) (ab v n i q)
  | 0, _, _, _, h => h
  | i + 1, r, q, hi, h => ab_eq8 hw i (by omega) (ab1_eq8 (hw _ (by omega)) h)
theorem MIXr_eq {w v : Nat → Int32} {n : Nat} (hw : ∀ k, k < n → w k = v k) (r : Nat → Int32) : eq8 (MIXr w n r) (MIX v n) := by
  have h0 : eq8 (ini r) (ini (fun _ => 0)) := fun j hj => by simp [ini, hj]
  have h1 := ab_eq8 hw n (Nat.le_refl n) h0
  exact TURN_eq8 (upd_eq8 h1 0 (by rw [h1 0 (by decide)]))
theorem MIX_congr {w v : Nat → Int32} {n : Nat} (hw : ∀ k, k < n → w k = v k) : eq8 (MIX w n) (MIX v n) := MIXr_eq hw _
