/-! the same, of the reference -/
def MmOk (S : Hs) (g : Hg) (m W A : Nat) : Prop := rdR g m 43 = some W ∧ rdR g m 44 = some A ∧ hpL S W = 24 ∧ hpL S A = 8 ∧ W ≠ A
theorem m_toRow2 (N : Nat) (S : Hs) (m A row at_ : Nat) (hL : hpL S A = 8) (hrA : row ≠ A) (hat : at_ + 8 ≤ hpL S row) (hlen : hpL S row < 2 ^ 31) : ∀ (i n : Nat) (g : Hg), i ≤ 8 → i < n → rdR g m 44 = some A → (∀ j, j < 8 - i → g.1 row (at_ + j) = g.1 A j) → n_X12_toRow_2 N S n g m row (nI at_) (nI (8 - i)) = some ((), rowI g row (putA (g.1 row) at_ (g.1 A))) := by
  intro i
  induction i with
  | zero =>
    intro n g h1 h2 hR hP
    obtain ⟨n, rfl⟩ : ∃ z, n = z + 1 := ⟨n - 1, by omega⟩
    show b_X12_toRow_2 N S (n_X12_toRow_2 N S n) g m row (nI at_) (nI 8) = _
    unfold b_X12_toRow_2
    rw [if_pos (by decide)]
    have : putA (g.1 row) at_ (g.1 A) = g.1 row := by
      funext j
      unfold putA
      by_cases hc : at_ ≤ j ∧ j < at_ + 8
      · rw [if_pos hc]
        have := hP (j - at_) (by omega)
        rw [show at_ + (j - at_) = j by omega] at this
        exact this.symm
      · rw [if_neg hc]
    rw [this, rowI_self]
  | succ i ih =>
    intro n g h1 h2 hR hP
    obtain ⟨n, rfl⟩ : ∃ z, n = z + 1 := ⟨n - 1, by omega⟩
    show b_X12_toRow_2 N S (n_X12_toRow_2 N S n) g m row (nI at_) (nI (8 - (i + 1))) = _
    have e7 : 8 - (i + 1) = 7 - i := by omega
    rw [e7] at hP ⊢
    have hj : 7 - i < 8 := by omega
    have e8 : 7 - i + 1 = 8 - i := by omega
    unfold b_X12_toRow_2
    rw [if_neg (show ¬ ((8 : Int32) ≤ nI (7 - i)) from nI_ge (a := 7 - i) (b := 8) hj (by decide))]
    simp only [hR, nn_S, nm_D, hL, inb_nI hj (show 8 < 2 ^ 31 by decide), nI_add, inb_nI (show at_ + (7 - i) < hpL S row by omega) hlen, ck_T, wrI_row, nI_clamp (show 7 - i < 2 ^ 31 by omega), nI_clamp (show at_ + (7 - i) < 2 ^ 31 by omega), nI_1, rdI_def]
    rw [e8]
    have key := ih n (rowI g row (upd (g.1 row) (at_ + (7 - i)) (g.1 A (7 - i)))) (by omega) (by omega) hR (fun j hj2 => by
      rw [rowI_same, rowI_ne g _ (Ne.symm hrA)]
      by_cases hjj : j = 7 - i
      · subst hjj; simp [upd]
      · rw [show upd (g.1 row) (at_ + (7 - i)) (g.1 A (7 - i)) (at_ + j) = g.1 row (at_ + j) by simp [upd]; omega]
        exact hP j (by omega))
    rw [key, rowI_rowI, rowI_same, rowI_ne g _ (Ne.symm hrA)]
    congr 3
    funext j
    unfold putA
    by_cases hc : at_ ≤ j ∧ j < at_ + 8
    · rw [if_pos hc, if_pos hc]
    · rw [if_neg hc, if_neg hc]
      simp [upd]
      intro e
      omega
theorem m_toRow {N : Nat} (hN : 30 ≤ N) {S : Hs} {g : Hg} {m A row at_ : Nat} {x2 : Int32} (hL : hpL S A = 8) (hR : rdR g m 44 = some A) (hrA : row ≠ A) (hat : at_ + 8 ≤ hpL S row) (hlen : hpL S row < 2 ^ 31) (e2 : x2 = nI at_) : f_X12_toRow N S g m row x2 = some ((), rowI g row (putA (g.1 row) at_ (g.1 A))) := by
  subst e2
  exact m_toRow2 N S m A row at_ hL hrA hat hlen 8 N g (by omega) (by omega) hR (fun j hj => absurd hj (by omega))
/-- the reference: MIX behind words that were written; mixed holds it -/
theorem m_mixW {N : Nat} (hN : 30 ≤ N) {S : Hs} {g : Hg} {m A W cnt : Nat} {x1 : Int32} (hM : MmOk S g m W A) (hc : cnt ≤ 24) (e1 : x1 = nI cnt) (r : Nat → Int32) {w : Nat → Int32} (hw : ∀ k, k < cnt → r k = w k) :
    ∃ q, f_X12_mix N S (rowI g W r) m x1 = some ((), rowI (rowI g W r) A q) ∧ eq8 q (MIX w cnt) := by
  subst e1
  refine ⟨_, m_mix hN hM.2.2.2.1 hM.2.2.1 hc hM.2.2.2.2 hM.2.1 hM.1, ?_⟩
  rw [rowI_same]
  exact fun j hj => (MIXr_eq (fun k hk => hw k hk) _) j hj
theorem m_mixRow {N : Nat} (hN : 30 ≤ N) {S : Hs} {g : Hg} {m A W row at_ : Nat} {x2 : Int32} (hM : MmOk S g m W A) (hT : TgOk S W A row at_) (e2 : x2 = nI at_) (r q : Nat → Int32) {v : Nat → Int32} (hq : eq8 q v) :
    ∃ g1, f_X12_toRow N S (rowI (rowI g W r) A q) m row x2 = some ((), g1) ∧ Ch3 W A row g g1 ∧ g1.1 row = putA (g.1 row) at_ v := by
  refine ⟨_, m_toRow hN hM.2.2.2.1 hM.2.1 hT.1 hT.2.2.1 hT.2.2.2 e2, Ch3.of g W A row r q _, ?_⟩
  rw [rowI_same, rowI_same, rowI_ne _ _ hT.1, rowI_ne _ _ hT.2.1]
  exact putA_congr hq
theorem m_entrySum {N : Nat} (hN : 30 ≤ N) {S : Hs} {g : Hg} {m A W row at_ : Nat} {x5 : Int32} (hM : MmOk S g m W A) (hT : TgOk S W A row at_) (e5 : x5 = nI at_) (key : Int32) (v : Int64) :
    ∃ g1, f_X12_entrySum N S g m key v row x5 = some ((), g1) ∧ Ch3 W A row g g1 ∧ g1.1 row = putA (g.1 row) at_ (ENT key v) := by
  obtain ⟨q, h1, h2⟩ := m_mixW hN hM (cnt := 4) (by decide) (x1 := 4) rfl (upd (upd (upd (upd (g.1 W) 0 1) 1 key) 2 (hi32 v)) 3 v.toInt32) (w := w4 1 key (hi32 v) v.toInt32) (fun k hk => by
    have : k = 0 ∨ k = 1 ∨ k = 2 ∨ k = 3 := by omega
    rcases this with rfl | rfl | rfl | rfl <;> simp [upd, w4])
  obtain ⟨g1, k1, k2, k3⟩ := m_mixRow hN hM hT e5 (upd (upd (upd (upd (g.1 W) 0 1) 1 key) 2 (hi32 v)) 3 v.toInt32) q h2
  refine ⟨g1, ?_, k2, k3⟩
  show b_X12_entrySum_0 N S g m key v row x5 = _
  unfold b_X12_entrySum_0
  simp only [hM.1, nn_S, nm_D, hM.2.2.1, wrI_row, rdR_rowI, rowI_rowI, rowI_same, show inb (0 : Int32) 24 = true by decide, show inb (1 : Int32) 24 = true by decide, show inb (2 : Int32) 24 = true by decide, show inb (3 : Int32) 24 = true by decide, ck_T]
  show c2 (f_X12_mix N S (rowI g W (upd (upd (upd (upd (g.1 W) 0 1) 1 key) 2 (hi32 v)) 3 v.toInt32)) m 4) _ = _
  rw [h1, c2_S, k1]
  rfl
def Ch2 (a b : Nat) (g g1 : Hg) : Prop := Ch (fun x => x = a ∨ x = b) g g1
theorem Ch2.of (g : Hg) (W A : Nat) (r1 r2 : Nat → Int32) : Ch2 W A g (rowI (rowI g W r1) A r2) := ⟨rfl, fun b hb => by
  have h1 : b ≠ W := fun e => hb (Or.inl e)
  have h2 : b ≠ A := fun e => hb (Or.inr e)
  rw [rowI_ne _ _ h2, rowI_ne _ _ h1]⟩
theorem m_wayOf {N : Nat} (hN : 30 ≤ N) {S : Hs} {g : Hg} {m A W : Nat} (hM : MmOk S g m W A) (key : Int32) : ∃ g1, f_X12_wayOf N S g m key = some ((), g1) ∧ Ch2 W A g g1 ∧ eq8 (g1.1 A) (WAY key) := by
  obtain ⟨q, h1, h2⟩ := m_mixW hN hM (cnt := 2) (by decide) (x1 := 2) rfl (upd (upd (g.1 W) 0 4) 1 key) (w := w4 4 key 0 0) (fun k hk => by
    have : k = 0 ∨ k = 1 := by omega
    rcases this with rfl | rfl <;> simp [upd, w4])
  refine ⟨_, ?_, Ch2.of g W A (upd (upd (g.1 W) 0 4) 1 key) q, by rw [rowI_same]; exact h2⟩
  show b_X12_wayOf_0 N S g m key = _
  unfold b_X12_wayOf_0
  simp only [hM.1, nn_S, nm_D, hM.2.2.1, wrI_row, rdR_rowI, rowI_rowI, rowI_same, show inb (0 : Int32) 24 = true by decide, show inb (1 : Int32) 24 = true by decide, ck_T]
  show c2 (f_X12_mix N S (rowI g W (upd (upd (g.1 W) 0 4) 1 key)) m 2) _ = _
  rw [h1]
  rfl
theorem m_leaf {N : Nat} (hN : 30 ≤ N) {S : Hs} {g : Hg} {m A W : Nat} (hM : MmOk S g m W A) (key lat : Int32) : ∃ g1, f_X12_leaf N S g m key lat = some ((), g1) ∧ Ch2 W A g g1 ∧ eq8 (g1.1 A) (LEAF key lat) := by
  obtain ⟨q, h1, h2⟩ := m_mixW hN hM (cnt := 3) (by decide) (x1 := 3) rfl (upd (upd (upd (g.1 W) 0 5) 1 key) 2 lat) (w := w4 5 key lat 0) (fun k hk => by
    have : k = 0 ∨ k = 1 ∨ k = 2 := by omega
    rcases this with rfl | rfl | rfl <;> simp [upd, w4])
  refine ⟨_, ?_, Ch2.of g W A (upd (upd (upd (g.1 W) 0 5) 1 key) 2 lat) q, by rw [rowI_same]; exact h2⟩
  show b_X12_leaf_0 N S g m key lat = _
  unfold b_X12_leaf_0
  simp only [hM.1, nn_S, nm_D, hM.2.2.1, wrI_row, rdR_rowI, rowI_rowI, rowI_same, show inb (0 : Int32) 24 = true by decide, show inb (1 : Int32) 24 = true by decide, show inb (2 : Int32) 24 = true by decide, ck_T]
  show c2 (f_X12_mix N S (rowI g W (upd (upd (upd (g.1 W) 0 5) 1 key) 2 lat)) m 3) _ = _
  rw [h1]
  rfl
/-- what the join's loop has written into words behind j of its rounds -/
def jwr (r u v : Nat → Int32) (j : Nat) : Nat → Int32 := fun k => if 1 ≤ k ∧ k < 1 + j then u (k - 1) else if 9 ≤ k ∧ k < 9 + j then v (k - 9) else r k
theorem jwr_s (r u v : Nat → Int32) {j : Nat} (hj : j < 8) : upd (upd (jwr r u v j) (1 + j) (u j)) (9 + j) (v j) = jwr r u v (j + 1) := by
  funext k
  simp only [upd, jwr]
  by_cases h1 : k = 9 + j
  · subst h1
    rw [if_pos rfl, if_neg (by omega), if_pos (by omega), Nat.add_sub_cancel_left]
  · rw [if_neg h1]
    by_cases h2 : k = 1 + j
    · subst h2
      rw [if_pos rfl, if_pos (by omega), Nat.add_sub_cancel_left]
    · rw [if_neg h2]
      by_cases h3 : 1 ≤ k ∧ k < 1 + j
      · rw [if_pos h3, if_pos (by omega)]
      · rw [if_neg h3, if_neg (show ¬ (1 ≤ k ∧ k < 1 + (j + 1)) by omega)]
        by_cases h4 : 9 ≤ k ∧ k < 9 + j
        · rw [if_pos h4, if_pos (by omega)]
        · rw [if_neg h4, if_neg (by omega)]
theorem m_join10 (N : Nat) (S : Hs) (m W a p b q_ : Nat) (hLW : hpL S W = 24) (ha : a ≠ W) (hb : b ≠ W) (la : p + 8 ≤ hpL S a) (la2 : hpL S a < 2 ^ 31) (lb : q_ + 8 ≤ hpL S b) (lb2 : hpL S b < 2 ^ 31) (row : Nat) (x6 : Int32) (r : Nat → Int32) : ∀ (i n : Nat) (g : Hg), i ≤ 8 → i < n → rdR g m 43 = some W → n_X12_join_10 N S n (rowI g W (jwr r (seg (g.1 a) p) (seg (g.1 b) q_) (8 - i))) m a (nI p) b (nI q_) row x6 (nI (8 - i)) = c2 (f_X12_mix N S (rowI g W (jwr r (seg (g.1 a) p) (seg (g.1 b) q_) 8)) m 17) (fun u_3 g_2 => c2 (f_X12_toRow N S g_2 m row x6) (fun u_5 g_4 => some ((), g_4))) := by
  intro i
  induction i with
  | zero =>
    intro n g h1 h2 hR
    obtain ⟨n, rfl⟩ : ∃ z, n = z + 1 := ⟨n - 1, by omega⟩
    show b_X12_join_10 N S (n_X12_join_10 N S n) _ m a (nI p) b (nI q_) row x6 (nI 8) = _
    unfold b_X12_join_10
    rw [if_pos (by decide)]
  | succ i ih =>
    intro n g h1 h2 hR
    obtain ⟨n, rfl⟩ : ∃ z, n = z + 1 := ⟨n - 1, by omega⟩
    show b_X12_join_10 N S (n_X12_join_10 N S n) _ m a (nI p) b (nI q_) row x6 (nI (8 - (i + 1))) = _
    have e7 : 8 - (i + 1) = 7 - i := by omega
    rw [e7]
    have e8 : 7 - i + 1 = 8 - i := by omega
    generalize hjj : 7 - i = j at e8 ⊢
    have hj : j < 8 := by omega
    unfold b_X12_join_10
    rw [if_neg (show ¬ ((8 : Int32) ≤ nI j) from nI_ge (a := j) (b := 8) hj (by decide))]
    simp only [lit, hR, rdR_rowI, nn_S, nm_D, hLW, nI_add, inb_nI (show p + j < hpL S a by omega) la2, inb_nI (show q_ + j < hpL S b by omega) lb2, inb_nI (show 1 + j < 24 by omega) (show 24 < 2 ^ 31 by decide), inb_nI (show 9 + j < 24 by omega) (show 24 < 2 ^ 31 by decide), ck_T, wrI_row, nI_clamp (show p + j < 2 ^ 31 by omega), nI_clamp (show q_ + j < 2 ^ 31 by omega), nI_clamp (show 1 + j < 2 ^ 31 by omega), nI_clamp (show 9 + j < 2 ^ 31 by omega), rdI_def, rowI_same, rowI_rowI, rowI_ne g _ ha, rowI_ne g _ hb]
    have := jwr_s r (seg (g.1 a) p) (seg (g.1 b) q_) hj
    simp only [seg] at this
    rw [this, e8]
    exact ih n g (by omega) (by omega) hR
theorem m_join {N : Nat} (hN : 30 ≤ N) {S : Hs} {g : Hg} {m A W row at_ a p b q_ : Nat} {x2 x4 x6 : Int32} (hM : MmOk S g m W A) (hT : TgOk S W A row at_) (ha : a ≠ W) (hb : b ≠ W) (la : p + 8 ≤ hpL S a) (la2 : hpL S a < 2 ^ 31) (lb : q_ + 8 ≤ hpL S b) (lb2 : hpL S b < 2 ^ 31) (e2 : x2 = nI p) (e4 : x4 = nI q_) (e6 : x6 = nI at_) :
    ∃ g1, f_X12_join N S g m a x2 b x4 row x6 = some ((), g1) ∧ Ch3 W A row g g1 ∧ g1.1 row = putA (g.1 row) at_ (JOIN (seg (g.1 a) p) (seg (g.1 b) q_)) := by
  subst e2; subst e4
  obtain ⟨z, h1, h2⟩ := m_mixW hN hM (cnt := 17) (by decide) (x1 := 17) rfl (jwr (upd (g.1 W) 0 2) (seg (g.1 a) p) (seg (g.1 b) q_) 8) (w := jw (seg (g.1 a) p) (seg (g.1 b) q_)) (fun k hk => by
    unfold jwr jw
    by_cases h0 : k = 0
    · subst h0; simp [upd]
    · by_cases h9 : k < 9
      · rw [if_pos (by omega), if_neg h0, if_pos h9]
      · rw [if_neg (by omega), if_pos (by omega), if_neg h0, if_neg h9])
  obtain ⟨g1, k1, k2, k3⟩ := m_mixRow hN hM hT e6 (jwr (upd (g.1 W) 0 2) (seg (g.1 a) p) (seg (g.1 b) q_) 8) z h2
  refine ⟨g1, ?_, k2, k3⟩
  show b_X12_join_0 N S g m a (nI p) b (nI q_) row x6 = _
  unfold b_X12_join_0
  simp only [hM.1, nn_S, nm_D, hM.2.2.1, wrI_row, show inb (0 : Int32) 24 = true by decide, ck_T]
  have e0 : jwr (upd (g.1 W) 0 2) (seg (g.1 a) p) (seg (g.1 b) q_) (8 - 8) = upd (g.1 W) 0 2 := by
    funext k
    unfold jwr
    rw [if_neg (by omega), if_neg (by omega)]
  have key := m_join10 N S m W a p b q_ hM.2.2.1 ha hb la la2 lb lb2 row x6 (upd (g.1 W) 0 2) 8 N g (by omega) (by omega) hM.1
  rw [e0] at key
  refine Eq.trans key ?_
  rw [h1, c2_S, k1]
  rfl
