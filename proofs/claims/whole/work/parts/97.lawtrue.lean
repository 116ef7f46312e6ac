theorem law_true (lo L : Nat) (xs : Nat → Int32) (hL : L ≤ 3072) : ∃ (N : Nat) (S1 : Hs) (g1 : Hg) (k w : Nat), b_L_law_0 N L xs (lw_S0 lo) lw_g0 = some ((1 : Int32), S1, g1, k, w) ∧ k ≤ 210260 ∧ w ≤ 8471470 := by
  sorry
