theorem hc_step {c k k1 a T : Nat} (hc : c + k = T) (ek : k = a + k1) : c + a + k1 = T := by omega
theorem hb_step {c k k1 a T X : Nat} (hc : c + k = T) (ek : k = a + k1) (h : T ≤ X) : c + a ≤ X := by omega
theorem hz_step {c k T X : Nat} (hc : c + k = T) (h : T ≤ X) : c + 0 ≤ X := by omega
