/-! unlike KEYS have unlike WAYS: TURN can be undone -/
theorem rot7_bv (x : Int32) : (rot7 x).toBitVec = (x.toBitVec <<< 7) ||| (x.toBitVec >>> 25) := by
  unfold rot7
  rfl
theorem rot7_bit (x : Int32) {i : Nat} (hi : i < 32) : (rot7 x).toBitVec.getLsbD i = if i < 7 then x.toBitVec.getLsbD (25 + i) else x.toBitVec.getLsbD (i - 7) := by
  rw [rot7_bv, BitVec.getLsbD_or, BitVec.getLsbD_shiftLeft, BitVec.getLsbD_ushiftRight]
  by_cases h7 : i < 7
  · simp [h7]
  · rw [if_neg h7, BitVec.getLsbD_of_ge x.toBitVec (25 + i) (by omega)]
    simp [h7, hi]
theorem rot7_inj {x y : Int32} (h : rot7 x = rot7 y) : x = y := by
  apply Int32.toBitVec_inj.mp
  apply BitVec.eq_of_getLsbD_eq
  intro i hi
  by_cases h25 : 25 ≤ i
  · have e1 := rot7_bit x (i := i - 25) (by omega)
    have e2 := rot7_bit y (i := i - 25) (by omega)
    rw [if_pos (by omega), show 25 + (i - 25) = i by omega] at e1 e2
    rw [← e1, ← e2, h]
  · have e1 := rot7_bit x (i := i + 7) (by omega)
    have e2 := rot7_bit y (i := i + 7) (by omega)
    rw [if_neg (by omega), Nat.add_sub_cancel] at e1 e2
    rw [← e1, ← e2, h]
theorem xor_inj {a b c : Int32} (h : a ^^^ c = b ^^^ c) : a = b := by
  have := congrArg (fun z => z ^^^ c) h
  simpa [Int32.xor_assoc] using this
theorem xor_inj_l {a b c : Int32} (h : c ^^^ a = c ^^^ b) : a = b := xor_inj (c := c) (by rw [Int32.xor_comm a c, Int32.xor_comm b c]; exact h)
theorem add_inj {a b c : Int32} (h : a + c = b + c) : a = b := by
  have := congrArg (fun z => z - c) h
  simpa using this
theorem upd_inj8 {r q : Nat → Int32} {k : Nat} {x y : Int32} (h : eq8 (upd r k x) (upd q k y)) {j : Nat} (hj : j < 8) (hjk : j ≠ k) : r j = q j := by
  have := h j hj
  simpa [upd, hjk] using this
theorem tj_inj {r q : Nat → Int32} {i : Nat} (hi : i < 8) (h : eq8 (tj r i) (tj q i)) : eq8 r q := by
  have h1 : (i + 1) % 8 < 8 := Nat.mod_lt _ (by decide)
  have h3 : (i + 3) % 8 < 8 := Nat.mod_lt _ (by decide)
  have n1 : (i + 1) % 8 ≠ i := by omega
  have n3 : (i + 3) % 8 ≠ i := by omega
  have e1 := upd_inj8 h h1 n1
  have e3 := upd_inj8 h h3 n3
  have ei : rot7 (r i + r ((i + 1) % 8)) ^^^ r ((i + 3) % 8) = rot7 (q i + q ((i + 1) % 8)) ^^^ q ((i + 3) % 8) := by
    have := h i hi
    simpa [tj, upd] using this
  intro j hj
  by_cases hji : j = i
  · subst hji
    rw [e1, e3] at ei
    exact add_inj (rot7_inj (xor_inj ei))
  · exact upd_inj8 h hj hji
theorem tF_inj : ∀ (i : Nat) {r q : Nat → Int32}, i ≤ 8 → eq8 (tF i r) (tF i q) → eq8 r q
  | 0, _, _, _, h => h
  | i + 1, r, q, hi, h => tj_inj (by omega) (tF_inj i (by omega) h)
theorem tIt_inj : ∀ (i : Nat) {r q : Nat → Int32}, eq8 (tIt i r) (tIt i q) → eq8 r q
  | 0, _, _, h => h
  | i + 1, r, q, h => tF_inj 8 (by omega) (tIt_inj i h)
theorem TURN_inj {r q : Nat → Int32} (h : eq8 (TURN r) (TURN q)) : eq8 r q := tIt_inj 6 h
theorem WAY_inj {k k1 : Int32} (h : eq8 (WAY k) (WAY k1)) : k = k1 := by
  have h1 := TURN_inj h
  -- before the last TURN: a0 xor 2
  have h2 : eq8 (ab (w4 4 k 0 0) 2 2 (ini fun _ => 0)) (ab (w4 4 k1 0 0) 2 2 (ini fun _ => 0)) := by
    intro j hj
    by_cases h0 : j = 0
    · subst h0
      have := h1 0 (by decide)
      simp only [upd, if_true] at this
      exact xor_inj this
    · exact upd_inj8 h1 hj h0
  have e : ∀ z : Int32, ab (w4 4 z 0 0) 2 2 (ini fun _ => 0) = TURN (upd (upd (ini fun _ => 0) 0 ((ini fun _ => 0) 0 ^^^ 4)) 1 ((ini fun _ => 0) 1 ^^^ z)) := by
    intro z
    show ab1 (w4 4 z 0 0) 2 1 (ab1 (w4 4 z 0 0) 2 0 (ini fun _ => 0)) = _
    have a0 : ab1 (w4 4 z 0 0) 2 0 (ini fun _ => 0) = upd (ini fun _ => 0) 0 ((ini fun _ => 0) 0 ^^^ 4) := by
      unfold ab1
      rw [if_neg (by decide)]
      rfl
    rw [a0]
    unfold ab1
    rw [if_pos (by decide)]
    rfl
  rw [e, e] at h2
  have h3 := TURN_inj h2
  have := h3 1 (by decide)
  simp only [upd, if_true] at this
  exact xor_inj_l this
/-- bit d of a KEY's WAY, the highest of a0 first -/
def wbit (w : Nat → Int32) (d : Nat) : Nat := (w (d / 32)).toBitVec.toNat / 2 ^ (31 - d % 32) % 2
theorem wbit_congr {u v : Nat → Int32} (h : eq8 u v) {d : Nat} (hd : d < 256) : wbit u d = wbit v d := by
  unfold wbit
  rw [h (d / 32) (by omega)]
theorem wbit_lt (u : Nat → Int32) (d : Nat) : wbit u d < 2 := Nat.mod_lt _ (by decide)
theorem bits_eq {x y : Nat} : ∀ (n : Nat), x < 2 ^ n → y < 2 ^ n → (∀ i, i < n → x / 2 ^ i % 2 = y / 2 ^ i % 2) → x = y
  | 0, hx, hy, _ => by
    have : x = 0 := by simpa using hx
    have : y = 0 := by simpa using hy
    omega
  | n + 1, hx, hy, h => by
    have h0 := h 0 (by omega)
    rw [Nat.pow_zero, Nat.div_one, Nat.div_one] at h0
    have hp : 2 ^ (n + 1) = 2 * 2 ^ n := by rw [Nat.pow_succ]; omega
    have key := bits_eq (x := x / 2) (y := y / 2) n (by omega) (by omega) (fun i hi => by
      have := h (i + 1) (by omega)
      rw [Nat.pow_succ, Nat.mul_comm, ← Nat.div_div_eq_div_mul, ← Nat.div_div_eq_div_mul] at this
      exact this)
    omega
theorem way_bits {u v : Nat → Int32} (h : ∀ d, d < 256 → wbit u d = wbit v d) : eq8 u v := by
  intro j hj
  apply Int32.toBitVec_inj.mp
  apply BitVec.eq_of_toNat_eq
  refine bits_eq 32 (u j).toBitVec.isLt (v j).toBitVec.isLt (fun i hi => ?_)
  have := h (32 * j + (31 - i)) (by omega)
  unfold wbit at this
  rw [show (32 * j + (31 - i)) / 32 = j by omega, show 31 - (32 * j + (31 - i)) % 32 = i by omega] at this
  exact this
/-- KEYS that are alike in all bits are one -/
theorem key_bits {k k1 : Int32} (h : ∀ d, d < 256 → wbit (WAY k) d = wbit (WAY k1) d) : k = k1 := WAY_inj (way_bits h)
theorem sh_lem : ∀ t, t < 32 → (((nI (31 - t)).toUInt32 &&& Int32.toUInt32 31).toBitVec % 32).toNat = 31 - t := by decide
theorem bit_code (x : Int32) {t : Nat} (ht : t < 32) : (x.toUInt32 >>> ((nI (31 - t)).toUInt32 &&& Int32.toUInt32 31)).toInt32 &&& (1 : Int32) = nI (x.toBitVec.toNat / 2 ^ (31 - t) % 2) := by
  have h1 := pk_ushr x (nI (31 - t)) (31 - t) (sh_lem t ht)
  have h2 := pk_and ((x.toUInt32 >>> ((nI (31 - t)).toUInt32 &&& Int32.toUInt32 31)).toInt32) (m := 1) 1 (by decide)
  rw [h2, h1]
