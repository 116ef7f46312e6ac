/-! the stack is the binary form of the position: its height is at most nine -/
def sumP (ex : Nat → Nat) : Nat → Nat
  | 0 => 0
  | i + 1 => sumP ex i + 2 ^ ex i
theorem sumP_congr {ex ey : Nat → Nat} : ∀ (i : Nat), (∀ k, k < i → ex k = ey k) → sumP ex i = sumP ey i
  | 0, _ => rfl
  | i + 1, h => by
    show sumP ex i + 2 ^ ex i = sumP ey i + 2 ^ ey i
    rw [sumP_congr i (fun k hk => h k (by omega)), h i (by omega)]
theorem sumP_dvd {ex : Nat → Nat} {e : Nat} : ∀ (i : Nat), (∀ k, k < i → e ≤ ex k) → 2 ^ e ∣ sumP ex i
  | 0, _ => ⟨0, by simp [sumP]⟩
  | i + 1, h => Nat.dvd_add (sumP_dvd i (fun k hk => h k (by omega))) (Nat.pow_dvd_pow 2 (h i (by omega)))
def dec (h : Nat) (ex : Nat → Nat) : Prop := ∀ i, i + 1 < h → ex (i + 1) < ex i
theorem dec_lt {h : Nat} {ex : Nat → Nat} (hd : dec h ex) : ∀ (k i : Nat), i + 1 + k < h → ex (i + 1 + k) < ex i
  | 0, i, hi => hd i hi
  | k + 1, i, hi => by
    have h1 := dec_lt hd k i (by omega)
    have h2 := hd (i + 1 + k) (by omega)
    rw [show i + 1 + (k + 1) = i + 1 + k + 1 by omega]
    omega
def BinT (p h : Nat) (st ex : Nat → Nat) : Prop := dec h ex ∧ (∀ i, i < h → st i = sumP ex i) ∧ sumP ex h = p
theorem fix_bin (st : Nat → Nat) : ∀ (h : Nat) (ex : Nat → Nat) (sm : Nat → Nat → Int32), (∀ i, i + 1 < h → ex (i + 1) < ex i) → (∀ k, h = k + 1 → ex h ≤ ex k) → (∀ i, i ≤ h → st i = sumP ex i) →
    dec (fixT (h + 1) st ex sm).1 (fixT (h + 1) st ex sm).2.1 ∧ (∀ i, i < (fixT (h + 1) st ex sm).1 → st i = sumP (fixT (h + 1) st ex sm).2.1 i) ∧ sumP (fixT (h + 1) st ex sm).2.1 (fixT (h + 1) st ex sm).1 = sumP ex (h + 1) ∧ 1 ≤ (fixT (h + 1) st ex sm).1 ∧ (fixT (h + 1) st ex sm).1 ≤ h + 1
  | 0, ex, sm, h1, h2, h3 => ⟨fun i hi => absurd hi (by show ¬ i + 1 < 1; omega), fun i hi => h3 i (by have : i < 1 := hi; omega), rfl, Nat.le_refl 1, Nat.le_refl 1⟩
  | k + 1, ex, sm, h1, h2, h3 => by
    have hle := h2 k rfl
    by_cases he : ex (k + 1) = ex k
    · have hdv : st k % 2 ^ (ex k + 1) = 0 := by
        rw [h3 k (by omega)]
        refine Nat.mod_eq_zero_of_dvd (sumP_dvd k (fun i hi => ?_))
        have := dec_lt (h := k + 1) (ex := ex) h1 (k - (i + 1)) i (by omega)
        rw [show i + 1 + (k - (i + 1)) = k by omega] at this
        exact this
      have hfix : fixT (k + 1 + 1) st ex sm = fixT (k + 1) st (va_up ex k (ex k + 1)) (va_up sm k (JOIN (sm k) (sm (k + 1)))) := by
        show (if ex (k + 1) = ex k ∧ st k % 2 ^ (ex k + 1) = 0 then _ else _) = _
        rw [if_pos ⟨he, hdv⟩]
      have hs : ∀ i, i ≤ k → sumP (va_up ex k (ex k + 1)) i = sumP ex i := fun i hi => sumP_congr i (fun j hj => by simp [va_up, show j ≠ k by omega])
      obtain ⟨r1, r2, r3, r4, r5⟩ := fix_bin st k (va_up ex k (ex k + 1)) (va_up sm k (JOIN (sm k) (sm (k + 1)))) (fun i hi => by
          have := h1 i (by omega)
          simp [va_up, show i + 1 ≠ k by omega, show i ≠ k by omega]
          exact this) (fun j hj => by
          have := h1 j (by omega)
          rw [← hj] at this
          simp [va_up, show j ≠ k by omega]
          omega) (fun i hi => by rw [hs i hi]; exact h3 i (by omega))
      rw [hfix]
      refine ⟨r1, r2, ?_, r4, by omega⟩
      rw [r3]
      show sumP (va_up ex k (ex k + 1)) k + 2 ^ (va_up ex k (ex k + 1)) k = sumP ex k + 2 ^ ex k + 2 ^ ex (k + 1)
      rw [hs k (Nat.le_refl k), he]
      simp only [va_up, if_true]
      rw [Nat.pow_succ]
      omega
    · have hfix : fixT (k + 1 + 1) st ex sm = (k + 1 + 1, ex, sm) := by
        show (if ex (k + 1) = ex k ∧ st k % 2 ^ (ex k + 1) = 0 then _ else _) = _
        rw [if_neg (fun h => he h.1)]
      rw [hfix]
      refine ⟨fun i hi => ?_, fun i hi => h3 i (by have : i < k + 1 + 1 := hi; omega), rfl, by show 1 ≤ k + 1 + 1; omega, Nat.le_refl _⟩
      have hi : i + 1 < k + 1 + 1 := hi
      by_cases hik : i = k
      · subst hik
        show ex (i + 1) < ex i
        omega
      · exact h1 i (by omega)
theorem put_bin {p h : Nat} {st ex : Nat → Nat} {sm : Nat → Nat → Int32} (hB : BinT p h st ex) {e : Nat} (hd : 2 ^ e ∣ p) (v : Nat → Int32) : BinT (p + 2 ^ e) (putT h st ex sm p e v).1 (va_up st h p) (putT h st ex sm p e v).2.1 := by
  obtain ⟨h1, h2, h3⟩ := hB
  have hs : ∀ i, i ≤ h → sumP (va_up ex h e) i = sumP ex i := fun i hi => sumP_congr i (fun j hj => by simp [va_up, show j ≠ h by omega])
  obtain ⟨r1, r2, r3, r4, r5⟩ := fix_bin (va_up st h p) h (va_up ex h e) (va_up sm h v) (fun i hi => by
      have := h1 i hi
      simp [va_up, show i + 1 ≠ h by omega, show i ≠ h by omega]
      exact this) (fun k hk => by
      subst hk
      simp [va_up]
      rcases Nat.lt_or_ge (ex k) e with hlt | hge
      · exfalso
        have d1 : 2 ^ (ex k + 1) ∣ p := Nat.dvd_trans (Nat.pow_dvd_pow 2 hlt) hd
        have d2 : 2 ^ (ex k + 1) ∣ sumP ex k := sumP_dvd k (fun i hi => by
          have := dec_lt h1 (k - (i + 1)) i (by omega)
          rw [show i + 1 + (k - (i + 1)) = k by omega] at this
          exact this)
        have e3 : sumP ex k + 2 ^ ex k = p := h3
        rw [← e3] at d1
        have d3 : 2 ^ (ex k + 1) ∣ 2 ^ ex k := (Nat.dvd_add_right d2).mp d1
        have := Nat.le_of_dvd (Nat.two_pow_pos _) d3
        rw [Nat.pow_succ] at this
        have hp := Nat.two_pow_pos (ex k)
        omega
      · exact hge) (fun i hi => by
      rw [hs i hi]
      by_cases hih : i = h
      · subst hih; simp [va_up]; exact h3.symm
      · simp [va_up, hih]; exact h2 i (by omega))
  refine ⟨r1, r2, ?_⟩
  show sumP (fixT (h + 1) (va_up st h p) (va_up ex h e) (va_up sm h v)).2.1 (fixT (h + 1) (va_up st h p) (va_up ex h e) (va_up sm h v)).1 = _
  rw [r3]
  show sumP (va_up ex h e) h + 2 ^ (va_up ex h e) h = _
  rw [hs h (Nat.le_refl h), h3]
  simp [va_up]
theorem bin_0 {st ex : Nat → Nat} : BinT 0 0 st ex := ⟨fun i hi => absurd hi (by omega), fun i hi => absurd hi (by omega), rfl⟩
theorem bin_ex {p h : Nat} {st ex : Nat → Nat} (hB : BinT p h st ex) (hp : p < 512) : ∀ i, i < h → ex i + i ≤ 8 := by
  have h0 : ∀ i, i < h → 2 ^ ex i ≤ p := by
    intro i hi
    rw [← hB.2.2]
    have : ∀ n, i < n → 2 ^ ex i ≤ sumP ex n := by
      intro n
      induction n with
      | zero => intro h; omega
      | succ n ih =>
        intro h
        show 2 ^ ex i ≤ sumP ex n + 2 ^ ex n
        by_cases hin : i = n
        · subst hin; exact Nat.le_add_left _ _
        · exact Nat.le_trans (ih (by omega)) (Nat.le_add_right _ _)
    exact this h hi
  have h8 : ∀ i, i < h → ex i ≤ 8 := by
    intro i hi
    have h1 := h0 i hi
    rcases Nat.lt_or_ge 8 (ex i) with hgt | hle
    · exfalso
      have : 2 ^ 9 ≤ 2 ^ ex i := Nat.pow_le_pow_right (by decide) hgt
      omega
    · exact hle
  intro i
  induction i with
  | zero => intro hi; exact h8 0 hi
  | succ i ih =>
    intro hi
    have h1 := ih (by omega)
    have h2 := hB.1 i hi
    omega
theorem bin_h {p h : Nat} {st ex : Nat → Nat} (hB : BinT p h st ex) (hp : p < 512) : h ≤ 9 := by
  rcases Nat.lt_or_ge 9 h with hgt | hle
  · have := bin_ex hB hp 9 hgt
    omega
  · exact hle
/-- the first of the BLOCKS from a to b -/
def blF (a b : Nat) : Nat → Nat → Nat
  | 0, e => e
  | f + 1, e => if a % 2 ^ (e + 1) = 0 ∧ a + 2 ^ (e + 1) ≤ b then blF a b f (e + 1) else e
def bl (a b : Nat) : Nat := blF a b 8 0
theorem blF_ok {a b : Nat} : ∀ (f e : Nat), a % 2 ^ e = 0 → a + 2 ^ e ≤ b → a % 2 ^ blF a b f e = 0 ∧ a + 2 ^ blF a b f e ≤ b ∧ blF a b f e ≤ e + f
  | 0, e, h1, h2 => ⟨h1, h2, Nat.le_refl _⟩
  | f + 1, e, h1, h2 => by
    show a % 2 ^ (if a % 2 ^ (e + 1) = 0 ∧ a + 2 ^ (e + 1) ≤ b then blF a b f (e + 1) else e) = 0 ∧ a + 2 ^ (if a % 2 ^ (e + 1) = 0 ∧ a + 2 ^ (e + 1) ≤ b then blF a b f (e + 1) else e) ≤ b ∧ (if a % 2 ^ (e + 1) = 0 ∧ a + 2 ^ (e + 1) ≤ b then blF a b f (e + 1) else e) ≤ e + (f + 1)
    by_cases hc : a % 2 ^ (e + 1) = 0 ∧ a + 2 ^ (e + 1) ≤ b
    · rw [if_pos hc]
      obtain ⟨r1, r2, r3⟩ := blF_ok f (e + 1) hc.1 hc.2
      exact ⟨r1, r2, by omega⟩
    · rw [if_neg hc]
      exact ⟨h1, h2, by omega⟩
theorem bl_ok {a b : Nat} (h : a < b) : 2 ^ bl a b ∣ a ∧ a + 2 ^ bl a b ≤ b ∧ bl a b ≤ 8 := by
  obtain ⟨r1, r2, r3⟩ := blF_ok (a := a) (b := b) 8 0 (by simp [Nat.mod_one]) (show a + 2 ^ 0 ≤ b from h)
  exact ⟨Nat.dvd_of_mod_eq_zero r1, r2, by show blF a b 8 0 ≤ 8; omega⟩
theorem c_blockLevel4 (N : Nat) (S : Hs) (g : Hg) (a b : Nat) (hb : b < 512) (ha : a < 512) : ∀ (f n e : Nat), e + f = 8 → f < n → n_X11_blockLevel_4 N S n g (nI a) (nI b) (nI e) (nI (e + 1)) = some (nI (blF a b f e), g) := by
  intro f
  induction f with
  | zero =>
    intro n e h1 h2
    obtain ⟨n, rfl⟩ : ∃ z, n = z + 1 := ⟨n - 1, by omega⟩
    obtain rfl : e = 8 := by omega
    show b_X11_blockLevel_4 N S (n_X11_blockLevel_4 N S n) g (nI a) (nI b) (nI 8) (nI 9) = _
    unfold b_X11_blockLevel_4
    rw [if_pos (by decide)]
    rfl
  | succ f ih =>
    intro n e h1 h2
    obtain ⟨n, rfl⟩ : ∃ z, n = z + 1 := ⟨n - 1, by omega⟩
    show b_X11_blockLevel_4 N S (n_X11_blockLevel_4 N S n) g (nI a) (nI b) (nI e) (nI (e + 1)) = _
    unfold b_X11_blockLevel_4
    have hp : 2 ^ (e + 1) ≤ 2 ^ 8 := Nat.pow_le_pow_right (by decide) (by omega)
    have hp1 : 1 ≤ 2 ^ (e + 1) := Nat.one_le_two_pow
    have hsh : (1 : Int32) <<< (nI (e + 1) &&& 31) = nI (2 ^ (e + 1)) := by
      have : e = 0 ∨ e = 1 ∨ e = 2 ∨ e = 3 ∨ e = 4 ∨ e = 5 ∨ e = 6 ∨ e = 7 := by omega
      rcases this with rfl | rfl | rfl | rfl | rfl | rfl | rfl | rfl <;> decide
    rw [if_neg (show ¬ ((9 : Int32) ≤ nI (e + 1)) from nI_ge (a := e + 1) (b := 9) (by omega) (by decide)), nm_D, hsh]
    have hand : nI a &&& (nI (2 ^ (e + 1)) - (1 : Int32)) = nI (a % 2 ^ (e + 1)) := by
      have := nI_and_pow (n := a) (e := e) (by omega) (by omega)
      rw [pk_mul, show 2 * 2 ^ e = 2 ^ (e + 1) by rw [Nat.pow_succ]; omega] at this
      exact this
    rw [hand, nI_add]
    have hm : a % 2 ^ (e + 1) < 2 ^ 31 := Nat.lt_of_le_of_lt (Nat.mod_le _ _) (by omega)
    show _ = some (nI (if a % 2 ^ (e + 1) = 0 ∧ a + 2 ^ (e + 1) ≤ b then blF a b f (e + 1) else e), g)
    by_cases h0 : a % 2 ^ (e + 1) = 0
    · rw [if_pos (show nI (a % 2 ^ (e + 1)) = 0 by rw [h0]; rfl)]
      by_cases hle : a + 2 ^ (e + 1) ≤ b
      · rw [if_pos (nI_le hle (by omega)), if_pos ⟨h0, hle⟩, nm_D, nI_1]
        exact ih n (e + 1) (by omega) (by omega)
      · rw [if_neg (nI_ge (Nat.lt_of_not_le hle) (by omega)), if_neg (fun h => hle h.2)]
    · rw [if_neg (show ¬ nI (a % 2 ^ (e + 1)) = 0 from fun e' => h0 ((nI_eq (b := 0) hm (by decide)).mp e')), if_neg (fun h => h0 h.1)]
theorem c_blockLevel {N : Nat} (hN : 30 ≤ N) {S : Hs} {g : Hg} {a b : Nat} {x0 x1 : Int32} (e0 : x0 = nI a) (e1 : x1 = nI b) (hb : b < 512) (ha : a < 512) : f_X11_blockLevel N S g x0 x1 = some (nI (bl a b), g) := by
  subst e0; subst e1
  exact c_blockLevel4 N S g a b hb ha 8 N 0 rfl (by omega)
theorem m_blockAt2 (N : Nat) (S : Hs) (g : Hg) (a b : Nat) (hb : b < 512) (ha : a < 512) : ∀ (f n e : Nat), e + f = 8 → f < n → (f = 0 → True) → n_X12_blockAt_2 N S n g (nI a) (nI b) (nI (2 ^ e)) = some (nI (2 ^ blF a b f e), g) := by
  intro f
  induction f with
  | zero =>
    intro n e h1 h2 _
    obtain ⟨n, rfl⟩ : ∃ z, n = z + 1 := ⟨n - 1, by omega⟩
    obtain rfl : e = 8 := by omega
    show b_X12_blockAt_2 N S (n_X12_blockAt_2 N S n) g (nI a) (nI b) (nI (2 ^ 8)) = _
    unfold b_X12_blockAt_2
    have hm2 : (2 : Int32) * nI (2 ^ 8) = nI 512 := by decide
    rw [hm2, show decide (¬ nI 512 = 0) = true by decide, ck_T, pk_rem (show a < 2 ^ 31 by omega) (by decide) (by decide), nI_add]
    have hlt : nI b < nI (a + 512) := nI_lt (by omega) (by omega)
    by_cases h0 : nI (a % 512) = 0
    · rw [if_pos h0, if_pos hlt]
      rfl
    · rw [if_neg h0]
      rfl
  | succ f ih =>
    intro n e h1 h2 _
    obtain ⟨n, rfl⟩ : ∃ z, n = z + 1 := ⟨n - 1, by omega⟩
    show b_X12_blockAt_2 N S (n_X12_blockAt_2 N S n) g (nI a) (nI b) (nI (2 ^ e)) = _
    unfold b_X12_blockAt_2
    have hp : 2 ^ (e + 1) ≤ 2 ^ 8 := Nat.pow_le_pow_right (by decide) (by omega)
    have hp1 : 1 ≤ 2 ^ (e + 1) := Nat.one_le_two_pow
    have hm2 : (2 : Int32) * nI (2 ^ e) = nI (2 ^ (e + 1)) := by
      have := pk_mul 2 (2 ^ e)
      rw [show 2 * 2 ^ e = 2 ^ (e + 1) by rw [Nat.pow_succ]; omega] at this
      exact this
    have hm3 : nI (2 ^ e) * (2 : Int32) = nI (2 ^ (e + 1)) := by rw [Int32.mul_comm]; exact hm2
    rw [hm2, hm3, show decide (¬ nI (2 ^ (e + 1)) = 0) = true from decide_eq_true (nI_ne0 hp1 (by omega)), ck_T, pk_rem (show a < 2 ^ 31 by omega) hp1 (by omega), nI_add]
    have hm : a % 2 ^ (e + 1) < 2 ^ 31 := Nat.lt_of_le_of_lt (Nat.mod_le _ _) (by omega)
    show _ = some (nI (2 ^ (if a % 2 ^ (e + 1) = 0 ∧ a + 2 ^ (e + 1) ≤ b then blF a b f (e + 1) else e)), g)
    by_cases h0 : a % 2 ^ (e + 1) = 0
    · rw [if_pos (show nI (a % 2 ^ (e + 1)) = 0 by rw [h0]; rfl)]
      by_cases hle : a + 2 ^ (e + 1) ≤ b
      · rw [if_neg (nI_nlt hle (by omega)), if_pos ⟨h0, hle⟩, nm_D]
        exact ih n (e + 1) (by omega) (by omega) (fun _ => trivial)
      · rw [if_pos (nI_lt (Nat.lt_of_not_le hle) (by omega)), if_neg (fun h => hle h.2)]
    · rw [if_neg (show ¬ nI (a % 2 ^ (e + 1)) = 0 from fun e' => h0 ((nI_eq (b := 0) hm (by decide)).mp e')), if_neg (fun h => h0 h.1)]
theorem m_blockAt {N : Nat} (hN : 30 ≤ N) {S : Hs} {g : Hg} {a b : Nat} {x0 x1 : Int32} (e0 : x0 = nI a) (e1 : x1 = nI b) (hb : b < 512) (ha : a < 512) : f_X12_blockAt N S g x0 x1 = some (nI (2 ^ bl a b), g) := by
  subst e0; subst e1
  exact m_blockAt2 N S g a b hb ha 8 N 0 rfl (by omega) (fun _ => trivial)
