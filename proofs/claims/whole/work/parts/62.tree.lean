/-! THE TREE over KEYS, as mathematics on lists -/
def kbit (d : Nat) (k : Int32) : Bool := wbit (WAY k) d == 1
def TREE (lat : Int32 → Int32) : Nat → List Int32 → Nat → Int32
  | _, [] => NOUGHT
  | _, [k] => LEAF k (lat k)
  | 0, _ :: _ :: _ => NOUGHT
  | f + 1, k :: k1 :: l => JOIN (TREE lat f ((k :: k1 :: l).filter (fun z => !kbit (255 - f) z))) (TREE lat f ((k :: k1 :: l).filter (fun z => kbit (255 - f) z)))
theorem TREE_nil (lat : Int32 → Int32) (f : Nat) : TREE lat f [] = NOUGHT := by cases f <;> rfl
theorem TREE_one (lat : Int32 → Int32) (f : Nat) (k : Int32) : TREE lat f [k] = LEAF k (lat k) := by cases f <;> rfl
theorem TREE_more (lat : Int32 → Int32) (f : Nat) {l : List Int32} (h : 2 ≤ l.length) : TREE lat (f + 1) l = JOIN (TREE lat f (l.filter (fun z => !kbit (255 - f) z))) (TREE lat f (l.filter (fun z => kbit (255 - f) z))) := by
  match l, h with
  | _ :: _ :: _, _ => rfl
theorem TREE_perm (lat : Int32 → Int32) : ∀ (f : Nat) {l l1 : List Int32}, l.Perm l1 → TREE lat f l = TREE lat f l1 := by
  intro f
  induction f with
  | zero =>
    intro l l1 h
    match l, l1, h, h.length_eq with
    | [], [], _, _ => rfl
    | [k], [k1], h, _ => rw [List.singleton_perm_singleton.mp h]
    | _ :: _ :: _, _ :: _ :: _, _, _ => rfl
  | succ f ih =>
    intro l l1 h
    match l, l1, h, h.length_eq with
    | [], [], _, _ => rfl
    | [k], [k1], h, _ => rw [List.singleton_perm_singleton.mp h]
    | a :: b :: l, a1 :: b1 :: l1, h, _ =>
      rw [TREE_more lat f (by simp), TREE_more lat f (by simp), ih (h.filter _), ih (h.filter _)]
/-- the STEPS on a WAY, and who is alone at its end -/
def FOLS (lat : Int32 → Int32) (w : Nat → Int32) : Nat → List Int32 → List (Nat → Int32)
  | 0, _ => []
  | f + 1, l => if l.length ≤ 1 then [] else if wbit w (255 - f) = 1 then TREE lat f (l.filter (fun z => !kbit (255 - f) z)) :: FOLS lat w f (l.filter (fun z => kbit (255 - f) z)) else TREE lat f (l.filter (fun z => kbit (255 - f) z)) :: FOLS lat w f (l.filter (fun z => !kbit (255 - f) z))
def FOLE (w : Nat → Int32) : Nat → List Int32 → List Int32
  | 0, l => l
  | f + 1, l => if l.length ≤ 1 then l else if wbit w (255 - f) = 1 then FOLE w f (l.filter (fun z => kbit (255 - f) z)) else FOLE w f (l.filter (fun z => !kbit (255 - f) z))
theorem FOLS_perm (lat : Int32 → Int32) (w : Nat → Int32) : ∀ (f : Nat) {l l1 : List Int32}, l.Perm l1 → FOLS lat w f l = FOLS lat w f l1
  | 0, _, _, _ => rfl
  | f + 1, l, l1, h => by
    unfold FOLS
    rw [h.length_eq, TREE_perm lat f (h.filter _), TREE_perm lat f (h.filter (fun z => kbit (255 - f) z)), FOLS_perm lat w f (h.filter (fun z => kbit (255 - f) z)), FOLS_perm lat w f (h.filter (fun z => !kbit (255 - f) z))]
theorem FOLE_perm (w : Nat → Int32) : ∀ (f : Nat) {l l1 : List Int32}, l.Perm l1 → (FOLE w f l).Perm (FOLE w f l1)
  | 0, _, _, h => h
  | f + 1, l, l1, h => by
    unfold FOLE
    rw [h.length_eq]
    by_cases h1 : l1.length ≤ 1
    · rw [if_pos h1, if_pos h1]; exact h
    · rw [if_neg h1, if_neg h1]
      by_cases h2 : wbit w (255 - f) = 1
      · rw [if_pos h2, if_pos h2]; exact FOLE_perm w f (h.filter _)
      · rw [if_neg h2, if_neg h2]; exact FOLE_perm w f (h.filter _)
theorem FOLS_len (lat : Int32 → Int32) (w : Nat → Int32) : ∀ (f : Nat) (l : List Int32), (FOLS lat w f l).length ≤ f
  | 0, _ => Nat.le_refl _
  | f + 1, l => by
    unfold FOLS
    by_cases h1 : l.length ≤ 1
    · rw [if_pos h1]; simp
    · rw [if_neg h1]
      by_cases h2 : wbit w (255 - f) = 1
      · rw [if_pos h2]; simp only [List.length_cons]; have := FOLS_len lat w f (l.filter (fun z => kbit (255 - f) z)); omega
      · rw [if_neg h2]; simp only [List.length_cons]; have := FOLS_len lat w f (l.filter (fun z => !kbit (255 - f) z)); omega
/-- KEYS of a list that are alike in the first d bits, and unlike one another -/
def AlikeL (d : Nat) (l : List Int32) : Prop := l.Nodup ∧ ∀ k k1, k ∈ l → k1 ∈ l → ∀ e, e < d → wbit (WAY k) e = wbit (WAY k1) e
theorem AlikeL.deep {l : List Int32} (h : AlikeL 256 l) : l.length ≤ 1 := by
  match l, h with
  | [], _ => simp
  | [_], _ => simp
  | a :: b :: l, h =>
    exfalso
    have hn := h.1
    have : a = b := key_bits (fun d hd => h.2 a b (by simp) (by simp) d hd)
    subst this
    simp at hn
theorem AlikeL.f1 {d : Nat} {l : List Int32} (h : AlikeL d l) : AlikeL (d + 1) (l.filter (fun z => kbit d z)) := by
  refine ⟨h.1.filter _, fun k k1 h1 h2 e he => ?_⟩
  rw [List.mem_filter] at h1 h2
  by_cases hc : e = d
  · subst hc
    have a1 := h1.2
    have a2 := h2.2
    simp only [kbit, beq_iff_eq] at a1 a2
    rw [a1, a2]
  · exact h.2 k k1 h1.1 h2.1 e (by omega)
theorem AlikeL.f0 {d : Nat} {l : List Int32} (h : AlikeL d l) : AlikeL (d + 1) (l.filter (fun z => !kbit d z)) := by
  refine ⟨h.1.filter _, fun k k1 h1 h2 e he => ?_⟩
  rw [List.mem_filter] at h1 h2
  by_cases hc : e = d
  · subst hc
    have a1 := h1.2
    have a2 := h2.2
    simp only [kbit, Bool.not_eq_true', beq_eq_false_iff_ne] at a1 a2
    have b1 := wbit_lt (WAY k) e
    have b2 := wbit_lt (WAY k1) e
    omega
  · exact h.2 k k1 h1.1 h2.1 e (by omega)
theorem AlikeL.z {l : List Int32} (h : l.Nodup) : AlikeL 0 l := ⟨h, fun _ _ _ _ e he => absurd he (by omega)⟩
theorem FOLE_len (w : Nat → Int32) : ∀ (f : Nat) (l : List Int32), f ≤ 256 → AlikeL (256 - f) l → (FOLE w f l).length ≤ 1
  | 0, l, _, h => h.deep
  | f + 1, l, hf, h => by
    unfold FOLE
    by_cases h1 : l.length ≤ 1
    · rw [if_pos h1]; exact h1
    · rw [if_neg h1]
      have e1 : 256 - (f + 1) = 255 - f := by omega
      have e2 : 255 - f + 1 = 256 - f := by omega
      rw [e1] at h
      by_cases h2 : wbit w (255 - f) = 1
      · rw [if_pos h2]; exact FOLE_len w f _ (by omega) (by rw [← e2]; exact h.f1)
      · rw [if_neg h2]; exact FOLE_len w f _ (by omega) (by rw [← e2]; exact h.f0)
theorem FOLE_eq (w : Nat → Int32) {l l1 : List Int32} (hp : l.Perm l1) (hn : l.Nodup) : FOLE w 256 l = FOLE w 256 l1 := by
  have h1 := FOLE_len w 256 l (by omega) (AlikeL.z hn)
  have h2 := FOLE_perm w 256 hp
  match FOLE w 256 l, FOLE w 256 l1, h1, h2, h2.length_eq with
  | [], [], _, _, _ => rfl
  | [k], [k1], _, h, _ => rw [List.singleton_perm_singleton.mp h]
/-! lists read out of rows -/
def lst (f : Nat → Int32) (a b : Nat) : List Int32 := (List.range' a (b - a)).map f
theorem lst_len (f : Nat → Int32) (a b : Nat) : (lst f a b).length = b - a := by simp [lst]
theorem lst_nil (f : Nat → Int32) {a b : Nat} (h : b ≤ a) : lst f a b = [] := by
  unfold lst
  rw [show b - a = 0 by omega]
  rfl
theorem lst_cons (f : Nat → Int32) {a b : Nat} (h : a < b) : lst f a b = f a :: lst f (a + 1) b := by
  unfold lst
  obtain ⟨k, hk⟩ : ∃ k, b - a = k + 1 := ⟨b - a - 1, by omega⟩
  rw [hk, show b - (a + 1) = k by omega, List.range'_succ]
  rfl
theorem lst_one (f : Nat → Int32) (a : Nat) : lst f a (a + 1) = [f a] := by
  rw [lst_cons f (by omega), lst_nil f (by omega)]
theorem lst_app (f : Nat → Int32) {a m b : Nat} (h : a ≤ m) (h1 : m ≤ b) : lst f a b = lst f a m ++ lst f m b := by
  unfold lst
  rw [← List.map_append]
  have := List.range'_append (s := a) (m := m - a) (n := b - m) (step := 1)
  rw [show a + 1 * (m - a) = m by omega, show m - a + (b - m) = b - a by omega] at this
  rw [this]
theorem lst_congr {f f1 : Nat → Int32} {a b : Nat} (h : ∀ i, a ≤ i → i < b → f i = f1 i) : lst f a b = lst f1 a b := by
  unfold lst
  apply List.map_congr_left
  intro i hi
  rw [List.mem_range'_1] at hi
  exact h i hi.1 (by omega)
theorem lst_mem {f : Nat → Int32} {a b : Nat} {k : Int32} : k ∈ lst f a b ↔ ∃ i, a ≤ i ∧ i < b ∧ f i = k := by
  unfold lst
  rw [List.mem_map]
  constructor
  · rintro ⟨i, hi, e⟩
    rw [List.mem_range'_1] at hi
    exact ⟨i, hi.1, by omega, e⟩
  · rintro ⟨i, h1, h2, e⟩
    exact ⟨i, by rw [List.mem_range'_1]; omega, e⟩
theorem lst_snoc (f : Nat → Int32) {a b : Nat} (h : a ≤ b) : lst f a (b + 1) = lst f a b ++ [f b] := by
  rw [lst_app f (m := b) h (by omega), lst_one]
theorem lst_nodup {f : Nat → Int32} {a b : Nat} (h : ∀ i j, a ≤ i → i < j → j < b → f i ≠ f j) : (lst f a b).Nodup := by
  unfold lst
  rw [List.Nodup, List.pairwise_map]
  refine List.Pairwise.imp_of_mem ?_ (List.pairwise_lt_range' (s := a) (n := b - a))
  intro i j hi hj hij
  rw [List.mem_range'_1] at hi hj
  exact h i j hi.1 hij (by omega)
/-- the last place ahead of which all have bit 0 -/
theorem split_filter {f : Nat → Int32} {p : Int32 → Bool} {a m b : Nat} (h1 : a ≤ m) (h2 : m ≤ b) (h0 : ∀ i, a ≤ i → i < m → p (f i) = false) (h3 : ∀ i, m ≤ i → i < b → p (f i) = true) : (lst f a b).filter (fun z => !p z) = lst f a m ∧ (lst f a b).filter (fun z => p z) = lst f m b := by
  rw [lst_app f h1 h2, List.filter_append, List.filter_append]
  have e1 : (lst f a m).filter (fun z => !p z) = lst f a m := List.filter_eq_self.mpr (fun k hk => by
    obtain ⟨i, i1, i2, e⟩ := lst_mem.mp hk
    rw [← e, h0 i i1 i2]; rfl)
  have e2 : (lst f m b).filter (fun z => !p z) = [] := List.filter_eq_nil_iff.mpr (fun k hk => by
    obtain ⟨i, i1, i2, e⟩ := lst_mem.mp hk
    rw [← e, h3 i i1 i2]; simp)
  have e3 : (lst f a m).filter (fun z => p z) = [] := List.filter_eq_nil_iff.mpr (fun k hk => by
    obtain ⟨i, i1, i2, e⟩ := lst_mem.mp hk
    rw [← e, h0 i i1 i2]; simp)
  have e4 : (lst f m b).filter (fun z => p z) = lst f m b := List.filter_eq_self.mpr (fun k hk => by
    obtain ⟨i, i1, i2, e⟩ := lst_mem.mp hk
    rw [← e, h3 i i1 i2])
  rw [e1, e2, e3, e4]
  simp
/-! WAYS in order: words as unsigned numbers, the first unlike one decides -/
def uw (x : Int32) : Nat := x.toBitVec.toNat
def Ahead (u v : Nat → Int32) : Prop := ∃ j, j < 8 ∧ (∀ i, i < j → u i = v i) ∧ uw (u j) < uw (v j)
theorem div_bit {x n : Nat} : x / 2 ^ n = 2 * (x / 2 ^ (n + 1)) + x / 2 ^ n % 2 := by
  rw [Nat.pow_succ, ← Nat.div_div_eq_div_mul]
  omega
theorem high_eq {x y : Nat} (hx : x < 2 ^ 32) (hy : y < 2 ^ 32) : ∀ (k n : Nat), n + k = 32 → (∀ i, n ≤ i → i < 32 → x / 2 ^ i % 2 = y / 2 ^ i % 2) → x / 2 ^ n = y / 2 ^ n
  | 0, n, h, _ => by
    obtain rfl : n = 32 := by omega
    rw [Nat.div_eq_of_lt hx, Nat.div_eq_of_lt hy]
  | k + 1, n, h, hb => by
    have := high_eq hx hy k (n + 1) (by omega) (fun i h1 h2 => hb i (by omega) h2)
    rw [div_bit (x := x), div_bit (x := y), this, hb n (by omega) (by omega)]
theorem Ahead.bit {u v : Nat → Int32} (h : Ahead u v) {d : Nat} (hd : d < 256) (ha : ∀ e, e < d → wbit u e = wbit v e) : wbit u d ≤ wbit v d := by
  obtain ⟨j, hj, h1, h2⟩ := h
  by_cases c1 : d / 32 < j
  · unfold wbit
    rw [h1 _ c1]
    exact Nat.le_refl _
  · have hx : uw (u j) < 2 ^ 32 := (u j).toBitVec.isLt
    have hy : uw (v j) < 2 ^ 32 := (v j).toBitVec.isLt
    have bits : ∀ i, i < 32 → 32 * j + (31 - i) < d → uw (u j) / 2 ^ i % 2 = uw (v j) / 2 ^ i % 2 := fun i hi hd2 => by
      have := ha (32 * j + (31 - i)) hd2
      unfold wbit at this
      rw [show (32 * j + (31 - i)) / 32 = j by omega, show 31 - (32 * j + (31 - i)) % 32 = i by omega] at this
      exact this
    by_cases c2 : j < d / 32
    · exfalso
      have := high_eq hx hy 32 0 (by omega) (fun i _ hi => bits i hi (by omega))
      rw [Nat.pow_zero, Nat.div_one, Nat.div_one] at this
      omega
    · have c3 : d / 32 = j := by omega
      have hh := high_eq hx hy (d % 32) (32 - d % 32) (by omega) (fun i h3 h4 => bits i h4 (by omega))
      unfold wbit
      rw [c3]
      show uw (u j) / 2 ^ (31 - d % 32) % 2 ≤ uw (v j) / 2 ^ (31 - d % 32) % 2
      have d1 := div_bit (x := uw (u j)) (n := 31 - d % 32)
      have d2 := div_bit (x := uw (v j)) (n := 31 - d % 32)
      rw [show 31 - d % 32 + 1 = 32 - d % 32 by omega] at d1 d2
      have mono : uw (u j) / 2 ^ (31 - d % 32) ≤ uw (v j) / 2 ^ (31 - d % 32) := Nat.div_le_div_right (Nat.le_of_lt h2)
      omega
theorem Ahead.congr {u v u1 v1 : Nat → Int32} (h : Ahead u v) (hu : eq8 u u1) (hv : eq8 v v1) : Ahead u1 v1 := by
  obtain ⟨j, hj, h1, h2⟩ := h
  exact ⟨j, hj, fun i hi => by rw [← hu i (by omega), ← hv i (by omega)]; exact h1 i hi, by rw [← hu j hj, ← hv j hj]; exact h2⟩
theorem Ahead.trans {u v w : Nat → Int32} (h : Ahead u v) (h1 : Ahead v w) : Ahead u w := by
  obtain ⟨j, hj, a1, a2⟩ := h
  obtain ⟨k, hk, b1, b2⟩ := h1
  by_cases c : j < k
  · exact ⟨j, hj, fun i hi => (a1 i hi).trans (b1 i (by omega)), by rw [← b1 j c]; exact a2⟩
  · by_cases c2 : k < j
    · exact ⟨k, hk, fun i hi => (a1 i (by omega)).trans (b1 i hi), by rw [a1 k c2]; exact b2⟩
    · obtain rfl : j = k := by omega
      exact ⟨j, hj, fun i hi => (a1 i hi).trans (b1 i hi), by omega⟩
theorem Ahead.or {u v : Nat → Int32} (h : ¬ Ahead u v) : Ahead v u ∨ eq8 u v := by
  by_cases he : eq8 u v
  · exact Or.inr he
  · left
    -- the first unlike word
    have : ∃ j, j < 8 ∧ u j ≠ v j := by
      apply Classical.byContradiction
      intro hn
      exact he (fun j hj => Classical.byContradiction (fun q => hn ⟨j, hj, q⟩))
    have key : ∀ n, (∃ j, j < n ∧ j < 8 ∧ u j ≠ v j) → ∃ j, j < 8 ∧ (∀ i, i < j → u i = v i) ∧ u j ≠ v j := by
      intro n
      induction n with
      | zero => rintro ⟨j, hj, _⟩; omega
      | succ n ih =>
        intro hx
        by_cases hc : ∃ j, j < n ∧ j < 8 ∧ u j ≠ v j
        · exact ih hc
        · obtain ⟨j, j1, j2, j3⟩ := hx
          refine ⟨j, j2, fun i hi => Classical.byContradiction (fun q => hc ⟨i, by omega, by omega, q⟩), j3⟩
    obtain ⟨j, hj⟩ := this
    obtain ⟨i, i1, i2, i3⟩ := key 8 ⟨j, hj.1, hj.1, hj.2⟩
    have hne : uw (u i) ≠ uw (v i) := fun e => i3 (Int32.toBitVec_inj.mp (BitVec.eq_of_toNat_eq e))
    have hn2 : ¬ uw (u i) < uw (v i) := fun q => h ⟨i, i1, i2, q⟩
    exact ⟨i, i1, fun k hk => (i2 k hk).symm, by omega⟩
