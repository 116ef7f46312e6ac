/-! the sums of the document, as the class's Mixer and the reference write them -/
def w4 (a b c d : Int32) : Nat → Int32 := fun k => if k = 0 then a else if k = 1 then b else if k = 2 then c else d
def hi32 (v : Int64) : Int32 := (v >>> ((32 : Int32).toInt64 &&& 63)).toInt32
def ENT (key : Int32) (v : Int64) : Nat → Int32 := MIX (w4 1 key (hi32 v) v.toInt32) 4
def WAY (key : Int32) : Nat → Int32 := MIX (w4 4 key 0 0) 2
def LEAF (key lat : Int32) : Nat → Int32 := MIX (w4 5 key lat 0) 3
def jw (u v : Nat → Int32) : Nat → Int32 := fun k => if k = 0 then 2 else if k < 9 then u (k - 1) else v (k - 9)
def JOIN (u v : Nat → Int32) : Nat → Int32 := MIX (jw u v) 17
def kw6 (kp n : Int32) (u v : Nat → Int32) : Nat → Int32 := fun k => if k < 4 then w4 6 kp (1000003 * kp + 77) n k else if k < 12 then u (k - 4) else v (k - 12)
def MARK (kp n : Int32) (u v : Nat → Int32) : Nat → Int32 := MIX (kw6 kp n u v) 20
def seg (row : Nat → Int32) (at_ : Nat) : Nat → Int32 := fun j => row (at_ + j)
def putA (row : Nat → Int32) (at_ : Nat) (v : Nat → Int32) : Nat → Int32 := fun j => if at_ ≤ j ∧ j < at_ + 8 then v (j - at_) else row j
theorem put8_A (row : Nat → Int32) (p : Nat) (v : Nat → Int32) : put8 row p v = putA row (8 * p) v := rfl
theorem putA_congr {row u v : Nat → Int32} {at_ : Nat} (h : eq8 u v) : putA row at_ u = putA row at_ v := by
  funext j
  unfold putA
  by_cases hc : at_ ≤ j ∧ j < at_ + 8
  · rw [if_pos hc, if_pos hc, h _ (by omega)]
  · rw [if_neg hc, if_neg hc]
theorem putA_in {row v : Nat → Int32} {at_ j : Nat} (h : j < 8) : putA row at_ v (at_ + j) = v j := by
  unfold putA
  rw [if_pos (by omega), Nat.add_sub_cancel_left]
theorem putA_out {row v : Nat → Int32} {at_ j : Nat} (h : j < at_ ∨ at_ + 8 ≤ j) : putA row at_ v j = row j := by
  unfold putA
  rw [if_neg (by omega)]
theorem JOIN_congr {u u1 v v1 : Nat → Int32} (h : eq8 u u1) (h1 : eq8 v v1) : eq8 (JOIN u v) (JOIN u1 v1) := MIX_congr (fun k hk => by
  unfold jw
  by_cases h0 : k = 0
  · simp [h0]
  · by_cases h9 : k < 9
    · simp [h0, h9, h (k - 1) (by omega)]
    · simp [h0, h9, h1 (k - 9) (by omega)])
theorem MARK_congr {kp n : Int32} {u u1 v v1 : Nat → Int32} (h : eq8 u u1) (h1 : eq8 v v1) : eq8 (MARK kp n u v) (MARK kp n u1 v1) := MIX_congr (fun k hk => by
  unfold kw6
  by_cases h0 : k < 4
  · simp [h0]
  · by_cases h9 : k < 12
    · simp [h0, h9, h (k - 4) (by omega)]
    · simp [h0, h9, h1 (k - 12) (by omega)])
def MxOk (S : Hs) (g : Hg) (mx W A : Nat) : Prop := rdR g mx 0 = some W ∧ rdR g mx 1 = some A ∧ hpL S W = 20 ∧ hpL S A = 8 ∧ W ≠ A
def TgOk (S : Hs) (W A to at_ : Nat) : Prop := to ≠ A ∧ to ≠ W ∧ at_ + 8 ≤ hpL S to ∧ hpL S to < 2 ^ 31
def Ch3 (a b d : Nat) (g g1 : Hg) : Prop := Ch (fun x => x = a ∨ x = b ∨ x = d) g g1
theorem Ch3.of (g : Hg) (W A to : Nat) (r1 r2 r3 : Nat → Int32) : Ch3 W A to g (rowI (rowI (rowI g W r1) A r2) to r3) := ⟨rfl, fun b hb => by
  have h1 : b ≠ W := fun e => hb (Or.inl e)
  have h2 : b ≠ A := fun e => hb (Or.inr (Or.inl e))
  have h3 : b ≠ to := fun e => hb (Or.inr (Or.inr e))
  rw [rowI_ne _ _ h3, rowI_ne _ _ h2, rowI_ne _ _ h1]⟩
/-- the class: MIX behind words that were written -/
theorem c_mixW {N : Nat} (hN : 30 ≤ N) {S : Hs} {g : Hg} {mx A W to p cnt : Nat} {x1 x3 : Int32} (hM : MxOk S g mx W A) (hT : TgOk S W A to (8 * p)) (hc : cnt ≤ 20) (e1 : x1 = nI cnt) (e3 : x3 = nI p) (r : Nat → Int32) {w : Nat → Int32} (hw : ∀ k, k < cnt → r k = w k) :
    ∃ g1, f_X6_mix N S (rowI g W r) mx x1 to x3 = some ((), g1) ∧ Ch3 W A to g g1 ∧ g1.1 to = putA (g.1 to) (8 * p) (MIX w cnt) := by
  subst e1; subst e3
  refine ⟨_, c_mix hN hM.2.2.2.1 hM.2.2.1 hc hM.2.2.2.2 hT.1 hT.2.2.1 hT.2.2.2 hM.2.1 hM.1, Ch3.of g W A to r _ _, ?_⟩
  rw [rowI_same, rowI_same, rowI_ne g _ hT.2.1, put8_A]
  exact putA_congr (MIX_congr hw)
theorem hi32_u (v : Int64) : ((v.toUInt64 >>> ((32 : Int32).toInt64.toUInt64 &&& Int64.toUInt64 63)).toInt64).toInt32 = hi32 v := by
  unfold hi32
  have e1 : ((32 : Int32).toInt64.toUInt64 &&& Int64.toUInt64 63) = (32 : UInt64) := by decide
  have e2 : ((32 : Int32).toInt64 &&& 63) = (32 : Int64) := by decide
  rw [e1, e2]
  apply Int32.toBitVec_inj.mp
  have a1 : ((v.toUInt64 >>> (32 : UInt64)).toInt64).toInt32.toBitVec = (v.toBitVec >>> 32).signExtend 32 := by
    rw [Int64.toBitVec_toInt32]
    rfl
  have a2 : (v >>> (32 : Int64)).toInt32.toBitVec = (v.toBitVec.sshiftRight 32).signExtend 32 := by
    rw [Int64.toBitVec_toInt32]
    rfl
  rw [a1, a2]
  apply BitVec.eq_of_getLsbD_eq
  intro i hi
  have h1 : i < 64 := by omega
  have h2 : 32 + i < 64 := by omega
  have n1 : ¬ 64 ≤ i := by omega
  rw [BitVec.getLsbD_signExtend, BitVec.getLsbD_signExtend, if_pos h1, if_pos h1, BitVec.getLsbD_ushiftRight, BitVec.getLsbD_sshiftRight, if_pos h2]
  simp [n1]
theorem c_sumOfEntry {N : Nat} (hN : 30 ≤ N) {S : Hs} {g : Hg} {mx A W to p : Nat} {x3 : Int32} (hM : MxOk S g mx W A) (hT : TgOk S W A to (8 * p)) (e3 : x3 = nI p) (key : Int32) (v : Int64) :
    ∃ g1, f_X6_sumOfEntry N S g mx key v to x3 = some ((), g1) ∧ Ch3 W A to g g1 ∧ g1.1 to = putA (g.1 to) (8 * p) (ENT key v) := by
  obtain ⟨g1, h1, h2, h3⟩ := c_mixW hN hM hT (cnt := 4) (by decide) (x1 := 4) rfl e3 (upd (upd (upd (upd (g.1 W) 0 1) 1 key) 2 (hi32 v)) 3 v.toInt32) (w := w4 1 key (hi32 v) v.toInt32) (fun k hk => by
    have : k = 0 ∨ k = 1 ∨ k = 2 ∨ k = 3 := by omega
    rcases this with rfl | rfl | rfl | rfl <;> simp [upd, w4])
  refine ⟨g1, ?_, h2, h3⟩
  show b_X6_sumOfEntry_0 N S g mx key v to x3 = _
  unfold b_X6_sumOfEntry_0
  simp only [hM.1, nn_S, nm_D, hM.2.2.1, wrI_row, rdR_rowI, rowI_rowI, rowI_same, show inb (0 : Int32) 20 = true by decide, show inb (1 : Int32) 20 = true by decide, show inb (2 : Int32) 20 = true by decide, show inb (3 : Int32) 20 = true by decide, ck_T, hi32_u]
  show c2 (f_X6_mix N S (rowI g W (upd (upd (upd (upd (g.1 W) 0 1) 1 key) 2 (hi32 v)) 3 v.toInt32)) mx 4 to x3) _ = _
  rw [h1]
  rfl
theorem c_wayOf {N : Nat} (hN : 30 ≤ N) {S : Hs} {g : Hg} {mx A W to p : Nat} {x3 : Int32} (hM : MxOk S g mx W A) (hT : TgOk S W A to (8 * p)) (e3 : x3 = nI p) (key : Int32) :
    ∃ g1, f_X6_wayOf N S g mx key to x3 = some ((), g1) ∧ Ch3 W A to g g1 ∧ g1.1 to = putA (g.1 to) (8 * p) (WAY key) := by
  obtain ⟨g1, h1, h2, h3⟩ := c_mixW hN hM hT (cnt := 2) (by decide) (x1 := 2) rfl e3 (upd (upd (g.1 W) 0 4) 1 key) (w := w4 4 key 0 0) (fun k hk => by
    have : k = 0 ∨ k = 1 := by omega
    rcases this with rfl | rfl <;> simp [upd, w4])
  refine ⟨g1, ?_, h2, h3⟩
  show b_X6_wayOf_0 N S g mx key to x3 = _
  unfold b_X6_wayOf_0
  simp only [hM.1, nn_S, nm_D, hM.2.2.1, wrI_row, rdR_rowI, rowI_rowI, rowI_same, show inb (0 : Int32) 20 = true by decide, show inb (1 : Int32) 20 = true by decide, ck_T]
  show c2 (f_X6_mix N S (rowI g W (upd (upd (g.1 W) 0 4) 1 key)) mx 2 to x3) _ = _
  rw [h1]
  rfl
theorem c_sumOfLeaf {N : Nat} (hN : 30 ≤ N) {S : Hs} {g : Hg} {mx A W to p : Nat} {x3 : Int32} (hM : MxOk S g mx W A) (hT : TgOk S W A to (8 * p)) (e3 : x3 = nI p) (key lat : Int32) :
    ∃ g1, f_X6_sumOfLeaf N S g mx key lat to x3 = some ((), g1) ∧ Ch3 W A to g g1 ∧ g1.1 to = putA (g.1 to) (8 * p) (LEAF key lat) := by
  obtain ⟨g1, h1, h2, h3⟩ := c_mixW hN hM hT (cnt := 3) (by decide) (x1 := 3) rfl e3 (upd (upd (upd (g.1 W) 0 5) 1 key) 2 lat) (w := w4 5 key lat 0) (fun k hk => by
    have : k = 0 ∨ k = 1 ∨ k = 2 := by omega
    rcases this with rfl | rfl | rfl <;> simp [upd, w4])
  refine ⟨g1, ?_, h2, h3⟩
  show b_X6_sumOfLeaf_0 N S g mx key lat to x3 = _
  unfold b_X6_sumOfLeaf_0
  simp only [hM.1, nn_S, nm_D, hM.2.2.1, wrI_row, rdR_rowI, rowI_rowI, rowI_same, show inb (0 : Int32) 20 = true by decide, show inb (1 : Int32) 20 = true by decide, show inb (2 : Int32) 20 = true by decide, ck_T]
  show c2 (f_X6_mix N S (rowI g W (upd (upd (upd (g.1 W) 0 5) 1 key) 2 lat)) mx 3 to x3) _ = _
  rw [h1]
  rfl
theorem c_join {N : Nat} (hN : 30 ≤ N) {S : Hs} {g : Hg} {mx A W to p one op other qp : Nat} {x2 x4 x6 : Int32} (hM : MxOk S g mx W A) (hT : TgOk S W A to (8 * p)) (h1 : one ≠ W) (h2 : other ≠ W) (l1 : 8 * op + 8 ≤ hpL S one) (l1b : hpL S one < 2 ^ 31) (l2 : 8 * qp + 8 ≤ hpL S other) (l2b : hpL S other < 2 ^ 31) (e2 : x2 = nI op) (e4 : x4 = nI qp) (e6 : x6 = nI p) :
    ∃ g1, f_X6_join N S g mx one x2 other x4 to x6 = some ((), g1) ∧ Ch3 W A to g g1 ∧ g1.1 to = putA (g.1 to) (8 * p) (JOIN (seg (g.1 one) (8 * op)) (seg (g.1 other) (8 * qp))) := by
  subst e2; subst e4
  obtain ⟨g1, k1, k2, k3⟩ := c_mixW hN hM hT (cnt := 17) (by decide) (x1 := 17) rfl e6 (va_cpy (g.1 other) (va_cpy (g.1 one) (upd (g.1 W) 0 2) (8 * op) 1 8) (8 * qp) 9 8) (w := jw (seg (g.1 one) (8 * op)) (seg (g.1 other) (8 * qp))) (fun k hk => by
    unfold jw seg
    by_cases h0 : k = 0
    · subst h0; simp [va_cpy, upd]
    · by_cases h9 : k < 9
      · simp only [va_cpy]
        rw [if_neg (by omega), if_pos (by omega), if_neg h0, if_pos h9]
      · simp only [va_cpy]
        rw [if_pos (by omega), if_neg h0, if_neg h9])
  refine ⟨g1, ?_, k2, k3⟩
  show b_X6_join_0 N S g mx one (nI op) other (nI qp) to x6 = _
  unfold b_X6_join_0
  simp only [hM.1, nn_S, nm_D, hM.2.2.1, wrI_row, rdR_rowI, show inb (nI 0) 20 = true by decide, ck_T, lit, pk_mul, cpI_row, rowI_same, rowI_rowI]
  rw [cpok_nI (by omega) (by decide) l1b (by decide), ck_T, cpok_nI (by omega) (by decide) l2b (by decide), ck_T, rowI_ne g _ h1, rowI_ne g _ h2, nI_clamp (show op * 8 < 2 ^ 31 by omega), nI_clamp (show qp * 8 < 2 ^ 31 by omega), Nat.mul_comm op 8, Nat.mul_comm qp 8]
  show c2 (f_X6_mix N S (rowI g W (va_cpy (g.1 other) (va_cpy (g.1 one) (upd (g.1 W) 0 2) (8 * op) 1 8) (8 * qp) 9 8)) mx 17 to x6) _ = _
  rw [k1]
  rfl
