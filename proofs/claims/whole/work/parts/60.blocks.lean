/-! SUMS of blocks of entries -/
def BS (key : Nat → Int32) (val : Nat → Int64) : Nat → Nat → Nat → Int32
  | 0, a => ENT (key a) (val a)
  | e + 1, a => JOIN (BS key val e a) (BS key val e (a + 2 ^ e))
theorem seg_putA {row v : Nat → Int32} {p : Nat} : eq8 (seg (putA row p v) p) v := fun j hj => putA_in hj
theorem putA_eq8 {row u v : Nat → Int32} {p : Nat} (h : eq8 u v) (j : Nat) : putA row p u j = putA row p v j := by rw [putA_congr h]
theorem m_blockSum {N : Nat} (hN : 30 ≤ N) {S : Hs} {m W A kA vA dA lg : Nat} (key : Nat → Int32) (val : Nat → Int64) (hk1 : hpL S kA = 2400) (hv1 : hpL S vA = 2400) (hd1 : hpL S dA = 256) (dW : dA ≠ W) (dA' : dA ≠ A) (kW : kA ≠ W) (kA' : kA ≠ A) (kd : kA ≠ dA) (hlg : lg < 6) :
    ∀ (e n : Nat) (g : Hg) (fr lev row at_ : Nat), e < n → e + lev ≤ 15 → e ≤ 8 → MmOk S g m W A → rdR g m 2 = some kA → rdR g m 3 = some vA → rdR g m 45 = some dA → TgOk S W A row at_ → row ≠ kA → (row = dA → at_ + 8 ≤ 16 * lev) → fr + 2 ^ e ≤ 400 → (∀ i, i < 400 → fr ≤ i → i < fr + 2 ^ e → g.1 kA (400 * lg + i) = key i ∧ rdL g vA (400 * lg + i) = val i) →
    ∃ g1, f_X12_blockSum N S n g m (nI lg) (nI fr) (nI (2 ^ e)) (nI lev) row (nI at_) = some ((), g1) ∧ g1.2 = g.2 ∧ (∀ b, b ≠ W → b ≠ A → b ≠ dA → b ≠ row → g1.1 b = g.1 b) ∧ (∀ j, (row = dA → j < 16 * lev) → g1.1 row j = putA (g.1 row) at_ (BS key val e fr) j) ∧ (row ≠ dA → ∀ j, j < 16 * lev → g1.1 dA j = g.1 dA j) := by
  intro e
  induction e with
  | zero =>
    intro n g fr lev row at_ h1 h2 h2b hM rk rv rd hT hrk hrd hfr hkv
    obtain ⟨n, rfl⟩ : ∃ z, n = z + 1 := ⟨n - 1, by omega⟩
    have hfr : fr + 1 ≤ 400 := hfr
    obtain ⟨v1, v2⟩ := hkv fr (by omega) (Nat.le_refl _) (by show fr < fr + 1; omega)
    obtain ⟨g1, k1, k2, k3⟩ := m_entrySum hN hM hT (x5 := nI at_) rfl (key fr) (val fr)
    refine ⟨g1, ?_, k2.1, fun b b1 b2 b3 b4 => k2.2 b (by intro h; rcases h with h | h | h <;> contradiction), fun j hj => by rw [k3]; rfl, fun hne j hj => by rw [k2.2 dA (by intro h; rcases h with h | h | h <;> first | contradiction | exact hne h.symm)]⟩
    show b_X12_blockSum_0 N S (f_X12_blockSum N S n) g m (nI lg) (nI fr) (nI 1) (nI lev) row (nI at_) = _
    unfold b_X12_blockSum_0
    have hx : (400 : Int32) * nI lg + nI fr = nI (400 * lg + fr) := by
      rw [show (400 : Int32) * nI lg = nI (400 * lg) from pk_mul 400 lg, nI_add]
    rw [if_pos (show nI 1 = (1 : Int32) from rfl), hx]
    simp only [rk, rv, nn_S, hk1, hv1, inb_nI (show 400 * lg + fr < 2400 by omega) (show 2400 < 2 ^ 31 by decide), ck_T, nI_clamp (show 400 * lg + fr < 2 ^ 31 by omega)]
    rw [show rdI g kA (400 * lg + fr) = key fr from v1, v2, k1, c2_S]
  | succ e ih =>
    intro n g fr lev row at_ h1 h2 h2b hM rk rv rd hT hrk hrd hfr hkv
    obtain ⟨n, rfl⟩ : ∃ z, n = z + 1 := ⟨n - 1, by omega⟩
    have hpw : 2 ^ (e + 1) = 2 ^ e + 2 ^ e := by rw [Nat.pow_succ]; omega
    have hp1 : 1 ≤ 2 ^ e := Nat.one_le_two_pow
    have hp8 : 2 ^ (e + 1) ≤ 2 ^ 8 := Nat.pow_le_pow_right (by decide) h2b
    obtain ⟨g3, a1, a2, a3, a4, a5⟩ := ih n g fr (lev + 1) dA (16 * lev) (by omega) (by omega) (by omega) hM rk rv rd ⟨dA', dW, by omega, by omega⟩ (Ne.symm kd) (fun _ => by omega) (by omega) (fun i i1 i2 i3 => hkv i i1 i2 (by omega))
    have e3 : ∀ a k, rdR g3 a k = rdR g a k := fun a k => by show g3.2.2 a k = g.2.2 a k; rw [a2]
    have l3 : ∀ a k, rdL g3 a k = rdL g a k := fun a k => by show g3.2.1 a k = g.2.1 a k; rw [a2]
    have hM3 : MmOk S g3 m W A := ⟨(e3 _ _).trans hM.1, (e3 _ _).trans hM.2.1, hM.2.2⟩
    obtain ⟨g6, b1, b2, b3, b4, b5⟩ := ih n g3 (fr + 2 ^ e) (lev + 1) dA (16 * lev + 8) (by omega) (by omega) (by omega) hM3 ((e3 _ _).trans rk) ((e3 _ _).trans rv) ((e3 _ _).trans rd) ⟨dA', dW, by omega, by omega⟩ (Ne.symm kd) (fun _ => by omega) (by omega) (fun i i1 i2 i3 => by
      rw [a3 kA kW kA' kd kd, l3]
      exact hkv i i1 (by omega) (by omega))
    have e6 : ∀ a k, rdR g6 a k = rdR g a k := fun a k => by show g6.2.2 a k = g.2.2 a k; rw [b2, a2]
    have hM6 : MmOk S g6 m W A := ⟨(e6 _ _).trans hM.1, (e6 _ _).trans hM.2.1, hM.2.2⟩
    obtain ⟨g7, j1, j2, j3⟩ := m_join hN (g := g6) (a := dA) (b := dA) (p := 16 * lev) (q_ := 16 * lev + 8) (row := row) (at_ := at_) hM6 hT dW dW (by omega) (by omega) (by omega) (by omega) (x2 := nI (16 * lev)) (x4 := nI (16 * lev + 8)) (x6 := nI at_) rfl rfl rfl
    have s1 : eq8 (seg (g6.1 dA) (16 * lev)) (BS key val e fr) := fun j hj => by
      show g6.1 dA (16 * lev + j) = _
      rw [b4 _ (fun _ => by omega), putA_out (by omega), a4 _ (fun _ => by omega), putA_in hj]
    have s2 : eq8 (seg (g6.1 dA) (16 * lev + 8)) (BS key val e (fr + 2 ^ e)) := fun j hj => by
      show g6.1 dA (16 * lev + 8 + j) = _
      rw [b4 _ (fun _ => by omega), putA_in hj]
    have low : ∀ j, j < 16 * lev → g6.1 dA j = g.1 dA j := fun j hj => by
      rw [b4 _ (fun _ => by omega), putA_out (by omega), a4 _ (fun _ => by omega), putA_out (by omega)]
    refine ⟨g7, ?_, j2.1.trans (b2.trans a2), fun b c1 c2 c3 c4 => ?_, fun j hj => ?_, fun hne j hj => ?_⟩
    · show b_X12_blockSum_0 N S (f_X12_blockSum N S n) g m (nI lg) (nI fr) (nI (2 ^ (e + 1))) (nI lev) row (nI at_) = _
      unfold b_X12_blockSum_0
      have hdv : nI (2 ^ (e + 1)) / (2 : Int32) = nI (2 ^ e) := by
        have := pk_div (a := 2 ^ (e + 1)) (d := 2) (by omega) (by decide) (by decide)
        rw [show 2 ^ (e + 1) / 2 = 2 ^ e by omega] at this
        exact this
      have hm16 : (16 : Int32) * nI lev = nI (16 * lev) := pk_mul 16 lev
      have hm24 : nI (16 * lev) + (8 : Int32) = nI (16 * lev + 8) := nI_add (16 * lev) 8
      have hl1 : nI lev + (1 : Int32) = nI (lev + 1) := nI_1 lev
      rw [if_neg (show ¬ nI (2 ^ (e + 1)) = (1 : Int32) from fun h => by
        have := (nI_eq (b := 1) (by omega) (by decide)).mp h
        omega), hdv, hm16, hm24, hl1, rd, nn_S, a1, c2_S, e3, rd, nn_S, nI_add, b1, c2_S, e6, rd, nn_S, nn_S, j1, c2_S]
    · rw [j2.2 b (by intro h; rcases h with h | h | h <;> contradiction), b3 b c1 c2 c3 c3, a3 b c1 c2 c3 c3]
    · rw [j3]
      have hJ : eq8 (JOIN (seg (g6.1 dA) (16 * lev)) (seg (g6.1 dA) (16 * lev + 8))) (BS key val (e + 1) fr) := JOIN_congr s1 s2
      rw [putA_congr hJ]
      unfold putA
      by_cases hc : at_ ≤ j ∧ j < at_ + 8
      · rw [if_pos hc, if_pos hc]
      · rw [if_neg hc, if_neg hc]
        by_cases hrow : row = dA
        · subst hrow
          exact low j (hj rfl)
        · rw [b3 row hT.2.1 hT.1 hrow hrow, a3 row hT.2.1 hT.1 hrow hrow]
    · rw [j2.2 dA (by intro h; rcases h with h | h | h <;> first | contradiction | exact hne h.symm)]
      exact low j hj
/-- a stack of blocks: height, starts, exponents, SUMS -/
abbrev T4 : Type := Nat × (Nat → Nat) × (Nat → Nat) × (Nat → Nat → Int32)
def tput (T : T4) (s e : Nat) (v : Nat → Int32) : T4 := ((putT T.1 T.2.1 T.2.2.1 T.2.2.2 s e v).1, va_up T.2.1 T.1 s, (putT T.1 T.2.1 T.2.2.1 T.2.2.2 s e v).2.1, (putT T.1 T.2.1 T.2.2.1 T.2.2.2 s e v).2.2)
def BinO (p : Nat) (T : T4) : Prop := BinT p T.1 T.2.1 T.2.2.1
def T40 : T4 := (0, fun _ => 0, fun _ => 0, fun _ _ => 0)
theorem tput_bin {p : Nat} {T : T4} (h : BinO p T) {e : Nat} (hd : 2 ^ e ∣ p) (v : Nat → Int32) : BinO (p + 2 ^ e) (tput T p e v) := put_bin h hd v
def layF (sum : Nat → Nat → Nat → Int32) (b : Nat) : Nat → Nat → T4 → T4
  | 0, _, T => T
  | f + 1, p, T => if p < b then layF sum b f (p + 2 ^ bl p b) (tput T p (bl p b) (sum p (bl p b))) else T
theorem layF_bin (sum : Nat → Nat → Nat → Int32) (b : Nat) : ∀ (f p : Nat) (T : T4), b ≤ p + f → p ≤ b → BinO p T → BinO b (layF sum b f p T)
  | 0, p, T, h, hp, hB => by
    obtain rfl : p = b := by omega
    exact hB
  | f + 1, p, T, h, hp, hB => by
    show BinO b (if p < b then layF sum b f (p + 2 ^ bl p b) (tput T p (bl p b) (sum p (bl p b))) else T)
    by_cases hc : p < b
    · rw [if_pos hc]
      obtain ⟨h1, h2, h3⟩ := bl_ok hc
      have hp1 : 1 ≤ 2 ^ bl p b := Nat.one_le_two_pow
      exact layF_bin sum b f _ _ (by omega) h2 (tput_bin hB h1 _)
    · rw [if_neg hc]
      obtain rfl : p = b := by omega
      exact hB
def TwH (T : T4) (rs rz rm : Nat → Int32) : Prop := TwR T.1 T.2.1 T.2.2.1 T.2.2.2 rs rz rm
/-- the addresses of the reference that lay a LOG's blocks -/
def LgOk (S : Hs) (g : Hg) (m fA zA sA oA W A kA vA dA bA : Nat) : Prop := TmOk S g m fA zA sA oA W A ∧ rdR g m 2 = some kA ∧ rdR g m 3 = some vA ∧ rdR g m 45 = some dA ∧ rdR g m 51 = some bA ∧ hpL S kA = 2400 ∧ hpL S vA = 2400 ∧ hpL S dA = 256 ∧ hpL S bA = 8 ∧ (dA ≠ W ∧ dA ≠ A ∧ kA ≠ W ∧ kA ≠ A ∧ kA ≠ dA ∧ bA ≠ W ∧ bA ≠ A ∧ bA ≠ dA ∧ bA ≠ kA) ∧ (m ≠ dA ∧ m ≠ bA ∧ fA ≠ dA ∧ fA ≠ bA ∧ zA ≠ dA ∧ zA ≠ bA ∧ sA ≠ dA ∧ sA ≠ bA ∧ m ≠ kA ∧ fA ≠ kA ∧ zA ≠ kA ∧ sA ≠ kA)
theorem LgOk.ch {S : Hs} {g g1 : Hg} {m fA zA sA oA W A kA vA dA bA : Nat} (h : LgOk S g m fA zA sA oA W A kA vA dA bA) (hg : g1.2 = g.2) : LgOk S g1 m fA zA sA oA W A kA vA dA bA := by
  have e : ∀ a k, rdR g1 a k = rdR g a k := fun a k => by show g1.2.2 a k = g.2.2 a k; rw [hg]
  obtain ⟨a1, a2, a3, a4, a5, a6⟩ := h
  exact ⟨a1.ch hg, (e _ _).trans a2, (e _ _).trans a3, (e _ _).trans a4, (e _ _).trans a5, a6⟩
theorem m_layLog3 {N : Nat} (hN : 70 ≤ N) {S : Hs} {m fA zA sA oA W A kA vA dA bA lg b : Nat} (key : Nat → Int32) (val : Nat → Int64) (hlg : lg < 6) (hb : b ≤ 400) : ∀ (f n p : Nat) (g : Hg) (T : T4), b ≤ p + f → p ≤ b → f < n → LgOk S g m fA zA sA oA W A kA vA dA bA → BinO p T → rdI g m 49 = nI T.1 → TwH T (g.1 fA) (g.1 zA) (g.1 sA) → (∀ i, i < b → g.1 kA (400 * lg + i) = key i ∧ rdL g vA (400 * lg + i) = val i) →
    ∃ g1, n_X12_layLog_3 N S n g m (nI lg) (nI b) (nI p) = some ((), g1) ∧ Ch (fun x => x = m ∨ x = fA ∨ x = zA ∨ x = sA ∨ x = W ∨ x = A ∨ x = dA ∨ x = bA) g g1 ∧ (∀ k, k ≠ 49 → g1.1 m k = g.1 m k) ∧ rdI g1 m 49 = nI (layF (fun q e => BS key val e q) b f p T).1 ∧ TwH (layF (fun q e => BS key val e q) b f p T) (g1.1 fA) (g1.1 zA) (g1.1 sA) := by
  intro f
  induction f with
  | zero =>
    intro n p g T h1 h2 h3 hL hB h4 H hkv
    obtain ⟨n, rfl⟩ : ∃ z, n = z + 1 := ⟨n - 1, by omega⟩
    obtain rfl : p = b := by omega
    refine ⟨g, ?_, Ch.rf, fun _ _ => rfl, h4, H⟩
    show b_X12_layLog_3 N S (n_X12_layLog_3 N S n) g m (nI lg) (nI p) (nI p) = _
    unfold b_X12_layLog_3
    rw [if_pos (Int32.le_refl _)]
  | succ f ih =>
    intro n p g T h1 h2 h3 hL hB h4 H hkv
    obtain ⟨n, rfl⟩ : ∃ z, n = z + 1 := ⟨n - 1, by omega⟩
    have hstep : n_X12_layLog_3 N S (n + 1) g m (nI lg) (nI b) (nI p) = b_X12_layLog_3 N S (n_X12_layLog_3 N S n) g m (nI lg) (nI b) (nI p) := rfl
    have hlay : layF (fun q e => BS key val e q) b (f + 1) p T = (if p < b then layF (fun q e => BS key val e q) b f (p + 2 ^ bl p b) (tput T p (bl p b) (BS key val (bl p b) p)) else T) := rfl
    by_cases hc : p < b
    · rw [hlay, if_pos hc, hstep]
      obtain ⟨hT, rk, rv, rd, rb, l1, l2, l3, l4, ⟨d1, d2, d3, d4, d5, d6, d7, d8, d9⟩, ⟨n1, n2, n3, n4, n5, n6, n7, n8, n9, n10, n11, n12⟩⟩ := id hL
      obtain ⟨o1, o2, o3⟩ := bl_ok hc
      have hp1 : 1 ≤ 2 ^ bl p b := Nat.one_le_two_pow
      obtain ⟨g1, a1, a2, a3, a4, a5⟩ := m_blockSum (N := N) (show 30 ≤ N by omega) (m := m) (lg := lg) key val l1 l2 l3 d1 d2 d3 d4 d5 hlg (bl p b) 300 g p 0 bA 0 (by omega) (by omega) o3 hT.2.2.2.2.2.2.2.2.1 rk rv rd ⟨d7, d6, by omega, by omega⟩ d9 (fun e => absurd e d8) (by omega) (fun i i1 i2 i3 => hkv i (by omega))
      have e1 : ∀ a k, rdR g1 a k = rdR g a k := fun a k => by show g1.2.2 a k = g.2.2 a k; rw [a2]
      obtain ⟨z1, z2, z3, z4, z5, z6, z7, z8, hM, mf, mz, ms, mo, mW, mA, fz, fs, fo, fW, fa, zs, zo, zW, za, so, sW, sa, oW, oa⟩ := id hT
      have q1 : g1.1 fA = g.1 fA := a3 fA fW fa n3 n4
      have q2 : g1.1 zA = g.1 zA := a3 zA zW za n5 n6
      have q3 : g1.1 sA = g.1 sA := a3 sA sW sa n7 n8
      have q4 : g1.1 m = g.1 m := a3 m mW mA n1 n2
      have q5 : g1.1 kA = g.1 kA := a3 kA d3 d4 d5 (Ne.symm d9)
      have hbin := bin_ex hB (by omega)
      have hh := bin_h hB (by omega)
      have hv : eq8 (seg (g1.1 bA) 0) (BS key val (bl p b) p) := fun j hj => by
        show g1.1 bA (0 + j) = _
        rw [a4 _ (fun e => absurd e d8), putA_in hj]
      obtain ⟨g2, b1, b2, b3, b4, b5⟩ := m_lay hN (g := g1) (h := T.1) (s := p) (e := bl p b) (fr := bA) (p := 0) (st := T.2.1) (ex := T.2.2.1) (sm := T.2.2.2) (v := BS key val (bl p b) p) (x1 := nI p) (x2 := nI (2 ^ bl p b)) (x4 := (0 : Int32)) (hT.ch a2) (by omega) (by show g1.1 m 49 = _; rw [q4]; exact h4) (by rw [q1, q2, q3]; exact H) rfl rfl rfl (by omega) o3 (fun i hi => by have := hbin i hi; omega) (by omega) (by omega) ⟨Ne.symm n4, Ne.symm n6, Ne.symm n8⟩ hv
      have r5 : g2.1 kA = g.1 kA := by rw [b2.2 kA (by intro h; rcases h with h | h | h | h | h | h <;> first | contradiction | exact absurd h.symm (by assumption)), q5]
      have r6 : ∀ k, rdL g2 vA k = rdL g vA k := fun k => by show g2.2.1 vA k = g.2.1 vA k; rw [b2.1, a2]
      obtain ⟨g3, c1, c2', c3, c4, c5⟩ := ih n (p + 2 ^ bl p b) g2 (tput T p (bl p b) (BS key val (bl p b) p)) (by omega) o2 (by omega) (hL.ch (b2.1.trans a2)) (tput_bin hB o1 _) b4 b5 (fun i hi => by rw [r5, r6]; exact hkv i hi)
      refine ⟨g3, ?_, ⟨c2'.1.trans (b2.1.trans a2), fun x hx => ?_⟩, fun k hk => by rw [c3 k hk, b3 k hk, q4], c4, c5⟩
      · unfold b_X12_layLog_3
        rw [if_neg (nI_ge hc (by omega)), m_blockAt (show 30 ≤ N by omega) rfl rfl (by omega) (by omega), c2_S, rb, nn_S]
        have e0 : (0 : Int32) = nI 0 := rfl
        rw [e0, a1, c2_S, e1, rb, nn_S]
        rw [show f_X12_lay N S g1 m (nI p) (nI (2 ^ bl p b)) bA (nI 0) = some ((), g2) from b1, c2_S, nm_D, nI_add]
        exact c1
      · have x1 : x ≠ m := fun e => hx (Or.inl e)
        have x2 : x ≠ fA := fun e => hx (Or.inr (Or.inl e))
        have x3 : x ≠ zA := fun e => hx (Or.inr (Or.inr (Or.inl e)))
        have x4 : x ≠ sA := fun e => hx (Or.inr (Or.inr (Or.inr (Or.inl e))))
        have x5 : x ≠ W := fun e => hx (Or.inr (Or.inr (Or.inr (Or.inr (Or.inl e)))))
        have x6 : x ≠ A := fun e => hx (Or.inr (Or.inr (Or.inr (Or.inr (Or.inr (Or.inl e))))))
        have x7 : x ≠ dA := fun e => hx (Or.inr (Or.inr (Or.inr (Or.inr (Or.inr (Or.inr (Or.inl e)))))))
        have x8 : x ≠ bA := fun e => hx (Or.inr (Or.inr (Or.inr (Or.inr (Or.inr (Or.inr (Or.inr e)))))))
        rw [c2'.2 x hx, b2.2 x (by intro h; rcases h with h | h | h | h | h | h <;> contradiction), a3 x x5 x6 x7 x8]
    · rw [hlay, if_neg hc, hstep]
      obtain rfl : p = b := by omega
      refine ⟨g, ?_, Ch.rf, fun _ _ => rfl, h4, H⟩
      unfold b_X12_layLog_3
      rw [if_pos (Int32.le_refl _)]
/-- layF does not hang on its fuel -/
theorem layF_fuel (sum : Nat → Nat → Nat → Int32) (b : Nat) : ∀ (f f1 p : Nat) (T : T4), b ≤ p + f → b ≤ p + f1 → layF sum b f p T = layF sum b f1 p T
  | 0, 0, _, _, _, _ => rfl
  | 0, f1 + 1, p, T, h, _ => by
    show T = (if p < b then _ else T)
    rw [if_neg (by omega)]
  | f + 1, 0, p, T, _, h => by
    show (if p < b then _ else T) = T
    rw [if_neg (by omega)]
  | f + 1, f1 + 1, p, T, h, h1 => by
    show (if p < b then layF sum b f (p + 2 ^ bl p b) (tput T p (bl p b) (sum p (bl p b))) else T) = (if p < b then layF sum b f1 (p + 2 ^ bl p b) (tput T p (bl p b) (sum p (bl p b))) else T)
    have hp1 : 1 ≤ 2 ^ bl p b := Nat.one_le_two_pow
    by_cases hc : p < b
    · rw [if_pos hc, if_pos hc]
      exact layF_fuel sum b f f1 _ _ (by omega) (by omega)
    · rw [if_neg hc, if_neg hc]
/-- blocks from a to b upon a stack -/
def layT (sum : Nat → Nat → Nat → Int32) (a b : Nat) (T : T4) : T4 := layF sum b (b - a) a T
theorem layT_bin (sum : Nat → Nat → Nat → Int32) {a b : Nat} {T : T4} (h : a ≤ b) (hB : BinO a T) : BinO b (layT sum a b T) := layF_bin sum b (b - a) a T (by omega) h hB
theorem m_layLog {N : Nat} (hN : 500 ≤ N) {S : Hs} {g : Hg} {m fA zA sA oA W A kA vA dA bA lg a b : Nat} {T : T4} {x1 x2 x3 : Int32} (key : Nat → Int32) (val : Nat → Int64) (e1 : x1 = nI lg) (e2 : x2 = nI a) (e3 : x3 = nI b) (hlg : lg < 6) (hab : a ≤ b) (hb : b ≤ 400) (hL : LgOk S g m fA zA sA oA W A kA vA dA bA) (hB : BinO a T) (h4 : rdI g m 49 = nI T.1) (H : TwH T (g.1 fA) (g.1 zA) (g.1 sA)) (hkv : ∀ i, i < b → g.1 kA (400 * lg + i) = key i ∧ rdL g vA (400 * lg + i) = val i) :
    ∃ g1, f_X12_layLog N S g m x1 x2 x3 = some ((), g1) ∧ Ch (fun x => x = m ∨ x = fA ∨ x = zA ∨ x = sA ∨ x = W ∨ x = A ∨ x = dA ∨ x = bA) g g1 ∧ (∀ k, k ≠ 49 → g1.1 m k = g.1 m k) ∧ rdI g1 m 49 = nI (layT (fun q e => BS key val e q) a b T).1 ∧ TwH (layT (fun q e => BS key val e q) a b T) (g1.1 fA) (g1.1 zA) (g1.1 sA) := by
  subst e1; subst e2; subst e3
  exact m_layLog3 (show 70 ≤ N by omega) key val hlg hb (b - a) N a g T (by omega) hab (by omega) hL hB h4 H hkv
/-! the class: a LOG's row of SUMS -/
def lvS (l : Nat) : Nat := [0, 400, 600, 700, 750, 775, 787, 793, 796].getD l 0
theorem lvT_lvS {l : Nat} (h : l < 9) : lvT l = nI (lvS l) := by
  have : l = 0 ∨ l = 1 ∨ l = 2 ∨ l = 3 ∨ l = 4 ∨ l = 5 ∨ l = 6 ∨ l = 7 ∨ l = 8 := by omega
  rcases this with rfl | rfl | rfl | rfl | rfl | rfl | rfl | rfl | rfl <;> rfl
theorem lvS_in {l q : Nat} (h : l < 9) (hq : (q + 1) * 2 ^ l ≤ 400) : lvS l + q < 797 := by
  have : l = 0 ∨ l = 1 ∨ l = 2 ∨ l = 3 ∨ l = 4 ∨ l = 5 ∨ l = 6 ∨ l = 7 ∨ l = 8 := by omega
  rcases this with rfl | rfl | rfl | rfl | rfl | rfl | rfl | rfl | rfl <;> simp [lvS] at hq ⊢ <;> omega
/-- the row holds the SUMS of all full blocks of the first sz entries -/
def SumsR (key : Nat → Int32) (val : Nat → Int64) (sz : Nat) (row : Nat → Int32) : Prop := ∀ l q, l < 9 → (q + 1) * 2 ^ l ≤ sz → eq8 (seg row (8 * (lvS l + q))) (BS key val l (q * 2 ^ l))
theorem shl_1 {e : Nat} (h : e ≤ 8) : (1 : Int32) <<< (nI e &&& 31) = nI (2 ^ e) := by
  have : e = 0 ∨ e = 1 ∨ e = 2 ∨ e = 3 ∨ e = 4 ∨ e = 5 ∨ e = 6 ∨ e = 7 ∨ e = 8 := by omega
  rcases this with rfl | rfl | rfl | rfl | rfl | rfl | rfl | rfl | rfl <;> decide
theorem shr_e {n e : Nat} (hn : n < 2 ^ 31) (h : e ≤ 8) : nI n >>> (nI e &&& 31) = nI (n / 2 ^ e) := by
  have : e = 0 ∨ e = 1 ∨ e = 2 ∨ e = 3 ∨ e = 4 ∨ e = 5 ∨ e = 6 ∨ e = 7 ∨ e = 8 := by omega
  rcases this with rfl | rfl | rfl | rfl | rfl | rfl | rfl | rfl | rfl <;> exact pk_shrN hn _ _ (by decide)
/-- where the SUM of the first block from p to b stands in the row -/
theorem sums_at {key : Nat → Int32} {val : Nat → Int64} {sz p b : Nat} {row : Nat → Int32} (hR : SumsR key val sz row) (hb : b ≤ sz) (hsz : sz ≤ 400) (h : p < b) : lvS (bl p b) + p / 2 ^ bl p b < 797 ∧ eq8 (seg row (8 * (lvS (bl p b) + p / 2 ^ bl p b))) (BS key val (bl p b) p) := by
  obtain ⟨o1, o2, o3⟩ := bl_ok h
  have hp1 : 0 < 2 ^ bl p b := Nat.two_pow_pos _
  obtain ⟨q, hq⟩ := o1
  have hdiv : p / 2 ^ bl p b = q := Nat.div_eq_of_eq_mul_right hp1 hq
  have hm : q * 2 ^ bl p b = p := by rw [Nat.mul_comm]; exact hq.symm
  have hq1 : (q + 1) * 2 ^ bl p b ≤ b := by rw [Nat.succ_mul, hm]; exact o2
  rw [hdiv]
  refine ⟨lvS_in (by omega) (by omega), ?_⟩
  have := hR (bl p b) q (by omega) (by omega)
  rw [hm] at this
  exact this
theorem c_climb5 {N : Nat} (hN : 30 ≤ N) {S : Hs} {lo_ tw stA szA smA mx W A sums b sz : Nat} (key : Nat → Int32) (val : Nat → Int64) (hb : b ≤ sz) (hsz : sz ≤ 400) (hl : hpL S sums = 6376) (d1 : sums ≠ W) (d2 : sums ≠ A) (d3 : sums ≠ stA) (d4 : sums ≠ szA) (d5 : sums ≠ smA) (d6 : sums ≠ tw) : ∀ (f n p : Nat) (g : Hg) (T : T4), b ≤ p + f → p ≤ b → f < n → TwOk S g tw stA szA smA mx W A → rdR g lo_ 5 = some sums → BinO p T → rdI g tw 4 = nI T.1 → TwH T (g.1 stA) (g.1 szA) (g.1 smA) → SumsR key val sz (g.1 sums) →
    ∃ g1, n_X3_climb_5 N S n g lo_ tw (nI b) (nI p) = some ((), g1) ∧ ChU tw stA szA smA W A g g1 ∧ rdI g1 tw 4 = nI (layF (fun q e => BS key val e q) b f p T).1 ∧ TwH (layF (fun q e => BS key val e q) b f p T) (g1.1 stA) (g1.1 szA) (g1.1 smA) := by
  intro f
  induction f with
  | zero =>
    intro n p g T h1 h2 h3 hT hR hB h4 H hS
    obtain ⟨n, rfl⟩ : ∃ z, n = z + 1 := ⟨n - 1, by omega⟩
    obtain rfl : p = b := by omega
    refine ⟨g, ?_, Ch.rf, h4, H⟩
    show b_X3_climb_5 N S (n_X3_climb_5 N S n) g lo_ tw (nI p) (nI p) = _
    unfold b_X3_climb_5
    rw [if_pos (Int32.le_refl _)]
  | succ f ih =>
    intro n p g T h1 h2 h3 hT hR hB h4 H hS
    obtain ⟨n, rfl⟩ : ∃ z, n = z + 1 := ⟨n - 1, by omega⟩
    have hstep : n_X3_climb_5 N S (n + 1) g lo_ tw (nI b) (nI p) = b_X3_climb_5 N S (n_X3_climb_5 N S n) g lo_ tw (nI b) (nI p) := rfl
    have hlay : layF (fun q e => BS key val e q) b (f + 1) p T = (if p < b then layF (fun q e => BS key val e q) b f (p + 2 ^ bl p b) (tput T p (bl p b) (BS key val (bl p b) p)) else T) := rfl
    by_cases hc : p < b
    · rw [hlay, if_pos hc, hstep]
      obtain ⟨o1, o2, o3⟩ := bl_ok hc
      have hp1 : 1 ≤ 2 ^ bl p b := Nat.one_le_two_pow
      have hbin := bin_ex hB (by omega)
      have hh := bin_h hB (by omega)
      obtain ⟨s1, s2⟩ := sums_at hS hb hsz hc
      obtain ⟨g1, a1, a2, a3, a4⟩ := c_put hN (h := T.1) (s := p) (e := bl p b) (fr := sums) (p := lvS (bl p b) + p / 2 ^ bl p b) (st := T.2.1) (ex := T.2.2.1) (sm := T.2.2.2) (v := BS key val (bl p b) p) (x1 := nI p) (x2 := nI (2 ^ bl p b)) (x4 := nI (lvS (bl p b) + p / 2 ^ bl p b)) hT (by omega) h4 H rfl rfl rfl (by omega) o3 (fun i hi => by have := hbin i hi; omega) (by omega) (by omega) ⟨d3, d4⟩ s2
      have e1 : ∀ a k, rdR g1 a k = rdR g a k := fun a k => a2.rdR a k
      have hs1 : g1.1 sums = g.1 sums := a2.2 sums (by intro h; rcases h with h | h | h | h | h | h <;> contradiction)
      obtain ⟨g2, c1, c2', c3, c4⟩ := ih n (p + 2 ^ bl p b) g1 (tput T p (bl p b) (BS key val (bl p b) p)) (by omega) o2 (by omega) (hT.ch a2.1) ((e1 _ _).trans hR) (tput_bin hB o1 _) a3 a4 (by rw [hs1]; exact hS)
      refine ⟨g2, ?_, a2.tr c2', c3, c4⟩
      unfold b_X3_climb_5
      rw [if_neg (nI_ge hc (by omega)), c_blockLevel hN rfl rfl (by omega) (by omega), c2_S, hR, nn_S, inb_nI (show bl p b < 9 by omega) (by decide), ck_T, shl_1 o3, shr_e (by omega) o3, nI_clamp (show bl p b < 2 ^ 31 by omega), lvT_lvS (by omega), nI_add, a1, c2_S, nm_D, nI_add]
      exact c1
    · rw [hlay, if_neg hc, hstep]
      obtain rfl : p = b := by omega
      refine ⟨g, ?_, Ch.rf, h4, H⟩
      unfold b_X3_climb_5
      rw [if_pos (Int32.le_refl _)]
theorem c_climb {N : Nat} (hN : 500 ≤ N) {S : Hs} {g : Hg} {lo_ tw stA szA smA mx W A sums b sz : Nat} {T : T4} {x2 : Int32} (key : Nat → Int32) (val : Nat → Int64) (e2 : x2 = nI b) (hb : b ≤ sz) (hsz : sz ≤ 400) (hl : hpL S sums = 6376) (d1 : sums ≠ W) (d2 : sums ≠ A) (d3 : sums ≠ stA) (d4 : sums ≠ szA) (d5 : sums ≠ smA) (d6 : sums ≠ tw) (hT : TwOk S g tw stA szA smA mx W A) (hR : rdR g lo_ 5 = some sums) (hB : BinO 0 T) (h4 : rdI g tw 4 = nI T.1) (H : TwH T (g.1 stA) (g.1 szA) (g.1 smA)) (hS : SumsR key val sz (g.1 sums)) :
    ∃ g1, f_X3_climb N S g lo_ tw x2 = some ((), g1) ∧ ChU tw stA szA smA W A g g1 ∧ rdI g1 tw 4 = nI (layT (fun q e => BS key val e q) 0 b T).1 ∧ TwH (layT (fun q e => BS key val e q) 0 b T) (g1.1 stA) (g1.1 szA) (g1.1 smA) := by
  subst e2
  exact c_climb5 (show 30 ≤ N by omega) key val hb hsz hl d1 d2 d3 d4 d5 d6 (b - 0) N 0 g T (by omega) (Nat.zero_le _) (by omega) hT hR hB h4 H hS
