/-! lay and top of the reference -/
def TmOk (S : Hs) (g : Hg) (m fA zA sA oA W A : Nat) : Prop := rdR g m 46 = some fA ∧ rdR g m 47 = some zA ∧ rdR g m 48 = some sA ∧ rdR g m 50 = some oA ∧ hpL S fA = 64 ∧ hpL S zA = 64 ∧ hpL S sA = 512 ∧ hpL S oA = 8 ∧ MmOk S g m W A ∧ (m ≠ fA ∧ m ≠ zA ∧ m ≠ sA ∧ m ≠ oA ∧ m ≠ W ∧ m ≠ A ∧ fA ≠ zA ∧ fA ≠ sA ∧ fA ≠ oA ∧ fA ≠ W ∧ fA ≠ A ∧ zA ≠ sA ∧ zA ≠ oA ∧ zA ≠ W ∧ zA ≠ A ∧ sA ≠ oA ∧ sA ≠ W ∧ sA ≠ A ∧ oA ≠ W ∧ oA ≠ A)
theorem TmOk.ch {S : Hs} {g g1 : Hg} {m fA zA sA oA W A : Nat} (h : TmOk S g m fA zA sA oA W A) (hg : g1.2 = g.2) : TmOk S g1 m fA zA sA oA W A := by
  have e : ∀ a k, rdR g1 a k = rdR g a k := fun a k => by show g1.2.2 a k = g.2.2 a k; rw [hg]
  obtain ⟨a1, a2, a3, a4, a5, a6, a7, a8, ⟨b1, b2, b3⟩, a9⟩ := h
  exact ⟨(e _ _).trans a1, (e _ _).trans a2, (e _ _).trans a3, (e _ _).trans a4, a5, a6, a7, a8, ⟨(e _ _).trans b1, (e _ _).trans b2, b3⟩, a9⟩
theorem m_lay68 {N : Nat} (hN : 30 ≤ N) {S : Hs} {m fA zA sA oA W A : Nat} (st : Nat → Nat) : ∀ (last n : Nat) (g : Hg) (ex : Nat → Nat) (sm : Nat → Nat → Int32), last < 64 → last < n → TmOk S g m fA zA sA oA W A → rdI g m 49 = nI (last + 1) → (∀ i, i ≤ last → ex i + (last - i) ≤ 20) → TwR (last + 1) st ex sm (g.1 fA) (g.1 zA) (g.1 sA) →
    ∃ g1, n_X12_lay_68 N S n g m = some ((), g1) ∧ Ch (fun x => x = m ∨ x = zA ∨ x = sA ∨ x = W ∨ x = A) g g1 ∧ (∀ k, k ≠ 49 → g1.1 m k = g.1 m k) ∧ rdI g1 m 49 = nI (fixT (last + 1) st ex sm).1 ∧ TwR (fixT (last + 1) st ex sm).1 st (fixT (last + 1) st ex sm).2.1 (fixT (last + 1) st ex sm).2.2 (g1.1 fA) (g1.1 zA) (g1.1 sA) := by
  intro last
  induction last with
  | zero =>
    intro n g ex sm h1 h2 hT h4 hx H
    obtain ⟨n, rfl⟩ : ∃ z, n = z + 1 := ⟨n - 1, by omega⟩
    refine ⟨g, ?_, Ch.rf, fun _ _ => rfl, h4, H⟩
    show b_X12_lay_68 N S (n_X12_lay_68 N S n) g m = _
    unfold b_X12_lay_68
    rw [h4, if_pos (by decide)]
  | succ l ih =>
    intro n g ex sm h1 h2 hT h4 hx H
    obtain ⟨n, rfl⟩ : ∃ z, n = z + 1 := ⟨n - 1, by omega⟩
    obtain ⟨a1, a2, a3, a4, a5, a6, a7, a8, hM, mf, mz, ms, mo, mW, mA, fz, fs, fo, fW, fa, zs, zo, zW, za, so, sW, sa, oW, oa⟩ := id hT
    have hstep : n_X12_lay_68 N S (n + 1) g m = b_X12_lay_68 N S (n_X12_lay_68 N S n) g m := rfl
    obtain ⟨p1, p2, p3, p4, p5⟩ := H l (by omega)
    obtain ⟨q1, q2, q3, q4, q5⟩ := H (l + 1) (by omega)
    have hp1 := two_pow_lt p5
    have hp2 := two_pow_lt q5
    have s1 : nI (l + 1 + 1) - (1 : Int32) = nI (l + 1) := nI_pred (l + 1)
    have s2 : nI (l + 1 + 1) - (2 : Int32) = nI l := pk_sub (a := l + 2) (b := 2) (by omega)
    have hne0 : ¬ (nI (2 * 2 ^ ex (l + 1)) = 0) := nI_ne0 (by have := Nat.one_le_two_pow (n := ex (l + 1)); omega) (by omega)
    have hpow : 2 * 2 ^ ex (l + 1) = 2 ^ (ex (l + 1) + 1) := by rw [Nat.pow_succ]; omega
    -- the head of the loop, down to the three tests
    have head : ∀ (X : Option (Unit × Hg)), (ex (l + 1) = ex l ∧ st l % 2 ^ (ex l + 1) = 0 → (c2 (f_X12_join N S g m sA (nI (8 * l)) sA (nI (8 * (l + 1))) sA (nI (8 * l))) (fun u_12 g_11 => nn (rdR g_11 m 47) (fun a_13 => ck (inb ((rdI g_11 m 49) - (2 : Int32)) (hpL S a_13)) (ck (inb ((rdI g_11 m 49) - (2 : Int32)) (hpL S a_13)) (nm (wrI g_11 a_13 ((rdI g_11 m 49) - (2 : Int32)).toNatClampNeg ((rdI g_11 a_13 ((rdI g_11 m 49) - (2 : Int32)).toNatClampNeg) * (2 : Int32))) (fun g_14 => nm (wrI g_14 m 49 ((rdI g_14 m 49) - (1 : Int32))) (fun g_15 => n_X12_lay_68 N S n g_15 m))))))) = X) → (¬ (ex (l + 1) = ex l ∧ st l % 2 ^ (ex l + 1) = 0) → some ((), g) = X) → b_X12_lay_68 N S (n_X12_lay_68 N S n) g m = X := by
      intro X hyes hno
      unfold b_X12_lay_68
      rw [h4, if_neg (show ¬ nI (l + 1 + 1) ≤ (1 : Int32) from nI_ge (a := 1) (b := l + 1 + 1) (by omega) (by omega)), s1, s2]
      simp only [a1, a2, a3, nn_S, a5, a6, inb_nI (show l < 64 by omega) (show 64 < 2 ^ 31 by decide), inb_nI (show l + 1 < 64 by omega) (show 64 < 2 ^ 31 by decide), ck_T, nI_clamp (show l < 2 ^ 31 by omega), nI_clamp (show l + 1 < 2 ^ 31 by omega), rdI_def, p1, p2, q2]
      by_cases he : ex (l + 1) = ex l
      · rw [if_pos (by rw [he])]
        simp only [lit, pk_mul]
        rw [show decide (¬ nI (2 * 2 ^ ex (l + 1)) = nI 0) = true from decide_eq_true hne0, ck_T, pk_rem (by omega) (by have := Nat.one_le_two_pow (n := ex (l + 1)); omega) (by omega), hpow]
        by_cases hm : st l % 2 ^ (ex l + 1) = 0
        · rw [if_pos (by rw [he, hm])]
          exact hyes ⟨he, hm⟩
        · have hlt : st l % 2 ^ (ex (l + 1) + 1) < 2 ^ 31 := Nat.lt_of_le_of_lt (Nat.mod_le _ _) (by omega)
          rw [if_neg (show ¬ nI (st l % 2 ^ (ex (l + 1) + 1)) = nI 0 from fun e => hm (by rw [← he]; exact (nI_eq hlt (by decide)).mp e))]
          exact hno (fun h => hm h.2)
      · rw [if_neg (show ¬ nI (2 ^ ex (l + 1)) = nI (2 ^ ex l) from fun e => he ((Nat.pow_right_inj (by decide)).mp ((nI_eq (by omega) (by omega)).mp e)))]
        exact hno (fun h => he h.1)
    by_cases hc : ex (l + 1) = ex l ∧ st l % 2 ^ (ex l + 1) = 0
    · have hexl : ex l + 1 ≤ 20 := by have := hx l (by omega); omega
      have hfix : fixT (l + 1 + 1) st ex sm = fixT (l + 1) st (va_up ex l (ex l + 1)) (va_up sm l (JOIN (sm l) (sm (l + 1)))) := by
        show (if ex (l + 1) = ex l ∧ st l % 2 ^ (ex l + 1) = 0 then _ else _) = _
        rw [if_pos hc]
      obtain ⟨g1, j1, j2, j3⟩ := m_join hN (g := g) (a := sA) (b := sA) (p := 8 * l) (q_ := 8 * (l + 1)) (row := sA) (at_ := 8 * l) hM ⟨sa, sW, by omega, by omega⟩ sW sW (by omega) (by omega) (by omega) (by omega) (x2 := nI (8 * l)) (x4 := nI (8 * (l + 1))) (x6 := nI (8 * l)) rfl rfl rfl
      have t1 : g1.1 zA = g.1 zA := j2.2 zA (by intro h; rcases h with h | h | h <;> first | exact zW h | exact za h | exact zs h)
      have t2 : g1.1 fA = g.1 fA := j2.2 fA (by intro h; rcases h with h | h | h <;> first | exact fW h | exact fa h | exact fs h)
      have t3 : g1.1 m = g.1 m := j2.2 m (by intro h; rcases h with h | h | h <;> first | exact mW h | exact mA h | exact ms h)
      have e1 : ∀ a k, rdR g1 a k = rdR g a k := fun a k => j2.rdR a k
      have hrow := H.join hexl (v := JOIN (seg (g.1 sA) (8 * l)) (seg (g.1 sA) (8 * (l + 1)))) (JOIN_congr p3 q3)
      let g3 : Hg := rowI (rowI g1 zA (upd (g1.1 zA) l (nI (2 ^ (ex l + 1))))) m (upd (g1.1 m) 49 (nI (l + 1)))
      have hg3 : g3.2 = g.2 := j2.1
      have r1 : g3.1 fA = g.1 fA := by show (rowI _ m _).1 fA = _; rw [rowI_ne _ _ (Ne.symm mf), rowI_ne _ _ fz, t2]
      have r2 : g3.1 zA = upd (g.1 zA) l (nI (2 ^ (ex l + 1))) := by show (rowI _ m _).1 zA = _; rw [rowI_ne _ _ (Ne.symm mz), rowI_same, t1]
      have r3 : g3.1 sA = putA (g.1 sA) (8 * l) (JOIN (seg (g.1 sA) (8 * l)) (seg (g.1 sA) (8 * (l + 1)))) := by show (rowI _ m _).1 sA = _; rw [rowI_ne _ _ (Ne.symm ms), rowI_ne _ _ (Ne.symm zs), j3]
      have r4 : g3.1 m = upd (g.1 m) 49 (nI (l + 1)) := by show (rowI _ m _).1 m = _; rw [rowI_same, t3]
      obtain ⟨g4, k1, k2, k5, k3, k4⟩ := ih n g3 (va_up ex l (ex l + 1)) (va_up sm l (JOIN (sm l) (sm (l + 1)))) (by omega) (by omega) (hT.ch hg3) (by
          show g3.1 m 49 = _
          rw [r4]; simp [upd]) (fun i hi => by
          by_cases he : i = l
          · subst he; simp [va_up]; omega
          · have := hx i (by omega); simp [va_up, he]; omega) (by rw [r1, r2, r3]; exact hrow)
      refine ⟨g4, ?_, ⟨k2.1.trans hg3, fun b hb => ?_⟩, fun k hk => ?_, by rw [hfix]; exact k3, by rw [hfix]; exact k4⟩
      · rw [hstep]
        refine head _ (fun _ => ?_) (fun hn => absurd hc hn)
        have u1 : rdI g1 m 49 = nI (l + 1 + 1) := by show g1.1 m 49 = _; rw [t3]; exact h4
        rw [j1, c2_S, e1, a2, nn_S, u1, s2, a6, inb_nI (show l < 64 by omega) (by decide), ck_T, ck_T, nI_clamp (show l < 2 ^ 31 by omega)]
        simp only [nm_D, wrI_row]
        have hmul : rdI g1 zA l * (2 : Int32) = nI (2 ^ (ex l + 1)) := by
          show g1.1 zA l * 2 = _
          rw [t1, p2, lit, pk_mul, Nat.pow_succ]
        rw [hmul]
        have u2 : rdI (rowI g1 zA (upd (g1.1 zA) l (nI (2 ^ (ex l + 1))))) m 49 - (1 : Int32) = nI (l + 1) := by
          show (rowI _ zA _).1 m 49 - 1 = _
          rw [rowI_ne _ _ mz]
          show rdI g1 m 49 - 1 = _
          rw [u1]; exact s1
        rw [u2, rowI_ne _ _ mz]
        exact k1
      · rw [k2.2 b hb]
        show (rowI _ m _).1 b = _
        rw [rowI_ne _ _ (fun e => hb (Or.inl e)), rowI_ne _ _ (fun e => hb (Or.inr (Or.inl e))), j2.2 b (by
          intro h
          rcases h with h | h | h
          · exact hb (Or.inr (Or.inr (Or.inr (Or.inl h))))
          · exact hb (Or.inr (Or.inr (Or.inr (Or.inr h))))
          · exact hb (Or.inr (Or.inr (Or.inl h))))]
      · rw [k5 k hk, r4]
        simp [upd, hk]
    · have hfix : fixT (l + 1 + 1) st ex sm = (l + 1 + 1, ex, sm) := by
        show (if ex (l + 1) = ex l ∧ st l % 2 ^ (ex l + 1) = 0 then _ else _) = _
        rw [if_neg hc]
      rw [hfix]
      refine ⟨g, ?_, Ch.rf, fun _ _ => rfl, h4, H⟩
      rw [hstep]
      exact head _ (fun h => absurd h hc) (fun _ => rfl)
theorem m_lay23 (N : Nat) (S : Hs) (m sA fr p h : Nat) (hL : hpL S sA = 512) (hh : h < 64) (hfr : p + 8 ≤ hpL S fr) (hfr2 : hpL S fr < 2 ^ 31) (hne : fr ≠ sA) (hms : m ≠ sA) : ∀ (i n : Nat) (g : Hg), i ≤ 8 → i < n → rdR g m 48 = some sA → rdI g m 49 = nI h → (∀ j, j < 8 - i → g.1 sA (8 * h + j) = g.1 fr (p + j)) → n_X12_lay_23 N S n g m fr (nI p) (nI (8 - i)) = n_X12_lay_68 N S N (rowI (rowI g sA (putA (g.1 sA) (8 * h) (seg (g.1 fr) p))) m (upd (g.1 m) 49 (nI (h + 1)))) m := by
  intro i
  induction i with
  | zero =>
    intro n g h1 h2 hR h4 hP
    obtain ⟨n, rfl⟩ : ∃ z, n = z + 1 := ⟨n - 1, by omega⟩
    show b_X12_lay_23 N S (n_X12_lay_23 N S n) g m fr (nI p) (nI 8) = _
    unfold b_X12_lay_23
    rw [if_pos (by decide)]
    have : putA (g.1 sA) (8 * h) (seg (g.1 fr) p) = g.1 sA := by
      funext j
      unfold putA seg
      by_cases hc : 8 * h ≤ j ∧ j < 8 * h + 8
      · rw [if_pos hc]
        have := hP (j - 8 * h) (by omega)
        rw [show 8 * h + (j - 8 * h) = j by omega] at this
        exact this.symm
      · rw [if_neg hc]
    rw [this, rowI_self]
    simp only [nm_D, wrI_row, h4, nI_1]
  | succ i ih =>
    intro n g h1 h2 hR h4 hP
    obtain ⟨n, rfl⟩ : ∃ z, n = z + 1 := ⟨n - 1, by omega⟩
    show b_X12_lay_23 N S (n_X12_lay_23 N S n) g m fr (nI p) (nI (8 - (i + 1))) = _
    have e7 : 8 - (i + 1) = 7 - i := by omega
    rw [e7] at hP ⊢
    have e8 : 7 - i + 1 = 8 - i := by omega
    generalize hjj : 7 - i = j at e8 hP ⊢
    have hj : j < 8 := by omega
    unfold b_X12_lay_23
    rw [if_neg (show ¬ ((8 : Int32) ≤ nI j) from nI_ge (a := j) (b := 8) hj (by decide))]
    simp only [hR, nn_S, nm_D, h4, lit, pk_mul, nI_add, hL, inb_nI (show p + j < hpL S fr by omega) hfr2, inb_nI (show 8 * h + j < 512 by omega) (show 512 < 2 ^ 31 by decide), ck_T, wrI_row, nI_clamp (show p + j < 2 ^ 31 by omega), nI_clamp (show 8 * h + j < 2 ^ 31 by omega), rdI_def]
    rw [e8]
    have key := ih n (rowI g sA (upd (g.1 sA) (8 * h + j) (g.1 fr (p + j)))) (by omega) (by omega) hR (by
      show (rowI _ sA _).1 m 49 = _
      rw [rowI_ne _ _ hms]; exact h4) (fun k hk => by
      rw [rowI_same, rowI_ne g _ hne]
      by_cases hkk : k = j
      · subst hkk; simp [upd]
      · rw [show upd (g.1 sA) (8 * h + j) (g.1 fr (p + j)) (8 * h + k) = g.1 sA (8 * h + k) by simp [upd]; omega]
        exact hP k (by omega))
    rw [key, rowI_rowI, rowI_same, rowI_ne g _ hne, rowI_ne g _ hms]
    congr 3
    funext k
    unfold putA
    by_cases hc : 8 * h ≤ k ∧ k < 8 * h + 8
    · rw [if_pos hc, if_pos hc]
    · rw [if_neg hc, if_neg hc]
      simp [upd]
      intro e
      omega
theorem m_lay {N : Nat} (hN : 70 ≤ N) {S : Hs} {g : Hg} {m fA zA sA oA W A h s e fr p : Nat} {st ex : Nat → Nat} {sm : Nat → Nat → Int32} {v : Nat → Int32} {x1 x2 x4 : Int32} (hT : TmOk S g m fA zA sA oA W A) (hh : h < 20) (h4 : rdI g m 49 = nI h) (H : TwR h st ex sm (g.1 fA) (g.1 zA) (g.1 sA)) (e1 : x1 = nI s) (e2 : x2 = nI (2 ^ e)) (e4 : x4 = nI p) (hs : s < 2 ^ 20) (he : e ≤ 8) (hx : ∀ i, i < h → ex i + (h - i) ≤ 20) (hf : p + 8 ≤ hpL S fr) (hf2 : hpL S fr < 2 ^ 31) (hne : fr ≠ fA ∧ fr ≠ zA ∧ fr ≠ sA) (hv : eq8 (seg (g.1 fr) p) v) :
    ∃ g1, f_X12_lay N S g m x1 x2 fr x4 = some ((), g1) ∧ Ch (fun x => x = m ∨ x = fA ∨ x = zA ∨ x = sA ∨ x = W ∨ x = A) g g1 ∧ (∀ k, k ≠ 49 → g1.1 m k = g.1 m k) ∧ rdI g1 m 49 = nI (putT h st ex sm s e v).1 ∧ TwR (putT h st ex sm s e v).1 (va_up st h s) (putT h st ex sm s e v).2.1 (putT h st ex sm s e v).2.2 (g1.1 fA) (g1.1 zA) (g1.1 sA) := by
  subst e1; subst e2; subst e4
  obtain ⟨a1, a2, a3, a4, a5, a6, a7, a8, hM, mf, mz, ms, mo, mW, mA, fz, fs, fo, fW, fa, zs, zo, zW, za, so, sW, sa, oW, oa⟩ := id hT
  obtain ⟨hn1, hn2, hn3⟩ := hne
  let g1 : Hg := rowI (rowI g fA (upd (g.1 fA) h (nI s))) zA (upd (g.1 zA) h (nI (2 ^ e)))
  have r0 : g1.1 fr = g.1 fr := by show (rowI _ zA _).1 fr = _; rw [rowI_ne _ _ hn2, rowI_ne _ _ hn1]
  have r1 : g1.1 sA = g.1 sA := by show (rowI _ zA _).1 sA = _; rw [rowI_ne _ _ (Ne.symm zs), rowI_ne _ _ (Ne.symm fs)]
  have r2 : g1.1 m = g.1 m := by show (rowI _ zA _).1 m = _; rw [rowI_ne _ _ mz, rowI_ne _ _ mf]
  have u1 : rdI g1 m 49 = nI h := by show g1.1 m 49 = _; rw [r2]; exact h4
  have hc := m_lay23 N S m sA fr p h a7 (by omega) hf hf2 hn3 ms 8 N g1 (by omega) (by omega) a3 u1 (fun j hj => absurd hj (by omega))
  rw [r0, r1, r2] at hc
  let g3 : Hg := rowI (rowI g1 sA (putA (g.1 sA) (8 * h) (seg (g.1 fr) p))) m (upd (g.1 m) 49 (nI (h + 1)))
  have q1 : g3.1 fA = upd (g.1 fA) h (nI s) := by
    show (rowI _ m _).1 fA = _; rw [rowI_ne _ _ (Ne.symm mf), rowI_ne _ _ fs]; show (rowI _ zA _).1 fA = _; rw [rowI_ne _ _ fz, rowI_same]
  have q2 : g3.1 zA = upd (g.1 zA) h (nI (2 ^ e)) := by
    show (rowI _ m _).1 zA = _; rw [rowI_ne _ _ (Ne.symm mz), rowI_ne _ _ zs]; show (rowI _ zA _).1 zA = _; rw [rowI_same]
  have q3 : g3.1 sA = putA (g.1 sA) (8 * h) (seg (g.1 fr) p) := by
    show (rowI _ m _).1 sA = _; rw [rowI_ne _ _ (Ne.symm ms), rowI_same]
  have q4 : g3.1 m = upd (g.1 m) 49 (nI (h + 1)) := by show (rowI _ m _).1 m = _; rw [rowI_same]
  obtain ⟨g4, k1, k2, k5, k3, k4⟩ := m_lay68 (show 30 ≤ N by omega) (va_up st h s) h N g3 (va_up ex h e) (va_up sm h v) (by omega) (by omega) (hT.ch rfl) (by
    show g3.1 m 49 = _
    rw [q4]; simp [upd]) (fun i hi => by
    by_cases hih : i = h
    · subst hih; simp [va_up]; omega
    · have := hx i (by omega); simp [va_up, hih]; omega) (by rw [q1, q2, q3]; exact H.push hs (by omega) hv)
  refine ⟨g4, ?_, ⟨k2.1, fun b hb => ?_⟩, fun k hk => ?_, k3, k4⟩
  · show b_X12_lay_0 N S g m (nI s) (nI (2 ^ e)) fr (nI p) = _
    unfold b_X12_lay_0
    rw [h4]
    simp only [a1, a2, nn_S, a5, a6, inb_nI (show h < 64 by omega) (show 64 < 2 ^ 31 by decide), ck_T, nm_D, wrI_row, nI_clamp (show h < 2 ^ 31 by omega), rdR_rowI]
    have s1 : rdI (rowI g fA (upd (g.1 fA) h (nI s))) m 49 = nI h := by
      show (rowI _ fA _).1 m 49 = _
      rw [rowI_ne _ _ mf]; exact h4
    rw [s1, inb_nI (show h < 64 by omega) (by decide), ck_T, nI_clamp (show h < 2 ^ 31 by omega), rowI_ne g _ (Ne.symm fz)]
    refine Eq.trans hc k1
  · have n1 : b ≠ m := fun e => hb (Or.inl e)
    have n2 : b ≠ fA := fun e => hb (Or.inr (Or.inl e))
    have n3 : b ≠ zA := fun e => hb (Or.inr (Or.inr (Or.inl e)))
    have n4 : b ≠ sA := fun e => hb (Or.inr (Or.inr (Or.inr (Or.inl e))))
    have n5 : b ≠ W := fun e => hb (Or.inr (Or.inr (Or.inr (Or.inr (Or.inl e)))))
    have n6 : b ≠ A := fun e => hb (Or.inr (Or.inr (Or.inr (Or.inr (Or.inr e)))))
    rw [k2.2 b (by intro h; rcases h with h | h | h | h | h <;> contradiction)]
    show (rowI _ m _).1 b = _
    rw [rowI_ne _ _ n1, rowI_ne _ _ n4]
    show (rowI _ zA _).1 b = _
    rw [rowI_ne _ _ n3, rowI_ne _ _ n2]
  · rw [k5 k hk, q4]
    simp [upd, hk]
theorem m_top105 (N : Nat) (S : Hs) (m oA row at_ : Nat) (hL : hpL S oA = 8) (hro : row ≠ oA) (hat : at_ + 8 ≤ hpL S row) (hlen : hpL S row < 2 ^ 31) : ∀ (i n : Nat) (g : Hg), i ≤ 8 → i < n → rdR g m 50 = some oA → (∀ j, j < 8 - i → g.1 row (at_ + j) = g.1 oA j) → n_X12_top_105 N S n g m row (nI at_) (nI (8 - i)) = some ((), rowI g row (putA (g.1 row) at_ (g.1 oA))) := by
  intro i
  induction i with
  | zero =>
    intro n g h1 h2 hR hP
    obtain ⟨n, rfl⟩ : ∃ z, n = z + 1 := ⟨n - 1, by omega⟩
    show b_X12_top_105 N S (n_X12_top_105 N S n) g m row (nI at_) (nI 8) = _
    unfold b_X12_top_105
    rw [if_pos (by decide)]
    have : putA (g.1 row) at_ (g.1 oA) = g.1 row := by
      funext j
      unfold putA
      by_cases hc : at_ ≤ j ∧ j < at_ + 8
      · rw [if_pos hc]
        have := hP (j - at_) (by omega)
        rw [show at_ + (j - at_) = j by omega] at this
        exact this.symm
      · rw [if_neg hc]
    rw [this, rowI_self]
  | succ i ih =>
    intro n g h1 h2 hR hP
    obtain ⟨n, rfl⟩ : ∃ z, n = z + 1 := ⟨n - 1, by omega⟩
    show b_X12_top_105 N S (n_X12_top_105 N S n) g m row (nI at_) (nI (8 - (i + 1))) = _
    have e7 : 8 - (i + 1) = 7 - i := by omega
    rw [e7] at hP ⊢
    have e8 : 7 - i + 1 = 8 - i := by omega
    generalize hjj : 7 - i = j at e8 hP ⊢
    have hj : j < 8 := by omega
    unfold b_X12_top_105
    rw [if_neg (show ¬ ((8 : Int32) ≤ nI j) from nI_ge (a := j) (b := 8) hj (by decide))]
    simp only [hR, nn_S, nm_D, hL, inb_nI hj (show 8 < 2 ^ 31 by decide), nI_add, inb_nI (show at_ + j < hpL S row by omega) hlen, ck_T, wrI_row, nI_clamp (show j < 2 ^ 31 by omega), nI_clamp (show at_ + j < 2 ^ 31 by omega), nI_1, rdI_def]
    rw [e8]
    have key := ih n (rowI g row (upd (g.1 row) (at_ + j) (g.1 oA j))) (by omega) (by omega) hR (fun k hk => by
      rw [rowI_same, rowI_ne g _ (Ne.symm hro)]
      by_cases hkk : k = j
      · subst hkk; simp [upd]
      · rw [show upd (g.1 row) (at_ + j) (g.1 oA j) (at_ + k) = g.1 row (at_ + k) by simp [upd]; omega]
        exact hP k (by omega))
    rw [key, rowI_rowI, rowI_same, rowI_ne g _ (Ne.symm hro)]
    congr 3
    funext k
    unfold putA
    by_cases hc : at_ ≤ k ∧ k < at_ + 8
    · rw [if_pos hc, if_pos hc]
    · rw [if_neg hc, if_neg hc]
      simp [upd]
      intro e
      omega
theorem m_top71 {N : Nat} (hN : 70 ≤ N) {S : Hs} {m fA zA sA oA W A row at_ : Nat} (hro : row ≠ oA) (hat : at_ + 8 ≤ hpL S row) (hlen : hpL S row < 2 ^ 31) : ∀ (k n : Nat) (g : Hg), k ≤ 20 → k < n → TmOk S g m fA zA sA oA W A →
    ∃ g1 u, n_X12_top_71 N S n g m row (nI at_) (nI k - 1) = some ((), rowI g1 row (putA (g1.1 row) at_ u)) ∧ Ch3 W A oA g g1 ∧ eq8 u (topF (fun i => seg (g.1 sA) (8 * i)) k (g.1 oA)) := by
  intro k
  induction k with
  | zero =>
    intro n g h1 h2 hT
    obtain ⟨n, rfl⟩ : ∃ z, n = z + 1 := ⟨n - 1, by omega⟩
    obtain ⟨a1, a2, a3, a4, a5, a6, a7, a8, hM, -⟩ := id hT
    refine ⟨g, g.1 oA, ?_, Ch.rf, eq8.rf⟩
    show b_X12_top_71 N S (n_X12_top_71 N S n) g m row (nI at_) (nI 0 - 1) = _
    unfold b_X12_top_71
    rw [if_pos (by decide)]
    exact m_top105 N S m oA row at_ a8 hro hat hlen 8 N g (by omega) (by omega) a4 (fun j hj => absurd hj (by omega))
  | succ k ih =>
    intro n g h1 h2 hT
    obtain ⟨n, rfl⟩ : ∃ z, n = z + 1 := ⟨n - 1, by omega⟩
    obtain ⟨a1, a2, a3, a4, a5, a6, a7, a8, hM, mf, mz, ms, mo, mW, mA, fz, fs, fo, fW, fa, zs, zo, zW, za, so, sW, sa, oW, oa⟩ := id hT
    obtain ⟨g1, j1, j2, j3⟩ := m_join (show 30 ≤ N by omega) (g := g) (a := sA) (b := oA) (p := 8 * k) (q_ := 0) (row := oA) (at_ := 0) hM ⟨oa, oW, by omega, by omega⟩ sW oW (by omega) (by omega) (by omega) (by omega) (x2 := nI (8 * k)) (x4 := (0 : Int32)) (x6 := (0 : Int32)) rfl rfl rfl
    obtain ⟨g2, u, k1, k2, k3⟩ := ih n g1 (by omega) (by omega) (hT.ch j2.1)
    have s1 : g1.1 sA = g.1 sA := j2.2 sA (by intro h; rcases h with h | h | h <;> first | exact sW h | exact sa h | exact so h)
    refine ⟨g2, u, ?_, j2.tr k2, ?_⟩
    · show b_X12_top_71 N S (n_X12_top_71 N S n) g m row (nI at_) (nI (k + 1) - 1) = _
      unfold b_X12_top_71
      rw [nI_pred, if_neg (nI_pos (by omega))]
      simp only [a3, a4, nn_S]
      rw [show (8 : Int32) * nI k = nI (8 * k) from pk_mul 8 k, j1, c2_S, nm_D, show nI k + (-1 : Int32) = nI k - 1 from (Int32.sub_eq_add_neg _ _).symm]
      exact k1
    · rw [s1] at k3
      refine k3.tr ?_
      show eq8 (topF (fun i => seg (g.1 sA) (8 * i)) k (g1.1 oA)) (topF (fun i => seg (g.1 sA) (8 * i)) k (JOIN (seg (g.1 sA) (8 * k)) (g.1 oA)))
      refine topF_congr k (fun _ _ => eq8.rf) ?_
      rw [j3]
      intro j hj
      have h0 := putA_in (row := g.1 oA) (v := JOIN (seg (g.1 sA) (8 * k)) (seg (g.1 oA) 0)) (at_ := 0) hj
      rw [Nat.zero_add] at h0
      rw [h0]
      exact JOIN_congr eq8.rf (fun i hi => by simp [seg]) j hj
theorem m_top30 (N : Nat) (hN : 70 ≤ N) (S : Hs) (m fA zA sA oA W A row : Nat) (x2 : Int32) (k : Nat) (hk : k < 20) : ∀ (i n : Nat) (g : Hg), i ≤ 8 → i < n → TmOk S g m fA zA sA oA W A → rdI g m 49 = nI (k + 1) → (∀ j, j < 8 - i → g.1 oA j = g.1 sA (8 * k + j)) → n_X12_top_30 N S n g m row x2 (nI (8 - i)) = n_X12_top_71 N S N (rowI g oA (putA (g.1 oA) 0 (seg (g.1 sA) (8 * k)))) m row x2 (nI k - 1) := by
  intro i
  induction i with
  | zero =>
    intro n g h1 h2 hT h4 hP
    obtain ⟨n, rfl⟩ : ∃ z, n = z + 1 := ⟨n - 1, by omega⟩
    show b_X12_top_30 N S (n_X12_top_30 N S n) g m row x2 (nI 8) = _
    unfold b_X12_top_30
    rw [if_pos (by decide), nm_D, h4]
    have : putA (g.1 oA) 0 (seg (g.1 sA) (8 * k)) = g.1 oA := by
      funext j
      unfold putA seg
      by_cases hc : 0 ≤ j ∧ j < 0 + 8
      · rw [if_pos hc]
        exact (hP j (by omega)).symm
      · rw [if_neg hc]
    rw [this, rowI_self]
    have e : nI (k + 1) - (2 : Int32) = nI k - 1 := by
      rw [nI_succ]
      have : (2 : Int32) = 1 + 1 := by decide
      rw [this, Int32.sub_eq_add_neg, Int32.sub_eq_add_neg, Int32.neg_add, Int32.add_assoc]
      congr 1
    rw [e]
  | succ i ih =>
    intro n g h1 h2 hT h4 hP
    obtain ⟨n, rfl⟩ : ∃ z, n = z + 1 := ⟨n - 1, by omega⟩
    obtain ⟨a1, a2, a3, a4, a5, a6, a7, a8, hM, mf, mz, ms, mo, mW, mA, fz, fs, fo, fW, fa, zs, zo, zW, za, so, sW, sa, oW, oa⟩ := id hT
    show b_X12_top_30 N S (n_X12_top_30 N S n) g m row x2 (nI (8 - (i + 1))) = _
    have e7 : 8 - (i + 1) = 7 - i := by omega
    rw [e7] at hP ⊢
    have e8 : 7 - i + 1 = 8 - i := by omega
    generalize hjj : 7 - i = j at e8 hP ⊢
    have hj : j < 8 := by omega
    unfold b_X12_top_30
    rw [if_neg (show ¬ ((8 : Int32) ≤ nI j) from nI_ge (a := j) (b := 8) hj (by decide))]
    have hs : nI (k + 1) - (1 : Int32) = nI k := nI_pred k
    have hm8 : (8 : Int32) * nI k = nI (8 * k) := pk_mul 8 k
    simp only [a3, a4, nn_S, nm_D, h4, hs, hm8, nI_add, a7, a8, inb_nI (show 8 * k + j < 512 by omega) (show 512 < 2 ^ 31 by decide), inb_nI hj (show 8 < 2 ^ 31 by decide), ck_T, wrI_row, nI_clamp (show 8 * k + j < 2 ^ 31 by omega), nI_clamp (show j < 2 ^ 31 by omega), nI_1, rdI_def]
    rw [e8]
    have key := ih n (rowI g oA (upd (g.1 oA) j (g.1 sA (8 * k + j)))) (by omega) (by omega) (hT.ch rfl) (by
      show (rowI _ oA _).1 m 49 = _
      rw [rowI_ne _ _ mo]; exact h4) (fun l hl => by
      rw [rowI_same, rowI_ne g _ so]
      by_cases hll : l = j
      · subst hll; simp [upd]
      · rw [show upd (g.1 oA) j (g.1 sA (8 * k + j)) l = g.1 oA l by simp [upd, hll]]
        exact hP l (by omega))
    rw [key, rowI_rowI, rowI_same, rowI_ne g _ so]
    congr 2
    have : putA (upd (g.1 oA) j (g.1 sA (8 * k + j))) 0 (seg (g.1 sA) (8 * k)) = putA (g.1 oA) 0 (seg (g.1 sA) (8 * k)) := by
      funext l
      unfold putA
      by_cases hc : 0 ≤ l ∧ l < 0 + 8
      · rw [if_pos hc, if_pos hc]
      · rw [if_neg hc, if_neg hc]
        simp [upd]
        intro e
        omega
    rw [this]
theorem m_top2 (N : Nat) (S : Hs) (m row at_ : Nat) (hat : at_ + 8 ≤ hpL S row) (hlen : hpL S row < 2 ^ 31) : ∀ (i n : Nat) (g : Hg), i ≤ 8 → i < n → (∀ j, j < 8 - i → g.1 row (at_ + j) = 0) → n_X12_top_2 N S n g m row (nI at_) (nI (8 - i)) = (if rdI (rowI g row (putA (g.1 row) at_ NOUGHT)) m 49 = 0 then some ((), rowI g row (putA (g.1 row) at_ NOUGHT)) else n_X12_top_30 N S N (rowI g row (putA (g.1 row) at_ NOUGHT)) m row (nI at_) 0) := by
  intro i
  induction i with
  | zero =>
    intro n g h1 h2 hP
    obtain ⟨n, rfl⟩ : ∃ z, n = z + 1 := ⟨n - 1, by omega⟩
    have : putA (g.1 row) at_ NOUGHT = g.1 row := by
      funext j
      unfold putA
      by_cases hc : at_ ≤ j ∧ j < at_ + 8
      · rw [if_pos hc]
        have := hP (j - at_) (by omega)
        rw [show at_ + (j - at_) = j by omega] at this
        exact this.symm
      · rw [if_neg hc]
    rw [this, rowI_self]
    show b_X12_top_2 N S (n_X12_top_2 N S n) g m row (nI at_) (nI 8) = _
    unfold b_X12_top_2
    rw [if_pos (by decide)]
  | succ i ih =>
    intro n g h1 h2 hP
    obtain ⟨n, rfl⟩ : ∃ z, n = z + 1 := ⟨n - 1, by omega⟩
    show b_X12_top_2 N S (n_X12_top_2 N S n) g m row (nI at_) (nI (8 - (i + 1))) = _
    have e7 : 8 - (i + 1) = 7 - i := by omega
    rw [e7] at hP ⊢
    have e8 : 7 - i + 1 = 8 - i := by omega
    generalize hjj : 7 - i = j at e8 hP ⊢
    have hj : j < 8 := by omega
    unfold b_X12_top_2
    rw [if_neg (show ¬ ((8 : Int32) ≤ nI j) from nI_ge (a := j) (b := 8) hj (by decide))]
    simp only [nm_D, nI_add, inb_nI (show at_ + j < hpL S row by omega) hlen, ck_T, wrI_row, nI_clamp (show at_ + j < 2 ^ 31 by omega), nI_1]
    rw [e8, ih n (rowI g row (upd (g.1 row) (at_ + j) 0)) (by omega) (by omega) (fun k hk => by
      rw [rowI_same]
      by_cases hkk : k = j
      · subst hkk; simp [upd]
      · rw [show upd (g.1 row) (at_ + j) 0 (at_ + k) = g.1 row (at_ + k) by simp [upd]; omega]
        exact hP k (by omega)), rowI_rowI, rowI_same]
    have : putA (upd (g.1 row) (at_ + j) 0) at_ NOUGHT = putA (g.1 row) at_ NOUGHT := by
      funext k
      unfold putA
      by_cases hc : at_ ≤ k ∧ k < at_ + 8
      · rw [if_pos hc, if_pos hc]
      · rw [if_neg hc, if_neg hc]
        simp [upd]
        intro e
        omega
    rw [this]
theorem m_top {N : Nat} (hN : 70 ≤ N) {S : Hs} {g : Hg} {m fA zA sA oA W A row at_ h : Nat} {st ex : Nat → Nat} {sm : Nat → Nat → Int32} {x2 : Int32} (hT : TmOk S g m fA zA sA oA W A) (hh : h ≤ 20) (h4 : rdI g m 49 = nI h) (H : TwR h st ex sm (g.1 fA) (g.1 zA) (g.1 sA)) (e2 : x2 = nI at_) (hat : at_ + 8 ≤ hpL S row) (hlen : hpL S row < 2 ^ 31) (hr : row ≠ m ∧ row ≠ fA ∧ row ≠ zA ∧ row ≠ sA ∧ row ≠ oA ∧ row ≠ W ∧ row ≠ A) :
    ∃ g1, f_X12_top N S g m row x2 = some ((), g1) ∧ Ch (fun x => x = row ∨ x = oA ∨ x = W ∨ x = A) g g1 ∧ g1.1 row = putA (g.1 row) at_ (topT h sm) := by
  subst e2
  obtain ⟨r1, r2, r3, r4, r5, r6, r7⟩ := hr
  obtain ⟨a1, a2, a3, a4, a5, a6, a7, a8, hM, mf, mz, ms, mo, mW, mA, fz, fs, fo, fW, fa, zs, zo, zW, za, so, sW, sa, oW, oa⟩ := id hT
  have key := m_top2 N S m row at_ hat hlen 8 N g (by omega) (by omega) (fun j hj => absurd hj (by omega))
  have u1 : rdI (rowI g row (putA (g.1 row) at_ NOUGHT)) m 49 = nI h := by
    show (rowI _ row _).1 m 49 = _
    rw [rowI_ne _ _ (Ne.symm r1)]; exact h4
  have hst : f_X12_top N S g m row (nI at_) = n_X12_top_2 N S N g m row (nI at_) (nI (8 - 8)) := rfl
  rw [hst, key, u1]
  by_cases h0 : h = 0
  · subst h0
    rw [if_pos (by decide)]
    exact ⟨_, rfl, ⟨rfl, fun b hb => rowI_ne g _ (fun e => hb (Or.inl e))⟩, by rw [rowI_same]; rfl⟩
  · obtain ⟨k, rfl⟩ : ∃ z, h = z + 1 := ⟨h - 1, by omega⟩
    rw [if_neg (show ¬ nI (k + 1) = (0 : Int32) from nI_ne0 (by omega) (by omega))]
    have q1 := m_top30 N hN S m fA zA sA oA W A row (nI at_) k (by omega) 8 N (rowI g row (putA (g.1 row) at_ NOUGHT)) (by omega) (by omega) (hT.ch rfl) u1 (fun j hj => absurd hj (by omega))
    rw [rowI_ne _ _ (Ne.symm r5), rowI_ne _ _ (Ne.symm r4)] at q1
    obtain ⟨g1, u, k1, k2, k3⟩ := m_top71 hN (row := row) (at_ := at_) r5 hat hlen k N (rowI (rowI g row (putA (g.1 row) at_ NOUGHT)) oA (putA (g.1 oA) 0 (seg (g.1 sA) (8 * k)))) (by omega) (by omega) (hT.ch rfl)
    have t1 : g1.1 row = putA (g.1 row) at_ NOUGHT := by
      rw [k2.2 row (by intro h; rcases h with h | h | h <;> contradiction), rowI_ne _ _ r5, rowI_same]
    refine ⟨_, (show _ = _ from q1.trans k1), ⟨k2.1, fun b hb => ?_⟩, ?_⟩
    · have n1 : b ≠ row := fun e => hb (Or.inl e)
      have n2 : b ≠ oA := fun e => hb (Or.inr (Or.inl e))
      have n3 : b ≠ W := fun e => hb (Or.inr (Or.inr (Or.inl e)))
      have n4 : b ≠ A := fun e => hb (Or.inr (Or.inr (Or.inr e)))
      rw [rowI_ne _ _ n1, k2.2 b (by intro h; rcases h with h | h | h <;> contradiction), rowI_ne _ _ n2, rowI_ne _ _ n1]
    · rw [rowI_same, t1]
      rw [rowI_ne _ _ so, rowI_ne _ _ (Ne.symm r4), rowI_same] at k3
      have e1 : eq8 u (topT (k + 1) sm) := by
        refine k3.tr ?_
        show eq8 _ (if k + 1 = 0 then NOUGHT else topF sm (k + 1 - 1) (sm (k + 1 - 1)))
        rw [if_neg (by omega), Nat.add_sub_cancel]
        refine topF_congr k (fun i hi => (H i (by omega)).2.2.1) ?_
        intro j hj
        have h0 := putA_in (row := g.1 oA) (v := seg (g.1 sA) (8 * k)) (at_ := 0) hj
        rw [Nat.zero_add] at h0
        rw [h0]
        exact (H k (by omega)).2.2.1 j hj
      funext j
      unfold putA
      by_cases hc : at_ ≤ j ∧ j < at_ + 8
      · rw [if_pos hc, if_pos hc, e1 _ (by omega)]
      · rw [if_neg hc, if_neg hc, if_neg hc]
