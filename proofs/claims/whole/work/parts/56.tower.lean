/-! the stack of blocks: Tower of the class, lay and top of the reference -/
def fixT : Nat → (Nat → Nat) → (Nat → Nat) → (Nat → Nat → Int32) → Nat × (Nat → Nat) × (Nat → Nat → Int32)
  | 0, _, ex, sm => (0, ex, sm)
  | 1, _, ex, sm => (1, ex, sm)
  | h + 2, st, ex, sm => if ex (h + 1) = ex h ∧ st h % 2 ^ (ex h + 1) = 0 then fixT (h + 1) st (va_up ex h (ex h + 1)) (va_up sm h (JOIN (sm h) (sm (h + 1)))) else (h + 2, ex, sm)
/-- rows of ints hold a stack of h blocks -/
def TwR (h : Nat) (st ex : Nat → Nat) (sm : Nat → Nat → Int32) (rs rz rm : Nat → Int32) : Prop := ∀ i, i < h → rs i = nI (st i) ∧ rz i = nI (2 ^ ex i) ∧ eq8 (seg rm (8 * i)) (sm i) ∧ st i < 2 ^ 20 ∧ ex i ≤ 20
theorem eq8_putA {row v : Nat → Int32} {p : Nat} : eq8 (seg (putA row (8 * p) v) (8 * p)) v := fun j hj => putA_in hj
theorem eq8_putA_ne {row v : Nat → Int32} {p q : Nat} (h : q ≠ p) : eq8 (seg (putA row (8 * p) v) (8 * q)) (seg row (8 * q)) := fun j hj => putA_out (by omega)
theorem eq8.tr {a b c : Nat → Int32} (h : eq8 a b) (h1 : eq8 b c) : eq8 a c := fun j hj => (h j hj).trans (h1 j hj)
theorem eq8.rf {a : Nat → Int32} : eq8 a a := fun _ _ => rfl
theorem eq8.sy {a b : Nat → Int32} (h : eq8 a b) : eq8 b a := fun j hj => (h j hj).symm
theorem two_pow_lt {e : Nat} (h : e ≤ 20) : 2 ^ e < 2 ^ 21 := Nat.lt_of_le_of_lt (Nat.pow_le_pow_right (by decide) h) (by decide)
/-- one join keeps the rows a stack -/
theorem TwR.join {h : Nat} {st ex : Nat → Nat} {sm : Nat → Nat → Int32} {rs rz rm : Nat → Int32} (H : TwR (h + 2) st ex sm rs rz rm) (hex : ex h + 1 ≤ 20) {v : Nat → Int32} (hv : eq8 v (JOIN (sm h) (sm (h + 1)))) : TwR (h + 1) st (va_up ex h (ex h + 1)) (va_up sm h (JOIN (sm h) (sm (h + 1)))) rs (upd rz h (nI (2 ^ (ex h + 1)))) (putA rm (8 * h) v) := by
  intro i hi
  obtain ⟨h1, h2, h3, h4, h5⟩ := H i (by omega)
  by_cases he : i = h
  · subst he
    refine ⟨h1, by simp [upd, va_up], ?_, h4, by simp [va_up]; omega⟩
    simp only [va_up, if_true]
    exact eq8_putA.tr hv
  · refine ⟨h1, by simp [upd, va_up, he]; exact h2, ?_, h4, by simp [va_up, he]; exact h5⟩
    simp only [va_up, if_neg he]
    exact (eq8_putA_ne he).tr h3
theorem nI_and_pow {n e : Nat} (hn : n < 2 ^ 31) (he : e ≤ 20) : nI n &&& (nI 2 * nI (2 ^ e) - nI 1) = nI (n % 2 ^ (e + 1)) := by
  have hp : 2 ^ e < 2 ^ 21 := two_pow_lt he
  have h1 : 1 ≤ 2 * 2 ^ e := by have := Nat.one_le_two_pow (n := e); omega
  rw [pk_mul, pk_sub h1]
  have e2 : 2 * 2 ^ e = 2 ^ (e + 1) := by rw [Nat.pow_succ]; omega
  rw [e2] at h1 ⊢
  have h3 : 2 ^ (e + 1) - 1 < 2 ^ 32 := by omega
  exact pk_andN (by omega) (e + 1) (pk_tn h3)
def ChT (tw stA szA smA W A : Nat) (g g1 : Hg) : Prop := Ch (fun x => x = tw ∨ x = szA ∨ x = smA ∨ x = W ∨ x = A) g g1
/-- the addresses of a Tower -/
def TwOk (S : Hs) (g : Hg) (tw stA szA smA mx W A : Nat) : Prop := rdR g tw 0 = some mx ∧ rdR g tw 1 = some stA ∧ rdR g tw 2 = some szA ∧ rdR g tw 3 = some smA ∧ hpL S stA = 12 ∧ hpL S szA = 12 ∧ hpL S smA = 96 ∧ MxOk S g mx W A ∧ (smA ≠ W ∧ smA ≠ A ∧ szA ≠ W ∧ szA ≠ A ∧ szA ≠ smA ∧ stA ≠ W ∧ stA ≠ A ∧ stA ≠ smA ∧ stA ≠ szA ∧ tw ≠ W ∧ tw ≠ A ∧ tw ≠ smA ∧ tw ≠ szA ∧ tw ≠ stA)
theorem TwOk.ch {S : Hs} {g g1 : Hg} {tw stA szA smA mx W A : Nat} (h : TwOk S g tw stA szA smA mx W A) (hg : g1.2 = g.2) : TwOk S g1 tw stA szA smA mx W A := by
  have e : ∀ a k, rdR g1 a k = rdR g a k := fun a k => by show g1.2.2 a k = g.2.2 a k; rw [hg]
  obtain ⟨a1, a2, a3, a4, a5, a6, a7, ⟨b1, b2, b3⟩, a9⟩ := h
  exact ⟨(e _ _).trans a1, (e _ _).trans a2, (e _ _).trans a3, (e _ _).trans a4, a5, a6, a7, ⟨(e _ _).trans b1, (e _ _).trans b2, b3⟩, a9⟩
theorem c_areOne {N : Nat} {S : Hs} {g : Hg} {tw stA szA smA mx W A last : Nat} {st ex : Nat → Nat} {sm : Nat → Nat → Int32} (hT : TwOk S g tw stA szA smA mx W A) (hl : last + 1 < 12) (H : TwR (last + 2) st ex sm (g.1 stA) (g.1 szA) (g.1 smA)) : f_X9_areOne N S g tw (nI last) (nI (last + 1)) = some (if ex (last + 1) = ex last ∧ st last % 2 ^ (ex last + 1) = 0 then 1 else 0, g) := by
  obtain ⟨a1, a2, a3, a4, a5, a6, a7, -⟩ := hT
  obtain ⟨p1, p2, -, p4, p5⟩ := H last (by omega)
  obtain ⟨q1, q2, -, q4, q5⟩ := H (last + 1) (by omega)
  show b_X9_areOne_0 N S g tw (nI last) (nI (last + 1)) = _
  unfold b_X9_areOne_0
  simp only [a2, a3, nn_S, nm_D, a5, a6, inb_nI (show last < 12 by omega) (show 12 < 2 ^ 31 by decide), inb_nI hl (show 12 < 2 ^ 31 by decide), ck_T, nI_clamp (show last < 2 ^ 31 by omega), nI_clamp (show last + 1 < 2 ^ 31 by omega), rdI_def, p1, p2, q2, lit, nI_and_pow (show st last < 2 ^ 31 by omega) p5]
  have hp1 := two_pow_lt p5
  have hp2 := two_pow_lt q5
  by_cases he : ex (last + 1) = ex last
  · rw [if_pos (by rw [he])]
    by_cases hm : st last % 2 ^ (ex last + 1) = 0
    · rw [if_pos (by rw [hm]), if_pos ⟨he, hm⟩]
    · have hlt : st last % 2 ^ (ex last + 1) < 2 ^ 31 := Nat.lt_of_le_of_lt (Nat.mod_le _ _) (by omega)
      rw [if_neg (show ¬ nI (st last % 2 ^ (ex last + 1)) = nI 0 from fun e => hm ((nI_eq hlt (by decide)).mp e)), if_neg (fun h => hm h.2)]
  · rw [if_neg (show ¬ nI (2 ^ ex last) = nI (2 ^ ex (last + 1)) from fun e => he (by
      have := (nI_eq (by omega) (by omega)).mp e
      exact ((Nat.pow_right_inj (by decide)).mp this).symm)), if_neg (fun h => he h.1)]
theorem c_put62 {N : Nat} (hN : 30 ≤ N) {S : Hs} {tw stA szA smA mx W A : Nat} (st : Nat → Nat) : ∀ (last n : Nat) (g : Hg) (ex : Nat → Nat) (sm : Nat → Nat → Int32), last < 12 → last < n → TwOk S g tw stA szA smA mx W A → rdI g tw 4 = nI (last + 1) → (∀ i, i ≤ last → ex i + (last - i) ≤ 20) → TwR (last + 1) st ex sm (g.1 stA) (g.1 szA) (g.1 smA) →
    ∃ g1, n_X9_put_62 N S n g tw (nI last) = some ((), g1) ∧ ChT tw stA szA smA W A g g1 ∧ rdI g1 tw 4 = nI (fixT (last + 1) st ex sm).1 ∧ TwR (fixT (last + 1) st ex sm).1 st (fixT (last + 1) st ex sm).2.1 (fixT (last + 1) st ex sm).2.2 (g1.1 stA) (g1.1 szA) (g1.1 smA) := by
  intro last
  induction last with
  | zero =>
    intro n g ex sm h1 h2 hT h4 hx H
    obtain ⟨n, rfl⟩ : ∃ z, n = z + 1 := ⟨n - 1, by omega⟩
    refine ⟨g, ?_, Ch.rf, h4, H⟩
    show b_X9_put_62 N S (n_X9_put_62 N S n) g tw (nI 0) = _
    unfold b_X9_put_62
    rw [if_pos (by decide)]
  | succ last ih =>
    intro n g ex sm h1 h2 hT h4 hx H
    obtain ⟨n, rfl⟩ : ∃ z, n = z + 1 := ⟨n - 1, by omega⟩
    obtain ⟨a1, a2, a3, a4, a5, a6, a7, hM, d1, d2, d3, d4, d5, d6, d7, d8, d9, d10, d11, d12, d13, d14⟩ := id hT
    have hstep : n_X9_put_62 N S (n + 1) g tw (nI (last + 1)) = b_X9_put_62 N S (n_X9_put_62 N S n) g tw (nI (last + 1)) := rfl
    have hsub : nI (last + 1) - (1 : Int32) = nI last := nI_pred last
    by_cases hc : ex (last + 1) = ex last ∧ st last % 2 ^ (ex last + 1) = 0
    · have hexl : ex last + 1 ≤ 20 := by have := hx last (by omega); omega
      have hfix : fixT (last + 1 + 1) st ex sm = fixT (last + 1) st (va_up ex last (ex last + 1)) (va_up sm last (JOIN (sm last) (sm (last + 1)))) := by
        show (if ex (last + 1) = ex last ∧ st last % 2 ^ (ex last + 1) = 0 then _ else _) = _
        rw [if_pos hc]
      obtain ⟨g1, j1, j2, j3⟩ := c_join hN (g := g) (one := smA) (other := smA) (op := last) (qp := last + 1) (p := last) (to := smA) hM ⟨d2, d1, by omega, by omega⟩ d1 d1 (by omega) (by omega) (by omega) (by omega) (x2 := nI last) (x4 := nI (last + 1)) (x6 := nI last) rfl rfl rfl
      have s1 : g1.1 szA = g.1 szA := j2.2 szA (by intro h; rcases h with h | h | h <;> contradiction)
      have s2 : g1.1 stA = g.1 stA := j2.2 stA (by intro h; rcases h with h | h | h <;> contradiction)
      have s3 : g1.1 tw = g.1 tw := j2.2 tw (by intro h; rcases h with h | h | h <;> contradiction)
      have e1 : ∀ a k, rdR g1 a k = rdR g a k := fun a k => j2.rdR a k
      have hrow := H.join hexl (v := JOIN (seg (g.1 smA) (8 * last)) (seg (g.1 smA) (8 * (last + 1)))) (JOIN_congr (H last (by omega)).2.2.1 (H (last + 1) (by omega)).2.2.1)
      have hz : g.1 szA last = nI (2 ^ ex last) := (H last (by omega)).2.1
      let g3 : Hg := rowI (rowI g1 szA (upd (g1.1 szA) last (nI (2 ^ (ex last + 1))))) tw (upd (g1.1 tw) 4 (nI (last + 1)))
      have hg3 : g3.2 = g.2 := j2.1
      obtain ⟨g4, k1, k2, k3, k4⟩ := ih n g3 (va_up ex last (ex last + 1)) (va_up sm last (JOIN (sm last) (sm (last + 1)))) (by omega) (by omega) (hT.ch hg3) (by
          show (rowI _ tw _).1 tw 4 = _
          rw [rowI_same]; simp [upd]) (fun i hi => by
          by_cases he : i = last
          · subst he; simp [va_up]; omega
          · have := hx i (by omega); simp [va_up, he]; omega) (by
          have r1 : g3.1 stA = g.1 stA := by show (rowI _ tw _).1 stA = _; rw [rowI_ne _ _ (Ne.symm d14), rowI_ne _ _ d9, s2]
          have r2 : g3.1 szA = upd (g.1 szA) last (nI (2 ^ (ex last + 1))) := by show (rowI _ tw _).1 szA = _; rw [rowI_ne _ _ (Ne.symm d13), rowI_same, s1]
          have r3 : g3.1 smA = putA (g.1 smA) (8 * last) (JOIN (seg (g.1 smA) (8 * last)) (seg (g.1 smA) (8 * (last + 1)))) := by show (rowI _ tw _).1 smA = _; rw [rowI_ne _ _ (Ne.symm d12), rowI_ne _ _ (Ne.symm d5), j3]
          rw [r1, r2, r3]
          exact hrow)
      refine ⟨g4, ?_, ?_, by rw [hfix]; exact k3, by rw [hfix]; exact k4⟩
      · rw [hstep]
        unfold b_X9_put_62
        rw [if_neg (show ¬ (nI (last + 1) ≤ (0 : Int32)) from nI_nle (by omega) (by omega)), hsub, c_areOne hT (by omega) H, if_pos hc, c2_S, if_neg (by decide)]
        simp only [a1, a4, nn_S]
        rw [j1, c2_S]
        simp only [e1, a3, nn_S, a6, inb_nI (show last < 12 by omega) (show 12 < 2 ^ 31 by decide), ck_T, nm_D, nI_clamp (show last < 2 ^ 31 by omega), wrI_row, rdI_def]
        rw [rowI_ne _ _ d13]
        have hmul : g1.1 szA last * (2 : Int32) = nI (2 ^ (ex last + 1)) := by
          rw [s1, hz, lit, pk_mul, Nat.pow_succ]
        rw [hmul]
        have hm1 : nI (last + 1) + (-1) = nI last := pk_m1 last
        rw [hm1]
        exact k1
      · refine ⟨k2.1.trans hg3, fun b hb => ?_⟩
        have n1 : b ≠ tw := fun e => hb (Or.inl e)
        have n2 : b ≠ szA := fun e => hb (Or.inr (Or.inl e))
        have n3 : b ≠ smA := fun e => hb (Or.inr (Or.inr (Or.inl e)))
        have n4 : b ≠ W := fun e => hb (Or.inr (Or.inr (Or.inr (Or.inl e))))
        have n5 : b ≠ A := fun e => hb (Or.inr (Or.inr (Or.inr (Or.inr e))))
        rw [k2.2 b hb]
        show (rowI _ tw _).1 b = _
        rw [rowI_ne _ _ n1, rowI_ne _ _ n2, j2.2 b (by intro h; rcases h with h | h | h <;> contradiction)]
    · have hfix : fixT (last + 1 + 1) st ex sm = (last + 1 + 1, ex, sm) := by
        show (if ex (last + 1) = ex last ∧ st last % 2 ^ (ex last + 1) = 0 then _ else _) = _
        rw [if_neg hc]
      rw [hfix]
      refine ⟨g, ?_, Ch.rf, h4, H⟩
      rw [hstep]
      unfold b_X9_put_62
      rw [if_neg (show ¬ (nI (last + 1) ≤ (0 : Int32)) from nI_nle (by omega) (by omega)), hsub, c_areOne hT (by omega) H, if_neg hc, c2_S, if_pos rfl]
