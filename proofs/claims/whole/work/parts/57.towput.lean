def NOUGHT : Nat → Int32 := fun _ => 0
def fillR (row : Nat → Int32) (p q : Nat) (v : Int32) : Nat → Int32 := fun j => if p ≤ j ∧ j < q then v else row j
theorem j_fill10 (N : Nat) (S : Hs) (a q : Nat) (v : Int32) (hq : q ≤ hpL S a) (hl : hpL S a < 2 ^ 31) : ∀ (i n : Nat) (g : Hg), i ≤ q → i < n → n_J7_fill_fda19_10 N S n g a (nI q) v (nI (q - i)) = some ((), rowI g a (fillR (g.1 a) (q - i) q v)) := by
  intro i
  induction i with
  | zero =>
    intro n g h1 h2
    obtain ⟨n, rfl⟩ : ∃ z, n = z + 1 := ⟨n - 1, by omega⟩
    show b_J7_fill_fda19_10 N S (n_J7_fill_fda19_10 N S n) g a (nI q) v (nI q) = _
    unfold b_J7_fill_fda19_10
    rw [if_pos (Int32.le_refl _)]
    have : fillR (g.1 a) (q - 0) q v = g.1 a := by
      funext j
      unfold fillR
      rw [if_neg (by omega)]
    rw [this, rowI_self]
  | succ i ih =>
    intro n g h1 h2
    obtain ⟨n, rfl⟩ : ∃ z, n = z + 1 := ⟨n - 1, by omega⟩
    show b_J7_fill_fda19_10 N S (n_J7_fill_fda19_10 N S n) g a (nI q) v (nI (q - (i + 1))) = _
    unfold b_J7_fill_fda19_10
    have e1 : q - (i + 1) + 1 = q - i := by omega
    rw [if_neg (nI_ge (show q - (i + 1) < q by omega) (by omega)), inb_nI (show q - (i + 1) < hpL S a by omega) hl, ck_T]
    simp only [nm_D, wrI_row, nI_clamp (show q - (i + 1) < 2 ^ 31 by omega), nI_1]
    rw [e1, ih n _ (by omega) (by omega), rowI_rowI, rowI_same]
    congr 3
    funext j
    unfold fillR
    simp only [upd]
    by_cases hj : j = q - (i + 1)
    · subst hj
      rw [if_neg (by omega), if_pos rfl, if_pos (by omega)]
    · by_cases hc : q - i ≤ j ∧ j < q
      · rw [if_pos hc, if_pos (by omega)]
      · rw [if_neg hc, if_neg hj, if_neg (by omega)]
theorem j_fill {N : Nat} {S : Hs} {g : Hg} {a p q : Nat} {x1 x2 : Int32} (v : Int32) (e1 : x1 = nI p) (e2 : x2 = nI q) (hpq : p ≤ q) (hq : q ≤ hpL S a) (hl : hpL S a < 2 ^ 31) (hN : q < N + p) : f_J7_fill_fda19 N S g a x1 x2 v = some ((), rowI g a (fillR (g.1 a) p q v)) := by
  subst e1; subst e2
  show b_J7_fill_fda19_0 N S g a (nI p) (nI q) v = _
  unfold b_J7_fill_fda19_0
  have hr : f_J7_rangeCheck_23922 N S g (nI (hpL S a)) (nI p) (nI q) = some ((), g) := by
    show b_J7_rangeCheck_23922_0 N S g (nI (hpL S a)) (nI p) (nI q) = _
    unfold b_J7_rangeCheck_23922_0
    rw [if_pos (nI_le hpq (by omega)), if_pos (nI_pos' (by omega)), if_pos (nI_le hq hl)]
  rw [hr, c2_S]
  have key := j_fill10 N S a q v hq hl (q - p) N g (by omega) (by omega)
  rw [show q - (q - p) = p by omega] at key
  exact key
theorem c_copySum {N : Nat} {S : Hs} {g : Hg} {a p b q : Nat} {x1 x3 : Int32} (e1 : x1 = nI p) (e3 : x3 = nI q) (ha : 8 * p + 8 ≤ hpL S a) (ha2 : hpL S a < 2 ^ 31) (hb : 8 * q + 8 ≤ hpL S b) (hb2 : hpL S b < 2 ^ 31) : f_X11_copySum N S g a x1 b x3 = some ((), rowI g b (putA (g.1 b) (8 * q) (seg (g.1 a) (8 * p)))) := by
  subst e1; subst e3
  show b_X11_copySum_0 N S g a (nI p) b (nI q) = _
  unfold b_X11_copySum_0
  simp only [lit, pk_mul, nm_D]
  rw [cpok_nI (by omega) (by omega) ha2 hb2, ck_T, nI_clamp (show p * 8 < 2 ^ 31 by omega), nI_clamp (show q * 8 < 2 ^ 31 by omega), Nat.mul_comm p 8, Nat.mul_comm q 8]
  rfl
theorem c_setNought {N : Nat} (hN : 30 ≤ N) {S : Hs} {g : Hg} {a p : Nat} {x1 : Int32} (e1 : x1 = nI p) (ha : 8 * p + 8 ≤ hpL S a) (ha2 : hpL S a < 2 ^ 31) : f_X11_setNought N S g a x1 = some ((), rowI g a (putA (g.1 a) (8 * p) NOUGHT)) := by
  subst e1
  show b_X11_setNought_0 N S g a (nI p) = _
  unfold b_X11_setNought_0
  rw [j_fill (p := 8 * p) (q := 8 * p + 8) 0 (by rw [lit, pk_mul, Nat.mul_comm]) (by rw [lit, pk_mul, nI_add, Nat.mul_comm]) (by omega) ha ha2 (by omega), c2_S]
  rfl
/-- put: a block comes upon the stack -/
def putT (h : Nat) (st ex : Nat → Nat) (sm : Nat → Nat → Int32) (s e : Nat) (v : Nat → Int32) : Nat × (Nat → Nat) × (Nat → Nat → Int32) := fixT (h + 1) (va_up st h s) (va_up ex h e) (va_up sm h v)
theorem TwR.push {h : Nat} {st ex : Nat → Nat} {sm : Nat → Nat → Int32} {rs rz rm : Nat → Int32} (H : TwR h st ex sm rs rz rm) {s e : Nat} (hs : s < 2 ^ 20) (he : e ≤ 20) {v u : Nat → Int32} (hv : eq8 u v) : TwR (h + 1) (va_up st h s) (va_up ex h e) (va_up sm h v) (upd rs h (nI s)) (upd rz h (nI (2 ^ e))) (putA rm (8 * h) u) := by
  intro i hi
  by_cases hih : i = h
  · subst hih
    refine ⟨by simp [upd, va_up], by simp [upd, va_up], ?_, by simp [va_up]; exact hs, by simp [va_up]; exact he⟩
    simp only [va_up, if_true]
    exact eq8_putA.tr hv
  · obtain ⟨h1, h2, h3, h4, h5⟩ := H i (by omega)
    refine ⟨by simp [upd, va_up, hih]; exact h1, by simp [upd, va_up, hih]; exact h2, ?_, by simp [va_up, hih]; exact h4, by simp [va_up, hih]; exact h5⟩
    simp only [va_up, if_neg hih]
    exact (eq8_putA_ne hih).tr h3
def ChU (tw stA szA smA W A : Nat) (g g1 : Hg) : Prop := Ch (fun x => x = tw ∨ x = stA ∨ x = szA ∨ x = smA ∨ x = W ∨ x = A) g g1
theorem c_put {N : Nat} (hN : 30 ≤ N) {S : Hs} {g : Hg} {tw stA szA smA mx W A h s e fr p : Nat} {st ex : Nat → Nat} {sm : Nat → Nat → Int32} {v : Nat → Int32} {x1 x2 x4 : Int32} (hT : TwOk S g tw stA szA smA mx W A) (hh : h < 12) (h4 : rdI g tw 4 = nI h) (H : TwR h st ex sm (g.1 stA) (g.1 szA) (g.1 smA)) (e1 : x1 = nI s) (e2 : x2 = nI (2 ^ e)) (e4 : x4 = nI p) (hs : s < 2 ^ 20) (he : e ≤ 8) (hx : ∀ i, i < h → ex i ≤ 8) (hf : 8 * p + 8 ≤ hpL S fr) (hf2 : hpL S fr < 2 ^ 31) (hne : fr ≠ stA ∧ fr ≠ szA) (hv : eq8 (seg (g.1 fr) (8 * p)) v) :
    ∃ g1, f_X9_put N S g tw x1 x2 fr x4 = some ((), g1) ∧ ChU tw stA szA smA W A g g1 ∧ rdI g1 tw 4 = nI (putT h st ex sm s e v).1 ∧ TwR (putT h st ex sm s e v).1 (va_up st h s) (putT h st ex sm s e v).2.1 (putT h st ex sm s e v).2.2 (g1.1 stA) (g1.1 szA) (g1.1 smA) := by
  subst e1; subst e2; subst e4
  obtain ⟨a1, a2, a3, a4, a5, a6, a7, hM, d1, d2, d3, d4, d5, d6, d7, d8, d9, d10, d11, d12, d13, d14⟩ := id hT
  let g1 : Hg := rowI (rowI g stA (upd (g.1 stA) h (nI s))) szA (upd (g.1 szA) h (nI (2 ^ e)))
  have hc := c_copySum (N := N) (S := S) (g := g1) (a := fr) (p := p) (b := smA) (q := h) (x1 := nI p) (x3 := nI h) rfl rfl hf hf2 (by omega) (by omega)
  have r0 : g1.1 fr = g.1 fr := by show (rowI _ szA _).1 fr = _; rw [rowI_ne _ _ hne.2, rowI_ne _ _ hne.1]
  have r1 : g1.1 smA = g.1 smA := by show (rowI _ szA _).1 smA = _; rw [rowI_ne _ _ (Ne.symm d5), rowI_ne _ _ (Ne.symm d8)]
  rw [r0, r1] at hc
  let g2 : Hg := rowI g1 smA (putA (g.1 smA) (8 * h) (seg (g.1 fr) (8 * p)))
  let g3 : Hg := rowI g2 tw (upd (g.1 tw) 4 (nI (h + 1)))
  have ht2 : g2.1 tw = g.1 tw := by show (rowI _ smA _).1 tw = _; rw [rowI_ne _ _ d12]; show (rowI _ szA _).1 tw = _; rw [rowI_ne _ _ d13, rowI_ne _ _ d14]
  have ht1 : g1.1 tw = g.1 tw := by show (rowI _ szA _).1 tw = _; rw [rowI_ne _ _ d13, rowI_ne _ _ d14]
  have q1 : g3.1 stA = upd (g.1 stA) h (nI s) := by
    show (rowI _ tw _).1 stA = _; rw [rowI_ne _ _ (Ne.symm d14)]; show (rowI _ smA _).1 stA = _; rw [rowI_ne _ _ d8]; show (rowI _ szA _).1 stA = _; rw [rowI_ne _ _ d9, rowI_same]
  have q2 : g3.1 szA = upd (g.1 szA) h (nI (2 ^ e)) := by
    show (rowI _ tw _).1 szA = _; rw [rowI_ne _ _ (Ne.symm d13)]; show (rowI _ smA _).1 szA = _; rw [rowI_ne _ _ d5]; show (rowI _ szA _).1 szA = _; rw [rowI_same]
  have q3 : g3.1 smA = putA (g.1 smA) (8 * h) (seg (g.1 fr) (8 * p)) := by
    show (rowI _ tw _).1 smA = _; rw [rowI_ne _ _ (Ne.symm d12)]; show (rowI _ smA _).1 smA = _; rw [rowI_same]
  obtain ⟨g4, k1, k2, k3, k4⟩ := c_put62 hN (va_up st h s) h N g3 (va_up ex h e) (va_up sm h v) hh (by omega) (hT.ch rfl) (by
    show (rowI _ tw _).1 tw 4 = _
    rw [rowI_same]; simp [upd]) (fun i hi => by
    by_cases hih : i = h
    · subst hih; simp [va_up]; omega
    · have := hx i (by omega); simp [va_up, hih]; omega) (by rw [q1, q2, q3]; exact H.push hs (by omega) hv)
  refine ⟨g4, ?_, ⟨k2.1, fun b hb => ?_⟩, k3, k4⟩
  · show b_X9_put_0 N S g tw (nI s) (nI (2 ^ e)) fr (nI p) = _
    unfold b_X9_put_0
    rw [h4, if_pos (show nI h < (12 : Int32) from nI_lt (b := 12) hh (by decide))]
    simp only [a2, nn_S, a5, inb_nI hh (show 12 < 2 ^ 31 by decide), ck_T, nm_D, wrI_row, nI_clamp (show h < 2 ^ 31 by omega), rdR_rowI, a3, a4]
    have s1 : rdI (rowI g stA (upd (g.1 stA) h (nI s))) tw 4 = nI h := by
      show (rowI _ stA _).1 tw 4 = _
      rw [rowI_ne _ _ d14]; exact h4
    rw [s1, a6, inb_nI hh (by decide), ck_T, nI_clamp (show h < 2 ^ 31 by omega), rowI_ne g _ (Ne.symm d9)]
    have s2 : rdI g1 tw 4 = nI h := by
      show g1.1 tw 4 = _
      rw [ht1]; exact h4
    show c2 (f_X11_copySum N S g1 fr (nI p) smA (rdI g1 tw 4)) _ = _
    rw [s2, hc, c2_S]
    have s3 : rdI g2 tw 4 = nI h := by
      show g2.1 tw 4 = _
      rw [ht2]; exact h4
    show n_X9_put_62 N S N (rowI g2 tw (upd (g2.1 tw) 4 (rdI g2 tw 4 + (1 : Int32)))) tw (rdI (rowI g2 tw (upd (g2.1 tw) 4 (rdI g2 tw 4 + (1 : Int32)))) tw 4 - (1 : Int32)) = _
    rw [s3, ht2, nI_1]
    have s4 : rdI (rowI g2 tw (upd (g.1 tw) 4 (nI (h + 1)))) tw 4 - (1 : Int32) = nI h := by
      show (rowI _ tw _).1 tw 4 - 1 = _
      rw [rowI_same]
      simp only [upd, if_true]
      exact nI_pred h
    rw [s4]
    exact k1
  · have n1 : b ≠ tw := fun e => hb (Or.inl e)
    have n2 : b ≠ stA := fun e => hb (Or.inr (Or.inl e))
    have n3 : b ≠ szA := fun e => hb (Or.inr (Or.inr (Or.inl e)))
    have n4 : b ≠ smA := fun e => hb (Or.inr (Or.inr (Or.inr (Or.inl e))))
    have n5 : b ≠ W := fun e => hb (Or.inr (Or.inr (Or.inr (Or.inr (Or.inl e)))))
    have n6 : b ≠ A := fun e => hb (Or.inr (Or.inr (Or.inr (Or.inr (Or.inr e)))))
    rw [k2.2 b (by intro h; rcases h with h | h | h | h | h <;> contradiction)]
    show (rowI _ tw _).1 b = _
    rw [rowI_ne _ _ n1]
    show (rowI _ smA _).1 b = _
    rw [rowI_ne _ _ n4]
    show (rowI _ szA _).1 b = _
    rw [rowI_ne _ _ n3, rowI_ne _ _ n2]
/-- TOP of a stack -/
def topF (sm : Nat → Nat → Int32) : Nat → (Nat → Int32) → Nat → Int32
  | 0, acc => acc
  | k + 1, acc => topF sm k (JOIN (sm k) acc)
def topT (h : Nat) (sm : Nat → Nat → Int32) : Nat → Int32 := if h = 0 then NOUGHT else topF sm (h - 1) (sm (h - 1))
theorem topF_congr {sm sn : Nat → Nat → Int32} : ∀ (k : Nat) {u v : Nat → Int32}, (∀ i, i < k → eq8 (sm i) (sn i)) → eq8 u v → eq8 (topF sm k u) (topF sn k v)
  | 0, _, _, _, h => h
  | k + 1, _, _, hs, h => topF_congr k (fun i hi => hs i (by omega)) (JOIN_congr (hs k (by omega)) h)
theorem c_top35 {N : Nat} (hN : 30 ≤ N) {S : Hs} {tw stA szA smA mx W A to : Nat} (ht : TgOk S W A to 0) (hto : to ≠ smA) : ∀ (k n : Nat) (g : Hg), k ≤ 12 → k < n → TwOk S g tw stA szA smA mx W A →
    ∃ g1, n_X9_writeTop_35 N S n g tw to (nI k - 1) = some ((), g1) ∧ Ch3 W A to g g1 ∧ eq8 (g1.1 to) (topF (fun i => seg (g.1 smA) (8 * i)) k (g.1 to)) := by
  intro k
  induction k with
  | zero =>
    intro n g h1 h2 hT
    obtain ⟨n, rfl⟩ : ∃ z, n = z + 1 := ⟨n - 1, by omega⟩
    refine ⟨g, ?_, Ch.rf, eq8.rf⟩
    show b_X9_writeTop_35 N S (n_X9_writeTop_35 N S n) g tw to (nI 0 - 1) = _
    unfold b_X9_writeTop_35
    rw [if_pos (by decide)]
  | succ k ih =>
    intro n g h1 h2 hT
    obtain ⟨n, rfl⟩ : ∃ z, n = z + 1 := ⟨n - 1, by omega⟩
    obtain ⟨a1, a2, a3, a4, a5, a6, a7, hM, d1, d2, -⟩ := id hT
    obtain ⟨g1, j1, j2, j3⟩ := c_join hN (g := g) (one := smA) (other := to) (op := k) (qp := 0) (p := 0) (to := to) hM ht d1 ht.2.1 (by omega) (by omega) ht.2.2.1 ht.2.2.2 (x2 := nI k) (x4 := (0 : Int32)) (x6 := (0 : Int32)) rfl rfl rfl
    obtain ⟨g2, k1, k2, k3⟩ := ih n g1 (by omega) (by omega) (hT.ch j2.1)
    have s1 : g1.1 smA = g.1 smA := j2.2 smA (by intro h; rcases h with h | h | h <;> first | contradiction | exact hto h.symm)
    refine ⟨g2, ?_, j2.tr k2, ?_⟩
    · show b_X9_writeTop_35 N S (n_X9_writeTop_35 N S n) g tw to (nI (k + 1) - 1) = _
      unfold b_X9_writeTop_35
      rw [nI_pred, if_neg (nI_pos (by omega))]
      simp only [a1, a4, nn_S]
      rw [j1, c2_S, nm_D, show nI k + (-1 : Int32) = nI k - 1 from (Int32.sub_eq_add_neg _ _).symm]
      exact k1
    · rw [s1] at k3
      refine k3.tr ?_
      show eq8 (topF (fun i => seg (g.1 smA) (8 * i)) k (g1.1 to)) (topF (fun i => seg (g.1 smA) (8 * i)) k (JOIN (seg (g.1 smA) (8 * k)) (g.1 to)))
      refine topF_congr k (fun _ _ => eq8.rf) ?_
      rw [j3]
      have : eq8 (seg (putA (g.1 to) (8 * 0) (JOIN (seg (g.1 smA) (8 * k)) (seg (g.1 to) (8 * 0)))) (8 * 0)) (JOIN (seg (g.1 smA) (8 * k)) (seg (g.1 to) (8 * 0))) := eq8_putA
      intro j hj
      have h0 := this j hj
      simp only [seg, Nat.mul_zero, Nat.zero_add] at h0 ⊢
      rw [h0]
      exact JOIN_congr eq8.rf (fun i hi => by simp [seg]) j hj
theorem c_writeTop {N : Nat} (hN : 30 ≤ N) {S : Hs} {g : Hg} {tw stA szA smA mx W A to h : Nat} {st ex : Nat → Nat} {sm : Nat → Nat → Int32} (hT : TwOk S g tw stA szA smA mx W A) (ht : TgOk S W A to 0) (hto : to ≠ smA) (htw : to ≠ tw) (hh : h ≤ 12) (h4 : rdI g tw 4 = nI h) (H : TwR h st ex sm (g.1 stA) (g.1 szA) (g.1 smA)) :
    ∃ g1, f_X9_writeTop N S g tw to = some ((), g1) ∧ Ch3 W A to g g1 ∧ eq8 (g1.1 to) (topT h sm) := by
  obtain ⟨a1, a2, a3, a4, a5, a6, a7, hM, d1, d2, -⟩ := id hT
  by_cases h0 : h = 0
  · subst h0
    refine ⟨rowI g to (putA (g.1 to) (8 * 0) NOUGHT), ?_, ⟨rfl, fun b hb => rowI_ne g _ (fun e => hb (Or.inr (Or.inr e)))⟩, ?_⟩
    · show b_X9_writeTop_0 N S g tw to = _
      unfold b_X9_writeTop_0
      rw [h4, if_pos (by decide), c_setNought hN (p := 0) (x1 := (0 : Int32)) rfl ht.2.2.1 ht.2.2.2, c2_S]
    · rw [rowI_same]
      intro j hj
      have := putA_in (row := g.1 to) (v := NOUGHT) (at_ := 8 * 0) hj
      rw [Nat.mul_zero, Nat.zero_add] at this
      exact this
  · obtain ⟨k, rfl⟩ : ∃ z, h = z + 1 := ⟨h - 1, by omega⟩
    have hc := c_copySum (N := N) (S := S) (g := g) (a := smA) (p := k) (b := to) (q := 0) (x1 := nI k) (x3 := (0 : Int32)) rfl rfl (by omega) (by omega) ht.2.2.1 ht.2.2.2
    obtain ⟨g1, k1, k2, k3⟩ := c_top35 hN ht hto k N (rowI g to (putA (g.1 to) (8 * 0) (seg (g.1 smA) (8 * k)))) (by omega) (by omega) (hT.ch rfl)
    refine ⟨g1, ?_, Ch.tr (Ch.row (Or.inr (Or.inr rfl))) k2, ?_⟩
    · show b_X9_writeTop_0 N S g tw to = _
      unfold b_X9_writeTop_0
      rw [h4, if_neg (show ¬ nI (k + 1) = (0 : Int32) from nI_ne0 (by omega) (by omega))]
      simp only [a4, nn_S]
      rw [show nI (k + 1) - (1 : Int32) = nI k from nI_pred k, hc, c2_S, nm_D]
      have s1 : rdI (rowI g to (putA (g.1 to) (8 * 0) (seg (g.1 smA) (8 * k)))) tw 4 - (2 : Int32) = nI k - 1 := by
        show (rowI _ to _).1 tw 4 - 2 = _
        rw [rowI_ne _ _ (Ne.symm htw)]
        show rdI g tw 4 - 2 = _
        rw [h4, nI_succ]
        have : (2 : Int32) = 1 + 1 := by decide
        rw [this, Int32.sub_eq_add_neg, Int32.sub_eq_add_neg, Int32.neg_add, Int32.add_assoc]
        congr 1
      rw [s1]
      exact k1
    · rw [rowI_ne _ _ (Ne.symm hto), rowI_same] at k3
      refine k3.tr ?_
      show eq8 _ (if k + 1 = 0 then NOUGHT else topF sm (k + 1 - 1) (sm (k + 1 - 1)))
      rw [if_neg (by omega), Nat.add_sub_cancel]
      refine topF_congr k (fun i hi => (H i (by omega)).2.2.1) ?_
      intro j hj
      have := putA_in (row := g.1 to) (v := seg (g.1 smA) (8 * k)) (at_ := 8 * 0) hj
      rw [Nat.mul_zero, Nat.zero_add] at this
      rw [Nat.mul_zero, this]
      exact (H k (by omega)).2.2.1 j hj
