/-! a new house at role b -/
def H00 : AHd := (false, (0, 0, 0), (fun _ => 0, fun _ => 0, fun _ => 0))
def W00 : AWt := (false, (0, 0, 0), (0, 0), (fun _ => NEG, fun _ => 0))
def hNew : AHo := ((0, fun _ => newL 0), fun _ => begX 0 0 0, (fun _ => H00, fun _ => 0), (0, fun _ => H00, fun _ => H00), fun _ => W00)
theorem c_newHead0 {B : Nat} {S : Hs} {g : Hg} {ad : Nat → Nat} (N p : Nat) (hA : AdOk B ad S) (hB : hpN S + 4 < B) :
    ∃ ad1 S1 g1, (∀ {ρ : Type} (k : Nat → Hs → Hg → Option (ρ × Hs × Hg × Nat × Nat)), al S g 0 7 (fun a S_2 g_3 => c5 (f_X0_init N S_2 g_3 a) (fun _ S_10 g_8 => k a S_10 g_8)) = tk 4 31 (k (ad1 p) S1 g1)) ∧ Mv (fun r => p ≤ r ∧ r < p + 4) ad S g ad1 S1 g1 ∧ AdOk B ad1 S1 ∧ hpN S1 = hpN S + 4 ∧ HdO S1 g1 ad1 p H00 := by
  obtain ⟨ad1, a1, a2, a3, a4, a5⟩ := mkO_new (fun k => p + 1 + k) p 0 7 [(0, 20, 8), (1, 20, 8), (2, 20, 8)] (g := g) hA (by show hpN S + 1 + 3 < B; omega) (by decide) (fun e _ => by show p + 1 + e.1 ≠ p; omega) (fun e e1 _ _ h => by have h : p + 1 + e.1 = p + 1 + e1.1 := h; omega)
  have i0 := fun {S : Hs} {g : Hg} {a : Nat} => i_X0 (N := N) (S := S) (g := g) (a := a)
  generalize hSF : mkF (hpN S) [(0, 20, 8), (1, 20, 8), (2, 20, 8)] (nwS S 0 7) (nwG S g) = SF at *
  obtain ⟨q1, q2, q3, q4, q5, q9⟩ := a3
  rw [va_same] at q9
  have e0 := q9 (0, 20, 8) (by simp)
  have e1 := q9 (1, 20, 8) (by simp)
  have e2 := q9 (2, 20, 8) (by simp)
  rw [← a1] at e0 e1 e2
  have hz : ∀ j, SF.2.1 (ad1 p) j = 0 := fun j => by rw [a1]; exact a4 j
  refine ⟨ad1, SF.1, SF.2, fun k => ?_, a2.mono (fun r h => ?_), q2, a5, ⟨e0.1, e1.1, e2.1, e0.2.1, e1.2.1, e2.2.1⟩, ⟨hz 3, hz 4, hz 5, hz 6⟩, fun j _ => e0.2.2.1 j, fun j _ => e1.2.2.1 j, fun j _ => e2.2.2.1 j⟩
  · rw [al_D, i0, hSF, c5_S, tk_tk, a1]
  · rcases h with h | ⟨e, h1, h2⟩
    · omega
    · simp only [List.mem_cons, List.not_mem_nil, or_false] at h1
      have h2 : r = p + 1 + e.1 := h2
      rcases h1 with h1 | h1 | h1 <;> subst h1 <;> simp only at h2 <;> omega
def PrW (S : Hs) (g : Hg) (ad : Nat → Nat) (p : Nat) : Prop := WtP S g ad p ∧ g.1 (ad p) 1 = nI 0
def PrH (S : Hs) (g : Hg) (ad : Nat → Nat) (p : Nat) : Prop := HdO S g ad p H00
def PrP (S : Hs) (g : Hg) (ad : Nat → Nat) (p : Nat) : Prop := PfO S g ad p (begX 0 0 0) ∧ hpL S (ad (p + 3)) = 128
theorem PrW.mv {R : Nat → Prop} {ad ad1 : Nat → Nat} {S S1 : Hs} {g g1 : Hg} {p : Nat} (h : PrW S g ad p) (hm : Mv R ad S g ad1 S1 g1) (n : ∀ r, p ≤ r → r < p + 2 → ¬ R r) : PrW S1 g1 ad1 p := ⟨h.1.mv hm n, by rw [hm.I (n p (by omega) (by omega))]; exact h.2⟩
theorem PrH.mv {R : Nat → Prop} {ad ad1 : Nat → Nat} {S S1 : Hs} {g g1 : Hg} {p : Nat} (h : PrH S g ad p) (hm : Mv R ad S g ad1 S1 g1) (n : ∀ r, p ≤ r → r < p + 4 → ¬ R r) : PrH S1 g1 ad1 p := HdO.mv h hm n
theorem PrP.mv {R : Nat → Prop} {ad ad1 : Nat → Nat} {S S1 : Hs} {g g1 : Hg} {p : Nat} (h : PrP S g ad p) (hm : Mv R ad S g ad1 S1 g1) (n : ∀ r, p ≤ r → r < p + 4 → ¬ R r) : PrP S1 g1 ad1 p := ⟨h.1.mv hm n, by rw [hm.len (n (p + 3) (by omega) (by omega))]; exact h.2⟩
theorem c_init122 {B N : Nat} (b : Nat) : ∀ (f n k : Nat) (ad : Nat → Nat) (S : Hs) (g : Hg), k + f = 8 → f < n → AdOk B ad S → hpN S + 2 * f < B → rdR g (ad b) 8 = some (ad (b + 7)) → hpL S (ad (b + 7)) = 8 → (∀ w, w < k → rdR g (ad (b + 7)) w = some (ad (b + 500 + 2 * w)) ∧ PrW S g ad (b + 500 + 2 * w)) →
    ∃ ad1 S1 g1, n_X1_init_122 N n S g (ad b) (nI k) = tk (2 * f) (407 * f) (some ((), S1, g1, 0, 0)) ∧ Mv (fun r => r = b + 7 ∨ b + 500 ≤ r ∧ r < b + 500 + 16) ad S g ad1 S1 g1 ∧ AdOk B ad1 S1 ∧ hpN S1 = hpN S + 2 * f ∧ (ad1 (b + 7) = ad (b + 7) ∧ hpL S1 (ad1 (b + 7)) = 8) ∧ (∀ w, w < 8 → rdR g1 (ad1 (b + 7)) w = some (ad1 (b + 500 + 2 * w)) ∧ PrW S1 g1 ad1 (b + 500 + 2 * w)) := by
  intro f
  induction f with
  | zero =>
    intro n k ad S g h1 h2 hA hB p1 l1 hP
    obtain ⟨n, rfl⟩ : ∃ z, n = z + 1 := ⟨n - 1, by omega⟩
    have : k = 8 := by omega
    subst this
    refine ⟨ad, S, g, ?_, Mv.rf, hA, by omega, ⟨rfl, l1⟩, hP⟩
    show b_X1_init_122 N _ S g _ _ = _
    unfold b_X1_init_122
    rw [if_pos (show (8 : Int32) ≤ nI 8 by decide), Nat.mul_zero, tk_0]
  | succ f ih =>
    intro n k ad S g h1 h2 hA hB p1 l1 hP
    obtain ⟨n, rfl⟩ : ∃ z, n = z + 1 := ⟨n - 1, by omega⟩
    have hk : k < 8 := by omega
    obtain ⟨ad1, S1, g1, a1, a2, a3, a4, a5⟩ := c_newWatcher (g := g) N (b + 500 + 2 * k) hA (by omega)
    have eo : ad1 (b + 7) = ad (b + 7) := a2.ad (by omega)
    have eb : ad1 b = ad b := a2.ad (by omega)
    have l1' : hpL S1 (ad1 (b + 7)) = 8 := (a2.len (by omega)).trans l1
    let g2 : Hg := wrR g1 (ad1 (b + 7)) k (some (ad1 (b + 500 + 2 * k)))
    have m2 : Mv (fun r => r = b + 7) ad1 S1 g1 ad1 S1 g2 := wrR_mv a3.1
    have mA : Mv (fun r => r = b + 7 ∨ b + 500 + 2 * k ≤ r ∧ r < b + 500 + 2 * k + 2) ad S g ad1 S1 g2 := (a2.mono (fun r hr => by omega)).tr (m2.mono (fun r hr => by omega))
    have p1' : rdR g2 (ad1 b) 8 = some (ad1 (b + 7)) := ((m2.R (by omega) 8).trans (a2.R (by omega) 8)).trans (p1.trans (by rw [eo]))
    obtain ⟨ad2, S2, g3, b1, b2, b3, b4, b5, b6⟩ := ih n (k + 1) ad1 S1 g2 (by omega) (by omega) a3 (by omega) p1' l1' (fun w hw => by
      by_cases c : w = k
      · subst c
        refine ⟨?_, PrW.mv (show PrW S1 g1 ad1 _ from a5) m2 (fun r r1 r2 => by omega)⟩
        show rdR (wrR g1 _ _ _) _ _ = _
        rw [wrR_rd, if_pos ⟨rfl, rfl⟩]
      · obtain ⟨q1, q2⟩ := hP w (by omega)
        refine ⟨?_, q2.mv mA (fun r r1 r2 => by omega)⟩
        show rdR (wrR g1 _ _ _) _ _ = _
        rw [wrR_rd, if_neg (fun h => c h.2), a2.R (by omega) w, q1, a2.ad (by omega)])
    refine ⟨ad2, S2, g3, ?_, (mA.mono (fun r hr => by omega)).tr b2, b3, by omega, ⟨b5.1.trans eo, b5.2⟩, b6⟩
    show b_X1_init_122 N (n_X1_init_122 N n) S g _ _ = _
    unfold b_X1_init_122
    rw [if_neg (show ¬ (8 : Int32) ≤ nI k from nI_ge (b := 8) hk (by decide)), p1, nn_S, a1, ← eo, l1', inb_nI hk (by decide), ck_T, nI_clamp (by omega), nm_D, nm_D, show nI k + 1 = nI (k + 1) from nI_add k 1, ← eb, show wrR g1 (ad1 (b + 7)) k (some (ad1 (b + 500 + 2 * k))) = g2 from rfl, b1, tk_tk, show 2 + 2 * f = 2 * (f + 1) by omega, show 407 + 407 * f = 407 * (f + 1) by omega]
theorem c_init95 {B N : Nat} (b : Nat) : ∀ (f n k : Nat) (ad : Nat → Nat) (S : Hs) (g : Hg), k + f = 12 → f < n → AdOk B ad S → hpN S + 4 * f < B → rdR g (ad b) 3 = some (ad (b + 3)) → hpL S (ad (b + 3)) = 12 → (∀ w, w < k → rdR g (ad (b + 3)) w = some (ad (b + 400 + 4 * w)) ∧ PrH S g ad (b + 400 + 4 * w)) →
    ∃ ad1 S1 g1, n_X1_init_95 N n S g (ad b) (nI k) = tk (4 * f) (31 * f) (n_X1_init_122 N N S1 g1 (ad b) (0 : Int32)) ∧ Mv (fun r => r = b + 3 ∨ b + 400 ≤ r ∧ r < b + 400 + 48) ad S g ad1 S1 g1 ∧ AdOk B ad1 S1 ∧ hpN S1 = hpN S + 4 * f ∧ (ad1 (b + 3) = ad (b + 3) ∧ hpL S1 (ad1 (b + 3)) = 12) ∧ (∀ w, w < 12 → rdR g1 (ad1 (b + 3)) w = some (ad1 (b + 400 + 4 * w)) ∧ PrH S1 g1 ad1 (b + 400 + 4 * w)) := by
  intro f
  induction f with
  | zero =>
    intro n k ad S g h1 h2 hA hB p1 l1 hP
    obtain ⟨n, rfl⟩ : ∃ z, n = z + 1 := ⟨n - 1, by omega⟩
    have : k = 12 := by omega
    subst this
    refine ⟨ad, S, g, ?_, Mv.rf, hA, by omega, ⟨rfl, l1⟩, hP⟩
    show b_X1_init_95 N _ S g _ _ = _
    unfold b_X1_init_95
    rw [if_pos (show (12 : Int32) ≤ nI 12 by decide), Nat.mul_zero, tk_0]
  | succ f ih =>
    intro n k ad S g h1 h2 hA hB p1 l1 hP
    obtain ⟨n, rfl⟩ : ∃ z, n = z + 1 := ⟨n - 1, by omega⟩
    have hk : k < 12 := by omega
    obtain ⟨ad1, S1, g1, a1, a2, a3, a4, a5⟩ := c_newHead0 (g := g) N (b + 400 + 4 * k) hA (by omega)
    have eo : ad1 (b + 3) = ad (b + 3) := a2.ad (by omega)
    have eb : ad1 b = ad b := a2.ad (by omega)
    have l1' : hpL S1 (ad1 (b + 3)) = 12 := (a2.len (by omega)).trans l1
    let g2 : Hg := wrR g1 (ad1 (b + 3)) k (some (ad1 (b + 400 + 4 * k)))
    have m2 : Mv (fun r => r = b + 3) ad1 S1 g1 ad1 S1 g2 := wrR_mv a3.1
    have mA : Mv (fun r => r = b + 3 ∨ b + 400 + 4 * k ≤ r ∧ r < b + 400 + 4 * k + 4) ad S g ad1 S1 g2 := (a2.mono (fun r hr => by omega)).tr (m2.mono (fun r hr => by omega))
    have p1' : rdR g2 (ad1 b) 3 = some (ad1 (b + 3)) := ((m2.R (by omega) 3).trans (a2.R (by omega) 3)).trans (p1.trans (by rw [eo]))
    obtain ⟨ad2, S2, g3, b1, b2, b3, b4, b5, b6⟩ := ih n (k + 1) ad1 S1 g2 (by omega) (by omega) a3 (by omega) p1' l1' (fun w hw => by
      by_cases c : w = k
      · subst c
        refine ⟨?_, PrH.mv (show PrH S1 g1 ad1 _ from a5) m2 (fun r r1 r2 => by omega)⟩
        show rdR (wrR g1 _ _ _) _ _ = _
        rw [wrR_rd, if_pos ⟨rfl, rfl⟩]
      · obtain ⟨q1, q2⟩ := hP w (by omega)
        refine ⟨?_, q2.mv mA (fun r r1 r2 => by omega)⟩
        show rdR (wrR g1 _ _ _) _ _ = _
        rw [wrR_rd, if_neg (fun h => c h.2), a2.R (by omega) w, q1, a2.ad (by omega)])
    refine ⟨ad2, S2, g3, ?_, (mA.mono (fun r hr => by omega)).tr b2, b3, by omega, ⟨b5.1.trans eo, b5.2⟩, b6⟩
    show b_X1_init_95 N (n_X1_init_95 N n) S g _ _ = _
    unfold b_X1_init_95
    rw [if_neg (show ¬ (12 : Int32) ≤ nI k from nI_ge (b := 12) hk (by decide)), p1, nn_S, a1, ← eo, l1', inb_nI hk (by decide), ck_T, nI_clamp (by omega), nm_D, nm_D, show nI k + 1 = nI (k + 1) from nI_add k 1, ← eb, show wrR g1 (ad1 (b + 3)) k (some (ad1 (b + 400 + 4 * k))) = g2 from rfl, b1, tk_tk, show 4 + 4 * f = 4 * (f + 1) by omega, show 31 + 31 * f = 31 * (f + 1) by omega]
theorem c_init68 {B N : Nat} (b : Nat) : ∀ (f n k : Nat) (ad : Nat → Nat) (S : Hs) (g : Hg), k + f = 16 → f < n → AdOk B ad S → hpN S + 4 * f < B → rdR g (ad b) 2 = some (ad (b + 2)) → hpL S (ad (b + 2)) = 16 → (∀ w, w < k → rdR g (ad (b + 2)) w = some (ad (b + 300 + 4 * w)) ∧ PrP S g ad (b + 300 + 4 * w)) →
    ∃ ad1 S1 g1, n_X1_init_68 N n S g (ad b) (nI k) = tk (4 * f) (220 * f) (n_X1_init_95 N N S1 g1 (ad b) (0 : Int32)) ∧ Mv (fun r => r = b + 2 ∨ b + 300 ≤ r ∧ r < b + 300 + 64) ad S g ad1 S1 g1 ∧ AdOk B ad1 S1 ∧ hpN S1 = hpN S + 4 * f ∧ (ad1 (b + 2) = ad (b + 2) ∧ hpL S1 (ad1 (b + 2)) = 16) ∧ (∀ w, w < 16 → rdR g1 (ad1 (b + 2)) w = some (ad1 (b + 300 + 4 * w)) ∧ PrP S1 g1 ad1 (b + 300 + 4 * w)) := by
  intro f
  induction f with
  | zero =>
    intro n k ad S g h1 h2 hA hB p1 l1 hP
    obtain ⟨n, rfl⟩ : ∃ z, n = z + 1 := ⟨n - 1, by omega⟩
    have : k = 16 := by omega
    subst this
    refine ⟨ad, S, g, ?_, Mv.rf, hA, by omega, ⟨rfl, l1⟩, hP⟩
    show b_X1_init_68 N _ S g _ _ = _
    unfold b_X1_init_68
    rw [if_pos (show (16 : Int32) ≤ nI 16 by decide), Nat.mul_zero, tk_0]
  | succ f ih =>
    intro n k ad S g h1 h2 hA hB p1 l1 hP
    obtain ⟨n, rfl⟩ : ∃ z, n = z + 1 := ⟨n - 1, by omega⟩
    have hk : k < 16 := by omega
    obtain ⟨ad1, S1, g1, a1, a2, a3, a4, a5⟩ := c_newProof (g := g) N (b + 300 + 4 * k) hA (by omega)
    have eo : ad1 (b + 2) = ad (b + 2) := a2.ad (by omega)
    have eb : ad1 b = ad b := a2.ad (by omega)
    have l1' : hpL S1 (ad1 (b + 2)) = 16 := (a2.len (by omega)).trans l1
    let g2 : Hg := wrR g1 (ad1 (b + 2)) k (some (ad1 (b + 300 + 4 * k)))
    have m2 : Mv (fun r => r = b + 2) ad1 S1 g1 ad1 S1 g2 := wrR_mv a3.1
    have mA : Mv (fun r => r = b + 2 ∨ b + 300 + 4 * k ≤ r ∧ r < b + 300 + 4 * k + 4) ad S g ad1 S1 g2 := (a2.mono (fun r hr => by omega)).tr (m2.mono (fun r hr => by omega))
    have p1' : rdR g2 (ad1 b) 2 = some (ad1 (b + 2)) := ((m2.R (by omega) 2).trans (a2.R (by omega) 2)).trans (p1.trans (by rw [eo]))
    obtain ⟨ad2, S2, g3, b1, b2, b3, b4, b5, b6⟩ := ih n (k + 1) ad1 S1 g2 (by omega) (by omega) a3 (by omega) p1' l1' (fun w hw => by
      by_cases c : w = k
      · subst c
        refine ⟨?_, PrP.mv (show PrP S1 g1 ad1 _ from a5) m2 (fun r r1 r2 => by omega)⟩
        show rdR (wrR g1 _ _ _) _ _ = _
        rw [wrR_rd, if_pos ⟨rfl, rfl⟩]
      · obtain ⟨q1, q2⟩ := hP w (by omega)
        refine ⟨?_, q2.mv mA (fun r r1 r2 => by omega)⟩
        show rdR (wrR g1 _ _ _) _ _ = _
        rw [wrR_rd, if_neg (fun h => c h.2), a2.R (by omega) w, q1, a2.ad (by omega)])
    refine ⟨ad2, S2, g3, ?_, (mA.mono (fun r hr => by omega)).tr b2, b3, by omega, ⟨b5.1.trans eo, b5.2⟩, b6⟩
    show b_X1_init_68 N (n_X1_init_68 N n) S g _ _ = _
    unfold b_X1_init_68
    rw [if_neg (show ¬ (16 : Int32) ≤ nI k from nI_ge (b := 16) hk (by decide)), p1, nn_S, a1, ← eo, l1', inb_nI hk (by decide), ck_T, nI_clamp (by omega), nm_D, nm_D, show nI k + 1 = nI (k + 1) from nI_add k 1, ← eb, show wrR g1 (ad1 (b + 2)) k (some (ad1 (b + 300 + 4 * k))) = g2 from rfl, b1, tk_tk, show 4 + 4 * f = 4 * (f + 1) by omega, show 220 + 220 * f = 220 * (f + 1) by omega]
theorem i_X1 {N : Nat} {S : Hs} {g : Hg} {a : Nat} : f_X1_init N S g a = tk 7 174 (n_X1_init_68 N N (mkF a [(0, 23, 6), (2, 24, 16), (3, 25, 12), (4, 20, 12), (5, 25, 60), (6, 25, 60), (8, 26, 8)] S g).1 (mkF a [(0, 23, 6), (2, 24, 16), (3, 25, 12), (4, 20, 12), (5, 25, 60), (6, 25, 60), (8, 26, 8)] S g).2 a (0 : Int32)) := by
  show b_X1_init_0 N S g a = _
  unfold b_X1_init_0
  simp (disch := decide) only [lit, lenok_nI, ck_T, al_D, nm_D, nI_clamp, tk_tk]
  rfl
theorem c_newHouse {B : Nat} {S : Hs} {g : Hg} {ad : Nat → Nat} {N : Nat} (hN : 40000 ≤ N) (b : Nat) (hA : AdOk B ad S) (hB : hpN S + 136 < B) :
    ∃ ad1 S1 g1, (∀ {ρ : Type} (k : Nat → Hs → Hg → Option (ρ × Hs × Hg × Nat × Nat)), al S g 1 9 (fun a S_2 g_3 => c5 (f_X1_init N S_2 g_3 a) (fun _ S_10 g_8 => k a S_10 g_8)) = tk 136 7331 (k (ad1 b) S1 g1)) ∧ Mv (fun r => b ≤ r ∧ r < b + 1200) ad S g ad1 S1 g1 ∧ AdOk B ad1 S1 ∧ hpN S1 = hpN S + 136 ∧ CHo S1 g1 ad1 b (0, 0) hNew ∧ phS S1 ad1 b = 61440 := by
  obtain ⟨ad1, a1, a2, a3, a4, a5⟩ := mkO_new (fun k => if k = 0 then b + 1 else if k = 8 then b + 7 else b + k) b 1 9 [(0, 23, 6), (2, 24, 16), (3, 25, 12), (4, 20, 12), (5, 25, 60), (6, 25, 60), (8, 26, 8)] (g := g) hA (by show hpN S + 1 + 7 < B; omega) (by decide) (fun e he => by
    simp only [List.mem_cons, List.not_mem_nil, or_false] at he
    rcases he with he | he | he | he | he | he | he <;> subst he <;> simp) (fun e e1 he he1 h => by
    simp only [List.mem_cons, List.not_mem_nil, or_false] at he he1
    rcases he with he | he | he | he | he | he | he <;> rcases he1 with he1 | he1 | he1 | he1 | he1 | he1 | he1 <;> subst he <;> subst he1 <;> simp at h ⊢)
  have i1 := fun {S : Hs} {g : Hg} {a : Nat} => i_X1 (N := N) (S := S) (g := g) (a := a)
  generalize hSF : mkF (hpN S) [(0, 23, 6), (2, 24, 16), (3, 25, 12), (4, 20, 12), (5, 25, 60), (6, 25, 60), (8, 26, 8)] (nwS S 1 9) (nwG S g) = SF at *
  obtain ⟨q1, q2, q3, q4, q5, q9⟩ := a3
  rw [va_same] at q9
  have e0 := q9 (0, 23, 6) (by simp)
  have e2 := q9 (2, 24, 16) (by simp)
  have e3 := q9 (3, 25, 12) (by simp)
  have e4 := q9 (4, 20, 12) (by simp)
  have e5 := q9 (5, 25, 60) (by simp)
  have e6 := q9 (6, 25, 60) (by simp)
  have e8 := q9 (8, 26, 8) (by simp)
  rw [← a1] at e0 e2 e3 e4 e5 e6 e8
  simp only [if_pos, if_neg, reduceIte, Nat.reduceEqDiff] at e0 e2 e3 e4 e5 e6 e8
  have a5 : hpN SF.1 = hpN S + 8 := a5
  have m0 : Mv (fun r => b ≤ r ∧ r < b + 8) ad S g ad1 SF.1 SF.2 := a2.mono (fun r h => by
    rcases h with h | ⟨e, h1, h2⟩
    · omega
    · simp only [List.mem_cons, List.not_mem_nil, or_false] at h1
      rcases h1 with h1 | h1 | h1 | h1 | h1 | h1 | h1 <;> subst h1 <;> simp at h2 <;> omega)
  obtain ⟨ad2, S2, g2, b1, b2, b3, b4, ⟨b5, b6⟩, b7⟩ := c_init68 (B := B) (N := N) b 16 N 0 ad1 SF.1 SF.2 (by omega) (by omega) q2 (by omega) e2.1 e2.2.1 (fun w hw => absurd hw (by omega))
  have x3 : rdR g2 (ad2 b) 3 = some (ad2 (b + 3)) := b2.P (by omega) (by omega) e3.1
  have y3 : hpL S2 (ad2 (b + 3)) = 12 := (b2.len (by omega)).trans e3.2.1
  obtain ⟨ad3, S3, g3, c1, c2', c3, c4, ⟨c5', c6⟩, c7⟩ := c_init95 (B := B) (N := N) b 12 N 0 ad2 S2 g2 (by omega) (by omega) b3 (by omega) x3 y3 (fun w hw => absurd hw (by omega))
  have m23 : Mv (fun r => r = b + 2 ∨ r = b + 3 ∨ b + 300 ≤ r ∧ r < b + 448) ad1 SF.1 SF.2 ad3 S3 g3 := (b2.mono (fun r hr => by omega)).tr (c2'.mono (fun r hr => by omega))
  have x8 : rdR g3 (ad3 b) 8 = some (ad3 (b + 7)) := m23.P (by omega) (by omega) e8.1
  have y8 : hpL S3 (ad3 (b + 7)) = 8 := (m23.len (by omega)).trans e8.2.1
  obtain ⟨ad4, S4, g4, d1, d2, d3, d4, ⟨d5, d6⟩, d7⟩ := c_init122 (B := B) (N := N) b 8 N 0 ad3 S3 g3 (by omega) (by omega) c3 (by omega) x8 y8 (fun w hw => absurd hw (by omega))
  have mA : Mv (fun r => r = b + 2 ∨ r = b + 3 ∨ r = b + 7 ∨ b + 300 ≤ r ∧ r < b + 516) ad1 SF.1 SF.2 ad4 S4 g4 := (m23.mono (fun r hr => by omega)).tr (d2.mono (fun r hr => by omega))
  have eb2 : ad2 b = ad1 b := b2.ad (by omega)
  have eb3 : ad3 b = ad2 b := c2'.ad (by omega)
  have eb4 : ad4 b = ad1 b := mA.ad (by omega)
  have f2 : ad4 (b + 2) = ad1 (b + 2) := (((d2.ad (by omega)).trans (c2'.ad (by omega))).trans b5)
  have f3 : ad4 (b + 3) = ad1 (b + 3) := ((d2.ad (by omega)).trans c5').trans (b2.ad (by omega))
  have f7 : ad4 (b + 7) = ad1 (b + 7) := d5.trans ((c2'.ad (by omega)).trans (b2.ad (by omega)))
  have hz : ∀ j, SF.2.1 (ad1 b) j = 0 := fun j => by rw [a1]; exact a4 j
  refine ⟨ad4, S4, g4, fun k => ?_, (m0.mono (fun r hr => by omega)).tr (mA.mono (fun r hr => by omega)), d3, by omega, ⟨⟨⟨?_, ?_, ?_, ?_, ?_, ?_, ?_⟩, ?_, ?_, ?_, ?_, ?_, ?_, ?_⟩, ⟨?_, ?_⟩, ⟨Nat.le_refl _, by decide, fun i hi => ?_, fun i hi => absurd hi (by show ¬ i < 0; omega), fun i hi => absurd hi (by show ¬ i < 0; omega)⟩, fun s hs => ⟨?_, ?_⟩, fun r hr => ⟨?_, ?_, ?_⟩, ⟨Nat.le_refl _, by decide, fun i hi => ⟨?_, ?_⟩, fun i hi => absurd hi (by show ¬ i < 0; omega), fun i hi => absurd hi (by show ¬ i < 0; omega)⟩, fun w hw => ⟨?_, ?_⟩⟩, ?_⟩
  · rw [al_D, i1, hSF, ← a1, show n_X1_init_68 N N SF.1 SF.2 (ad1 b) (0 : Int32) = _ from b1, ← eb2, show n_X1_init_95 N N S2 g2 (ad2 b) (0 : Int32) = _ from c1, ← eb3, show n_X1_init_122 N N S3 g3 (ad3 b) (0 : Int32) = _ from d1, tk_tk, tk_tk, tk_tk, tk_S, c5_S, tk_tk, eb3, eb2, ← eb4]
  · exact mA.P (by omega) (by omega) e0.1
  · rw [mA.R (by omega) 2, e2.1, f2]
  · rw [mA.R (by omega) 3, e3.1, f3]
  · exact mA.P (by omega) (by omega) e4.1
  · exact mA.P (by omega) (by omega) e5.1
  · exact mA.P (by omega) (by omega) e6.1
  · rw [mA.R (by omega) 8, e8.1, f7]
  · exact (mA.len (by omega)).trans e0.2.1
  · exact (d2.len (by omega)).trans ((c2'.len (by omega)).trans b6)
  · exact (d2.len (by omega)).trans c6
  · exact (mA.len (by omega)).trans e4.2.1
  · exact (mA.len (by omega)).trans e5.2.1
  · exact (mA.len (by omega)).trans e6.2.1
  · exact d6
  · rw [mA.I (by omega)]; exact hz 1
  · rw [mA.I (by omega)]; exact hz 7
  · rw [mA.R (by omega) i, e0.2.2.2.2 i]; rfl
  · rw [d2.R (by omega) s, c2'.R (by omega) s, (b7 s hs).1, d2.ad (by omega), c2'.ad (by omega)]
  · exact ((b7 s hs).2.1.mv c2' (fun r r1 r2 => by omega)).mv d2 (fun r r1 r2 => by omega)
  · rw [d2.R (by omega) r, (c7 r hr).1, d2.ad (by omega)]
  · exact HdO.mv (c7 r hr).2 d2 (fun r r1 r2 => by omega)
  · rw [mA.I (by omega)]; exact e4.2.2.1 r
  · rw [mA.R (by omega) i, e5.2.2.2.2 i]; rfl
  · rw [mA.R (by omega) i, e6.2.2.2.2 i]; rfl
  · exact (d7 w hw).1
  · exact ⟨(d7 w hw).2.1, (d7 w hw).2.2, fun h => absurd (show false = true from h) (by decide)⟩
  · have : ∀ s, s < 16 → 4096 - 2 * hpL S4 (ad4 (b + 300 + 4 * s + 3)) = 3840 := fun s hs => by
      have h1 := (b7 s hs).2.2
      rw [d2.len (by omega), c2'.len (by omega), h1]
    unfold phS
    rw [sumS_congr (f1 := fun _ => 3840) 16 this]
    rfl
