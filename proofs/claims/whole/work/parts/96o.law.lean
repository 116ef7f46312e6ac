/-! the law: one call behind the other -/
def LW (B : Nat) (S : Hs) (g : Hg) (ad : Nat → Nat) (m : Nat × Nat) (kc : AKp) (i : Nat) (k18 : Hs → Hg → Nat → Nat → Int32 → Option (Int32 × Hs × Hg × Nat × Nat)) (o : Option (Int32 × Hs × Hg × Nat × Nat)) : Prop := ∃ ad1 S1 g1 kk w h1 m1 kc1, o = tk kk w (k18 S1 g1 (ad 0) (ad 20000) (nI (i + 6))) ∧ Jn B S1 g1 ad1 m1 h1 kc1 ∧ ad1 0 = ad 0 ∧ ad1 20000 = ad 20000 ∧ 4 * kk + phi S1 ad1 m1 kc1 ≤ phi S ad m kc ∧ w + phi S1 ad1 m1 kc1 ≤ phi S ad m kc
theorem b_1462 {N L : Nat} {xs : Nat → Int32} {k18 : Hs → Hg → Nat → Nat → Int32 → Option (Int32 × Hs × Hg × Nat × Nat)} {S : Hs} {g : Hg} {a b i : Nat} : b_L_law_1462 N L xs k18 S g a b (nI i) = k18 S g a b (nI (i + 6)) := by
  unfold b_L_law_1462
  rw [nm_D, show nI i + 6 = nI (i + 6) from nI_add i 6]
theorem LW.d {B : Nat} {S : Hs} {g : Hg} {ad : Nat → Nat} {m : Nat × Nat} {h : AHo} {kc : AKp} {i N L : Nat} {xs : Nat → Int32} {k18 : Hs → Hg → Nat → Nat → Int32 → Option (Int32 × Hs × Hg × Nat × Nat)} (hJ : Jn B S g ad m h kc) : LW B S g ad m kc i k18 (b_L_law_1462 N L xs k18 S g (ad 0) (ad 20000) (nI i)) := ⟨ad, S, g, 0, 0, h, m, kc, by rw [b_1462, tk_0], hJ, rfl, rfl, by omega, by omega⟩
theorem LW.n {B : Nat} {S : Hs} {g : Hg} {ad : Nat → Nat} {m : Nat × Nat} {kc : AKp} {i N L : Nat} {xs : Nat → Int32} {k18 : Hs → Hg → Nat → Nat → Int32 → Option (Int32 × Hs × Hg × Nat × Nat)} {F G : Hg → Option (Int32 × Hg)} (h : StN B S g ad m kc F G) : LW B S g ad m kc i k18 (c2 (F g) (fun x g1 => c2 (G g1) (fun x' g2 => if x = x' then b_L_law_1462 N L xs k18 S g2 (ad 0) (ad 20000) (nI i) else some ((0 : Int32), S, g2, 0, 0)))) := by
  obtain ⟨r, g1, g2, h1, hF, hG, hJ⟩ := h
  exact ⟨ad, S, g2, 0, 0, h1, m, kc, by rw [hF, c2_S, hG, c2_S, if_pos rfl, b_1462, tk_0], hJ, rfl, rfl, by omega, by omega⟩
theorem LW.m {B : Nat} {S : Hs} {g : Hg} {ad : Nat → Nat} {m : Nat × Nat} {kc : AKp} {i N L : Nat} {xs : Nat → Int32} {k18 : Hs → Hg → Nat → Nat → Int32 → Option (Int32 × Hs × Hg × Nat × Nat)} {F : Hs → Hg → Option (Int32 × Hs × Hg × Nat × Nat)} {G : Hs → Hg → Option (Int32 × Hg)} (h : StM B S g ad m kc F G) : LW B S g ad m kc i k18 (c5 (F S g) (fun x S1 g1 => c2 (G S1 g1) (fun x' g2 => if x = x' then b_L_law_1462 N L xs k18 S1 g2 (ad 0) (ad 20000) (nI i) else some ((0 : Int32), S1, g2, 0, 0)))) := by
  obtain ⟨r, ad1, S1, g1, g2, k, w, h1, m1, kc1, hF, hG, hJ, e0, e2, c1, c2'⟩ := h
  exact ⟨ad1, S1, g2, k, w, h1, m1, kc1, by rw [hF, c5_S, hG, c2_S, if_pos rfl, b_1462], hJ, e0, e2, c1, c2'⟩
theorem law_18 {B N L : Nat} (hN : 40000 ≤ N) {xs : Nat → Int32} {k18 : Hs → Hg → Nat → Nat → Int32 → Option (Int32 × Hs × Hg × Nat × Nat)} {S : Hs} {g : Hg} {ad : Nat → Nat} {m : Nat × Nat} {h : AHo} {kc : AKp} {i : Nat} (hL : L ≤ 3072) (hi : i + 6 ≤ L) (hJ : Jn B S g ad m h kc) : LW B S g ad m kc i k18 (b_L_law_18 N L xs k18 S g (ad 0) (ad 20000) (nI i)) := by
  have b0 : inb (nI i) L = true := inb_nI (by omega) (by omega)
  have b1 : inb (nI i + (1 : Int32)) L = true := by rw [show nI i + (1 : Int32) = nI (i + 1) from nI_add i 1]; exact inb_nI (by omega) (by omega)
  have b2 : inb (nI i + (2 : Int32)) L = true := by rw [show nI i + (2 : Int32) = nI (i + 2) from nI_add i 2]; exact inb_nI (by omega) (by omega)
  have b3 : inb (nI i + (3 : Int32)) L = true := by rw [show nI i + (3 : Int32) = nI (i + 3) from nI_add i 3]; exact inb_nI (by omega) (by omega)
  have b4 : inb (nI i + (4 : Int32)) L = true := by rw [show nI i + (4 : Int32) = nI (i + 4) from nI_add i 4]; exact inb_nI (by omega) (by omega)
  have b5 : inb (nI i + (5 : Int32)) L = true := by rw [show nI i + (5 : Int32) = nI (i + 5) from nI_add i 5]; exact inb_nI (by omega) (by omega)
  have hc : ¬ (nI L - (6 : Int32)) < nI i := by
    rw [show nI L - (6 : Int32) = nI (L - 6) from sub_one (fr := 6) (by omega) (by omega)]
    exact nI_nlt (by omega) (by omega)
  unfold b_L_law_18
  rw [if_neg hc, b0, ck_T, nm_D]
  by_cases c0 : (xs (nI i).toNatClampNeg) &&& (31 : Int32) = 0
  · rw [if_pos c0]
    unfold b_L_law_176
    simp only [b1, b2, b3, b4, b5, ck_T]
    exact LW.m (tq_open hN hJ _)
  rw [if_neg c0]
  by_cases c1 : (xs (nI i).toNatClampNeg) &&& (31 : Int32) = 1
  · rw [if_pos c1]
    unfold b_L_law_199
    simp only [b1, b2, b3, b4, b5, ck_T]
    exact LW.n (t_add hN hJ _ _ _)
  rw [if_neg c1]
  by_cases c2 : (xs (nI i).toNatClampNeg) &&& (31 : Int32) = 2
  · rw [if_pos c2]
    unfold b_L_law_272
    simp only [b1, b2, b3, b4, b5, ck_T]
    exact LW.m (tq_fork hN hJ _ _)
  rw [if_neg c2]
  by_cases c3 : (xs (nI i).toNatClampNeg) &&& (31 : Int32) = 3
  · rw [if_pos c3]
    unfold b_L_law_305
    simp only [b1, b2, b3, b4, b5, ck_T]
    exact LW.n (t_hide hN hJ _ _)
  rw [if_neg c3]
  by_cases c4 : (xs (nI i).toNatClampNeg) &&& (31 : Int32) = 4
  · rw [if_pos c4]
    unfold b_L_law_338
    simp only [b1, b2, b3, b4, b5, ck_T]
    exact LW.n (t_lag hN hJ _ _)
  rw [if_neg c4]
  by_cases c5 : (xs (nI i).toNatClampNeg) &&& (31 : Int32) = 5
  · rw [if_pos c5]
    unfold b_L_law_371
    simp only [b1, b2, b3, b4, b5, ck_T]
    exact LW.n (t_prune hN hJ _ _)
  rw [if_neg c5]
  by_cases c6 : (xs (nI i).toNatClampNeg) &&& (31 : Int32) = 6
  · rw [if_pos c6]
    unfold b_L_law_404
    simp only [b1, b2, b3, b4, b5, ck_T]
    exact LW.n (t_keep hN hJ _ _)
  rw [if_neg c6]
  by_cases c7 : (xs (nI i).toNatClampNeg) &&& (31 : Int32) = 7
  · rw [if_pos c7]
    unfold b_L_law_437
    simp only [b1, b2, b3, b4, b5, ck_T]
    exact LW.n (t_count hN hJ _ _)
  rw [if_neg c7]
  by_cases c8 : (xs (nI i).toNatClampNeg) &&& (31 : Int32) = 8
  · rw [if_pos c8]
    unfold b_L_law_470
    simp only [b1, b2, b3, b4, b5, ck_T]
    exact LW.n (t_latest hN hJ _ _ _)
  rw [if_neg c8]
  by_cases c9 : (xs (nI i).toNatClampNeg) &&& (31 : Int32) = 9
  · rw [if_pos c9]
    unfold b_L_law_513
    simp only [b1, b2, b3, b4, b5, ck_T]
    exact LW.n (tq_head hN hJ _ _ _ _)
  rw [if_neg c9]
  by_cases c10 : (xs (nI i).toNatClampNeg) &&& (31 : Int32) = 10
  · rw [if_pos c10]
    unfold b_L_law_566
    simp only [b1, b2, b3, b4, b5, ck_T]
    exact LW.m (t_within hN hJ _ _ _ _)
  rw [if_neg c10]
  by_cases c11 : (xs (nI i).toNatClampNeg) &&& (31 : Int32) = 11
  · rw [if_pos c11]
    unfold b_L_law_619
    simp only [b1, b2, b3, b4, b5, ck_T]
    exact LW.m (t_grown hN hJ _ _ _ _)
  rw [if_neg c11]
  by_cases c12 : (xs (nI i).toNatClampNeg) &&& (31 : Int32) = 12
  · rw [if_pos c12]
    unfold b_L_law_672
    simp only [b1, b2, b3, b4, b5, ck_T]
    exact LW.m (t_held hN hJ _ _ _ _)
  rw [if_neg c12]
  by_cases c13 : (xs (nI i).toNatClampNeg) &&& (31 : Int32) = 13
  · rw [if_pos c13]
    unfold b_L_law_725
    simp only [b1, b2, b3, b4, b5, ck_T]
    exact LW.m (t_absent hN hJ _ _ _ _)
  rw [if_neg c13]
  by_cases c14 : (xs (nI i).toNatClampNeg) &&& (31 : Int32) = 14
  · rw [if_pos c14]
    unfold b_L_law_778
    simp only [b1, b2, b3, b4, b5, ck_T]
    exact LW.m (t_span hN hJ _ _ _ _ _)
  rw [if_neg c14]
  by_cases c15 : (xs (nI i).toNatClampNeg) &&& (31 : Int32) = 15
  · rw [if_pos c15]
    unfold b_L_law_841
    simp only [b1, b2, b3, b4, b5, ck_T]
    exact LW.n (t_drop hN hJ _)
  rw [if_neg c15]
  by_cases c16 : (xs (nI i).toNatClampNeg) &&& (31 : Int32) = 16
  · rw [if_pos c16]
    unfold b_L_law_864
    simp only [b1, b2, b3, b4, b5, ck_T]
    exact LW.n (t_proof hN hJ _ _)
  rw [if_neg c16]
  by_cases c17 : (xs (nI i).toNatClampNeg) &&& (31 : Int32) = 17
  · rw [if_pos c17]
    unfold b_L_law_897
    simp only [b1, b2, b3, b4, b5, ck_T]
    exact LW.n (t_step hN hJ _ _ _)
  rw [if_neg c17]
  by_cases c18 : (xs (nI i).toNatClampNeg) &&& (31 : Int32) = 18
  · rw [if_pos c18]
    unfold b_L_law_940
    simp only [b1, b2, b3, b4, b5, ck_T]
    exact LW.n (t_bend hN hJ _ _ _ _)
  rw [if_neg c18]
  by_cases c19 : (xs (nI i).toNatClampNeg) &&& (31 : Int32) = 19
  · rw [if_pos c19]
    unfold b_L_law_993
    simp only [b1, b2, b3, b4, b5, ck_T]
    exact LW.n (t_forge hN hJ _ _ _ _)
  rw [if_neg c19]
  by_cases c20 : (xs (nI i).toNatClampNeg) &&& (31 : Int32) = 20
  · rw [if_pos c20]
    unfold b_L_law_1076
    simp only [b1, b2, b3, b4, b5, ck_T]
    exact LW.n (t_check hN hJ _ _ _)
  rw [if_neg c20]
  by_cases c21 : (xs (nI i).toNatClampNeg) &&& (31 : Int32) = 21
  · rw [if_pos c21]
    unfold b_L_law_1119
    simp only [b1, b2, b3, b4, b5, ck_T]
    exact LW.m (t_take hN hJ _ _ _)
  rw [if_neg c21]
  by_cases c22 : (xs (nI i).toNatClampNeg) &&& (31 : Int32) = 22
  · rw [if_pos c22]
    unfold b_L_law_1162
    simp only [b1, b2, b3, b4, b5, ck_T]
    exact LW.m (t_talk hN hJ _ _)
  rw [if_neg c22]
  by_cases c23 : (xs (nI i).toNatClampNeg) &&& (31 : Int32) = 23
  · rw [if_pos c23]
    unfold b_L_law_1195
    simp only [b1, b2, b3, b4, b5, ck_T]
    exact LW.n (t_reader hN hJ _ _)
  rw [if_neg c23]
  by_cases c24 : (xs (nI i).toNatClampNeg) &&& (31 : Int32) = 24
  · rw [if_pos c24]
    unfold b_L_law_1228
    simp only [b1, b2, b3, b4, b5, ck_T]
    exact LW.n (t_blame hN hJ _ _)
  rw [if_neg c24]
  by_cases c25 : (xs (nI i).toNatClampNeg) &&& (31 : Int32) = 25
  · rw [if_pos c25]
    unfold b_L_law_1261
    simp only [b1, b2, b3, b4, b5, ck_T]
    exact LW.n (t_smear hN hJ _ _ _)
  rw [if_neg c25]
  by_cases c26 : (xs (nI i).toNatClampNeg) &&& (31 : Int32) = 26
  · rw [if_pos c26]
    unfold b_L_law_1304
    simp only [b1, b2, b3, b4, b5, ck_T]
    exact LW.n (t_watcher hN hJ _ _ _ _)
  rw [if_neg c26]
  by_cases c27 : (xs (nI i).toNatClampNeg) &&& (31 : Int32) = 27
  · rw [if_pos c27]
    unfold b_L_law_1357
    simp only [b1, b2, b3, b4, b5, ck_T]
    exact LW.n (t_watch hN hJ _)
  rw [if_neg c27]
  by_cases c28 : (xs (nI i).toNatClampNeg) &&& (31 : Int32) = 28
  · rw [if_pos c28]
    unfold b_L_law_1380
    simp only [b1, b2, b3, b4, b5, ck_T]
    exact LW.n (t_watching hN hJ _ _)
  rw [if_neg c28]
  by_cases c29 : (xs (nI i).toNatClampNeg) &&& (31 : Int32) = 29
  · rw [if_pos c29]
    unfold b_L_law_1413
    simp only [b1, b2, b3, b4, b5, ck_T]
    exact LW.n (t_all hN hJ _)
  rw [if_neg c29]
  by_cases c30 : (xs (nI i).toNatClampNeg) &&& (31 : Int32) = 30
  · rw [if_pos c30]
    unfold b_L_law_1436
    skip
    exact LW.m (t_image hN hJ)
  rw [if_neg c30]
  by_cases c31 : (xs (nI i).toNatClampNeg) &&& (31 : Int32) = 31
  · rw [if_pos c31]
    unfold b_L_law_1449
    skip
    exact LW.m (t_back hN hJ)
  rw [if_neg c31]
  exact LW.d hJ
theorem law_end {L i : Nat} (hL : L ≤ 3072 ∧ i ≤ L) (hi : L < i + 6) : (nI L - (6 : Int32)) < nI i := by
  by_cases c : 6 ≤ L
  · rw [show nI L - (6 : Int32) = nI (L - 6) from sub_one (fr := 6) c (by omega)]
    exact nI_lt (by omega) (by omega)
  · have h5 : ∀ L, L < 6 → (nI L - (6 : Int32)) < nI 0 := by decide
    have h6 := h5 L (by omega)
    exact Int32.lt_of_lt_of_le h6 (nI_le (Nat.zero_le i) (by omega))
theorem law_loop {B N L : Nat} (hN : 40000 ≤ N) {xs : Nat → Int32} (hL : L ≤ 3072) : ∀ (f n i : Nat) (S : Hs) (g : Hg) (ad : Nat → Nat) (m : Nat × Nat) (h : AHo) (kc : AKp), L < i + 6 * f + 6 → f < n → i ≤ L → Jn B S g ad m h kc →
    ∃ S1 g1 k w, n_L_law_18 N L xs n S g (ad 0) (ad 20000) (nI i) = some ((1 : Int32), S1, g1, k, w) ∧ 4 * k ≤ phi S ad m kc ∧ w ≤ phi S ad m kc := by
  intro f
  induction f with
  | zero =>
    intro n i S g ad m h kc h1 h2 h3 hJ
    obtain ⟨n, rfl⟩ : ∃ z, n = z + 1 := ⟨n - 1, by omega⟩
    refine ⟨S, g, 0, 0, ?_, by omega, by omega⟩
    show b_L_law_18 N L xs _ S g _ _ _ = _
    unfold b_L_law_18
    rw [if_pos (law_end ⟨hL, h3⟩ (by omega))]
  | succ f ih =>
    intro n i S g ad m h kc h1 h2 h3 hJ
    obtain ⟨n, rfl⟩ : ∃ z, n = z + 1 := ⟨n - 1, by omega⟩
    by_cases c : i + 6 ≤ L
    · obtain ⟨ad1, S1, g1, kk, w, h1', m1, kc1, e, hJ1, e0, e2, d1, d2⟩ := law_18 (N := N) (xs := xs) (k18 := n_L_law_18 N L xs n) hN hL c hJ
      obtain ⟨S2, g2, k2, w2, a1, a2, a3⟩ := ih n (i + 6) S1 g1 ad1 m1 h1' kc1 (by omega) (by omega) (by omega) hJ1
      rw [e0, e2] at a1
      refine ⟨S2, g2, kk + k2, w + w2, ?_, by omega, by omega⟩
      show b_L_law_18 N L xs (n_L_law_18 N L xs n) S g _ _ _ = _
      rw [e, a1, tk_S]
    · refine ⟨S, g, 0, 0, ?_, by omega, by omega⟩
      show b_L_law_18 N L xs _ S g _ _ _ = _
      unfold b_L_law_18
      rw [if_pos (law_end ⟨hL, h3⟩ (by omega))]
