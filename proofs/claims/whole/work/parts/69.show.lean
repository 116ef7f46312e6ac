/-! how many BLOCKS there are from one place to another one -/
theorem blF_max {a b : Nat} : ∀ (f e : Nat), e + f = 8 → b < 512 → b < a + 2 ^ (blF a b f e + 1) ∨ ¬ 2 ^ (blF a b f e + 1) ∣ a
  | 0, e, h, hb => by
    left
    have : e = 8 := by omega
    subst this
    show b < a + 2 ^ (8 + 1)
    omega
  | f + 1, e, h, hb => by
    unfold blF
    by_cases hc : a % 2 ^ (e + 1) = 0 ∧ a + 2 ^ (e + 1) ≤ b
    · rw [if_pos hc]
      exact blF_max f (e + 1) (by omega) hb
    · rw [if_neg hc]
      by_cases h1 : a + 2 ^ (e + 1) ≤ b
      · right
        intro hd
        exact hc ⟨Nat.mod_eq_zero_of_dvd hd, h1⟩
      · left
        omega
theorem bl_max {a b : Nat} (hb : b < 512) : b < a + 2 ^ (bl a b + 1) ∨ ¬ 2 ^ (bl a b + 1) ∣ a := blF_max 8 0 (by omega) hb
def nbF (b : Nat) : Nat → Nat → Nat
  | 0, _ => 0
  | f + 1, p => if p < b then nbF b f (p + 2 ^ bl p b) + 1 else 0
/-- how many BLOCKS from a to b -/
def nb (a b : Nat) : Nat := nbF b (b - a) a
theorem nbF_fall {b : Nat} (hb : b < 512) : ∀ (e f p : Nat), 2 ^ e ∣ p → b < p + 2 ^ e → nbF b f p ≤ e
  | e, 0, p, _, _ => Nat.zero_le _
  | e, f + 1, p, hd, hr => by
    unfold nbF
    by_cases hc : p < b
    · rw [if_pos hc]
      obtain ⟨o1, o2, o3⟩ := bl_ok hc
      have h1 : bl p b < e := by
        apply Classical.byContradiction
        intro hn
        have := Nat.pow_le_pow_right (n := 2) (by decide) (show e ≤ bl p b by omega)
        omega
      have h2 : 2 ^ (bl p b + 1) ∣ p := Nat.dvd_trans (Nat.pow_dvd_pow 2 (by omega)) hd
      have h3 := (bl_max (a := p) hb).resolve_right (fun n => n h2)
      have hpw : 2 ^ (bl p b + 1) = 2 ^ bl p b + 2 ^ bl p b := by rw [Nat.pow_succ]; omega
      have := nbF_fall hb (bl p b) f (p + 2 ^ bl p b) (Nat.dvd_add o1 (Nat.dvd_refl _)) (by omega)
      omega
    · rw [if_neg hc]
      exact Nat.zero_le _
theorem nbF_rise {b : Nat} (hb : b < 512) : ∀ (f e p : Nat), e ≤ 9 → 2 ^ e ∣ p → nbF b f p ≤ 18 - e
  | 0, e, p, _, _ => Nat.zero_le _
  | f + 1, e, p, he, hd => by
    unfold nbF
    by_cases hc : p < b
    · rw [if_pos hc]
      obtain ⟨o1, o2, o3⟩ := bl_ok hc
      have hpw : 2 ^ (bl p b + 1) = 2 ^ bl p b + 2 ^ bl p b := by rw [Nat.pow_succ]; omega
      rcases bl_max (a := p) hb with h | h
      · have := nbF_fall hb (bl p b) f (p + 2 ^ bl p b) (Nat.dvd_add o1 (Nat.dvd_refl _)) (by omega)
        omega
      · have h1 : e ≤ bl p b := by
          apply Classical.byContradiction
          intro hn
          exact h (Nat.dvd_trans (Nat.pow_dvd_pow 2 (by omega)) hd)
        have h2 : 2 ^ (bl p b + 1) ∣ p + 2 ^ bl p b := by
          obtain ⟨q, hq⟩ := o1
          have hodd : q % 2 = 1 := by
            apply Classical.byContradiction
            intro hn
            exact h ⟨q / 2, by rw [Nat.pow_succ, Nat.mul_assoc, show 2 * (q / 2) = q by omega]; exact hq⟩
          refine ⟨(q + 1) / 2, ?_⟩
          rw [Nat.pow_succ, Nat.mul_assoc, show 2 * ((q + 1) / 2) = q + 1 by omega, Nat.mul_succ, ← hq]
        have := nbF_rise hb f (bl p b + 1) (p + 2 ^ bl p b) (by omega) h2
        omega
    · rw [if_neg hc]
      exact Nat.zero_le _
theorem nb_le {a b : Nat} (hb : b < 512) : nb a b ≤ 18 := nbF_rise hb (b - a) 0 a (by omega) (by simp)
/-- the STEPS of the BLOCKS from p on -/
def blkF (sum : Nat → Nat → Nat → Int32) (b : Nat) : Nat → Nat → ASl → ASl
  | 0, _, X => X
  | f + 1, p, X => if p < b then blkF sum b f (p + 2 ^ bl p b) (stepX X (sum p (bl p b))) else X
def blkX (sum : Nat → Nat → Nat → Int32) (a b : Nat) (X : ASl) : ASl := blkF sum b (b - a) a X
theorem blkF_sc (sum : Nat → Nat → Nat → Int32) (b : Nat) : ∀ (f p : Nat) (X : ASl), (blkF sum b f p X).2.2.1 = X.2.2.1 + nbF b f p ∧ (blkF sum b f p X).1 = X.1 ∧ (blkF sum b f p X).2.1 = X.2.1
  | 0, _, _ => ⟨rfl, rfl, rfl⟩
  | f + 1, p, X => by
    unfold blkF nbF
    by_cases hc : p < b
    · rw [if_pos hc, if_pos hc]
      obtain ⟨h1, h2, h3⟩ := blkF_sc sum b f (p + 2 ^ bl p b) (stepX X (sum p (bl p b)))
      refine ⟨?_, h2, h3⟩
      rw [h1]
      show X.2.2.1 + 1 + _ = _
      omega
    · rw [if_neg hc, if_neg hc]
      exact ⟨rfl, rfl, rfl⟩
theorem blkX_sc (sum : Nat → Nat → Nat → Int32) (a b : Nat) (X : ASl) : (blkX sum a b X).2.2.1 = X.2.2.1 + nb a b ∧ (blkX sum a b X).1 = X.1 ∧ (blkX sum a b X).2.1 = X.2.1 := blkF_sc sum b (b - a) a X
/-! a LOG of the class at role b holds A -/
def CLog (g : Hg) (ad : Nat → Nat) (b : Nat) (A : ALog) : Prop :=
  (g.1 (ad b) 6 = lkp A ∧ g.1 (ad b) 7 = nI (lsz A)) ∧ CNum g ad b A ∧ (∀ i, i < lsz A → g.1 (ad (b + 4)) i = nI (lft A i)) ∧ (∀ i, i < lsz A → lft A i ≠ 2 → g.2.1 (ad (b + 5)) i = lvl A i) ∧
  SumsR (lky A) (lvl A) (lsz A) (g.1 (ad (b + 6))) ∧ CKy g ad b A ∧ CMark g ad b A ∧ (g.1 (ad b) 9 = NEG ∨ ∃ n, n ≤ lsz A ∧ g.1 (ad b) 9 = nI n ∧ eq8 (g.1 (ad (b + 7))) (TREEA A n))
def CLO (S : Hs) (g : Hg) (ad : Nat → Nat) (b : Nat) (A : ALog) : Prop := LgP S g ad b ∧ CLog g ad b A ∧ LogWf A
theorem CLog.eq {g g1 : Hg} {ad ad1 : Nat → Nat} {b : Nat} {A : ALog} (h : CLog g ad b A) (e : ∀ r, b ≤ r → r < b + 14 → g1.1 (ad1 r) = g.1 (ad r) ∧ g1.2.1 (ad1 r) = g.2.1 (ad r)) : CLog g1 ad1 b A := by
  have i : ∀ r, r < 14 → g1.1 (ad1 (b + r)) = g.1 (ad (b + r)) := fun r h => (e (b + r) (by omega) (by omega)).1
  have i0 : g1.1 (ad1 b) = g.1 (ad b) := (e b (by omega) (by omega)).1
  have l5 : g1.2.1 (ad1 (b + 5)) = g.2.1 (ad (b + 5)) := (e (b + 5) (by omega) (by omega)).2
  unfold CLog CNum CKy CKey CMark at h ⊢
  rw [i0, l5, i 1 (by omega), i 2 (by omega), i 3 (by omega), i 4 (by omega), i 6 (by omega), i 7 (by omega), i 8 (by omega), i 9 (by omega), i 10 (by omega), i 11 (by omega), i 12 (by omega), i 13 (by omega)]
  exact h
theorem CLO.mv {R : Nat → Prop} {ad ad1 : Nat → Nat} {S S1 : Hs} {g g1 : Hg} {b : Nat} {A : ALog} (h : CLO S g ad b A) (hm : Mv R ad S g ad1 S1 g1) (n : ∀ r, b ≤ r → r < b + 14 → ¬ R r) : CLO S1 g1 ad1 b A := ⟨h.1.mv hm n, h.2.1.eq (fun r h1 h2 => ⟨hm.I (n r h1 h2), hm.L (n r h1 h2)⟩), h.2.2⟩
theorem CLO.fr {R : Nat → Prop} {ad : Nat → Nat} {S : Hs} {g g1 : Hg} {b : Nat} {A : ALog} (h : CLO S g ad b A) (hm : Fr ad R g g1) (n : ∀ r, b ≤ r → r < b + 14 → ¬ R r) : CLO S g1 ad b A := h.mv (Mv.fr hm) n
def LSUM (A : ALog) : Nat → Nat → Nat → Int32 := fun q e => BS (lky A) (lvl A) e q
/-- result of what writes a PROOF at role p -/
def PfR (B : Nat) (R : Nat → Prop) (ad : Nat → Nat) (S : Hs) (g : Hg) (p : Nat) (X : ASl) (ad1 : Nat → Nat) (S1 : Hs) (g1 : Hg) (k w : Nat) : Prop := Mv R ad S g ad1 S1 g1 ∧ AdOk B ad1 S1 ∧ ad1 p = ad p ∧ PfO S1 g1 ad1 p X ∧ Gw ad S ad1 S1 p k w
theorem PfR.tr {B : Nat} {R : Nat → Prop} {ad ad1 ad2 : Nat → Nat} {S S1 S2 : Hs} {g g1 g2 : Hg} {p : Nat} {X X1 : ASl} {k w k1 w1 : Nat} (h : PfR B R ad S g p X ad1 S1 g1 k w) (h1 : PfR B R ad1 S1 g1 p X1 ad2 S2 g2 k1 w1) : PfR B R ad S g p X1 ad2 S2 g2 (k + k1) (w + w1) := ⟨h.1.tr h1.1, h1.2.1, h1.2.2.1.trans h.2.2.1, h1.2.2.2.1, h.2.2.2.2.tr h1.2.2.2.2⟩
theorem PfR.mono {B : Nat} {R Q : Nat → Prop} {ad ad1 : Nat → Nat} {S S1 : Hs} {g g1 : Hg} {p : Nat} {X : ASl} {k w : Nat} (h : PfR B R ad S g p X ad1 S1 g1 k w) (hq : ∀ r, R r → Q r) : PfR B Q ad S g p X ad1 S1 g1 k w := ⟨h.1.mono hq, h.2⟩
theorem c_showBlocks6 {N B : Nat} (hN : 40000 ≤ N) {b p bb : Nat} {A : ALog} (hbb : bb ≤ lsz A) (hpb : b + 14 ≤ p ∨ p + 4 ≤ b) : ∀ (f n q : Nat) (ad : Nat → Nat) (S : Hs) (g : Hg) (X : ASl), bb ≤ q + f → q ≤ bb → f < n → AdOk B ad S → CLO S g ad b A → PfO S g ad p X → Room B ad S p → X.2.2.1 + nbF bb f q ≤ 256 →
    ∃ ad1 S1 g1 k w, n_X3_showBlocks_6 N n S g (ad b) (ad p) (nI bb) (nI q) = some ((), S1, g1, k, w) ∧ PfR B (fun r => r = p ∨ r = p + 3) ad S g p (blkF (LSUM A) bb f q X) ad1 S1 g1 k w := by
  intro f
  induction f with
  | zero =>
    intro n q ad S g X h1 h2 h3 hA hC hO hB hs
    obtain ⟨n, rfl⟩ : ∃ z, n = z + 1 := ⟨n - 1, by omega⟩
    obtain rfl : q = bb := by omega
    refine ⟨ad, S, g, 0, 0, ?_, Mv.rf, hA, rfl, hO, Gw.rf⟩
    show b_X3_showBlocks_6 N (n_X3_showBlocks_6 N n) S g _ _ _ _ = _
    unfold b_X3_showBlocks_6
    rw [if_pos (Int32.le_refl _)]
  | succ f ih =>
    intro n q ad S g X h1 h2 h3 hA hC hO hB hs
    obtain ⟨n, rfl⟩ : ∃ z, n = z + 1 := ⟨n - 1, by omega⟩
    have hsz := hC.2.2.1
    unfold blkF
    unfold nbF at hs
    by_cases hc : q < bb
    · rw [if_pos hc]
      rw [if_pos hc] at hs
      obtain ⟨o1, o2, o3⟩ := bl_ok hc
      have hp1 : 1 ≤ 2 ^ bl q bb := Nat.one_le_two_pow
      obtain ⟨s1, s2⟩ := sums_at hC.2.1.2.2.2.2.1 hbb hsz hc
      have l6 := hC.1.2.2.2.1.2.2.2.1
      obtain ⟨ad1, S1, g1, k, w, t1, t2, t3, t4, t5, t6⟩ := c_tellStep (N := N) hA (rs := b + 6) (p := lvS (bl q bb) + q / 2 ^ bl q bb) (x := nI (lvS (bl q bb) + q / 2 ^ bl q bb)) rfl hO hB (by omega) (by omega) (by rw [l6]; omega) (by rw [l6]; decide) s2
      obtain ⟨ad2, S2, g2, k2, w2, u1, u2⟩ := ih n (q + 2 ^ bl q bb) ad1 S1 g1 (stepX X (BS (lky A) (lvl A) (bl q bb) q)) (by omega) o2 (by omega) t3 (hC.mv t2 (fun r r1 r2 => by omega)) t5 (hB.gw t6) (by show X.2.2.1 + 1 + _ ≤ _; omega)
      refine ⟨ad2, S2, g2, k + k2, w + w2, ?_, PfR.tr ⟨t2, t3, t4, t5, t6⟩ u2⟩
      show b_X3_showBlocks_6 N (n_X3_showBlocks_6 N n) S g _ _ _ _ = _
      unfold b_X3_showBlocks_6
      rw [if_neg (nI_ge hc (by omega)), c_blockLevel (show 30 ≤ N by omega) rfl rfl (by omega) (by omega), c2_S, hC.1.1.2.2.2.2.2.1, nn_S, inb_nI (show bl q bb < 9 by omega) (by decide), ck_T, shl_1 o3, shr_e (by omega) o3, nI_clamp (show bl q bb < 2 ^ 31 by omega), lvT_lvS (by omega), nI_add, t1, c5_S, nm_D, nI_add]
      rw [t2.ad (show ¬ (b = p ∨ b = p + 3) by omega), t4] at u1
      rw [u1, tk_S]
    · rw [if_neg hc]
      obtain rfl : q = bb := by omega
      refine ⟨ad, S, g, 0, 0, ?_, Mv.rf, hA, rfl, hO, Gw.rf⟩
      show b_X3_showBlocks_6 N (n_X3_showBlocks_6 N n) S g _ _ _ _ = _
      unfold b_X3_showBlocks_6
      rw [if_pos (Int32.le_refl _)]
theorem c_showBlocks {N B : Nat} (hN : 40000 ≤ N) {S : Hs} {g : Hg} {ad : Nat → Nat} {b p a bb : Nat} {A : ALog} {X : ASl} {x2 x3 : Int32} (e2 : x2 = nI a) (e3 : x3 = nI bb) (hab : a ≤ bb) (hbb : bb ≤ lsz A) (hpb : b + 14 ≤ p ∨ p + 4 ≤ b) (hA : AdOk B ad S) (hC : CLO S g ad b A) (hO : PfO S g ad p X) (hB : Room B ad S p) (hs : X.2.2.1 ≤ 200) :
    ∃ ad1 S1 g1 k w, f_X3_showBlocks N S g (ad b) (ad p) x2 x3 = some ((), S1, g1, k, w) ∧ PfR B (fun r => r = p ∨ r = p + 3) ad S g p (blkX (LSUM A) a bb X) ad1 S1 g1 k w := by
  subst e2; subst e3
  have hsz := hC.2.2.1
  have h18 : nb a bb ≤ 18 := nb_le (by omega)
  have h18 : nbF bb (bb - a) a ≤ 18 := h18
  exact c_showBlocks6 hN hbb hpb (bb - a) N a ad S g X (by omega) hab (by omega) hA hC hO hB (by omega)
theorem c_begin {N : Nat} {S : Hs} {g : Hg} {ad : Nat → Nat} (hI : Inj ad) {p : Nat} (kind n first : Int32) (hP : PfP S g ad p) : ∃ g1, f_X7_begin N S g (ad p) kind n first = some ((), g1) ∧ Fr ad (fun r => r = p) g g1 ∧ PfO S g1 ad p (begX kind n first) := by
  refine ⟨rowI g (ad p) (upd (upd (upd (upd (upd (upd (upd (upd (upd (g.1 (ad p)) 5 kind) 6 n) 7 first) 8 (nI 0)) 9 (nI 0)) 10 (nI 0)) 11 (nI 0)) 3 (nI 0)) 4 (nI 0)), ?_, ?_, ?_⟩
  · show b_X7_begin_0 N S g _ _ _ _ = _
    unfold b_X7_begin_0
    simp (disch := (first | assumption | omega | (apply Inj.ne <;> first | assumption | omega) | fail)) only [nn_S, nm_D, ck_T, c2_S, on_N, on_S, lit, mNEG, nI_add, pk_mul, inb_nI, nI_clamp, wrI_row, wrL_row, rdR_rowI, rdR_rowL, rdI_def, rdL_def, rowI_same, rowI_ne, rowI_rowI, rowL_same, rowL_ne, rowL_1, rowI_21, upd_same, upd_ne, nI_le_T, nI_le_F, nI_lt_T, nI_lt_F, nI_eq_F, nI_NEG, NEG_lt0, nI_p, eq_self, if_true, if_false]
  · exact Fr.row hI rfl
  · refine ⟨hP.fr rfl, ⟨⟨?_, ?_, ?_, ?_, ?_, ?_, ?_, ?_, ?_⟩, fun i hi => absurd hi (by show ¬ i < 0; omega), fun s hs => absurd hs (by show ¬ s < 0; omega)⟩, by show 8 * 0 ≤ _; omega⟩
    all_goals (simp (disch := (first | assumption | omega | (apply Inj.ne <;> first | assumption | omega) | fail)) only [nn_S, nm_D, ck_T, c2_S, on_N, on_S, lit, mNEG, nI_add, pk_mul, inb_nI, nI_clamp, wrI_row, wrL_row, rdR_rowI, rdR_rowL, rdI_def, rdL_def, rowI_same, rowI_ne, rowI_rowI, rowL_same, rowL_ne, rowL_1, rowI_21, upd_same, upd_ne, nI_le_T, nI_le_F, nI_lt_T, nI_lt_F, nI_eq_F, nI_NEG, NEG_lt0, nI_p, eq_self, if_true, if_false]; rfl)
theorem c_tellEntry {N : Nat} {S : Hs} {g : Hg} {ad : Nat → Nat} (hI : Inj ad) {p : Nat} {X : ASl} (key : Int32) (v : Int64) (hO : PfO S g ad p X) (hc : X.2.1.1 < 40) : ∃ g1, f_X7_tellEntry N S g (ad p) key v = some ((), g1) ∧ Fr ad (fun r => r = p ∨ r = p + 1 ∨ r = p + 2) g g1 ∧ PfO S g1 ad p (entX X key v) := by
  obtain ⟨hP, ⟨⟨v3, v4, v5, v6, v7, v8, v9, v10, v11⟩, ve, vs⟩, hf⟩ := hO
  refine ⟨rowI (rowL (rowI g (ad (p + 1)) (upd (g.1 (ad (p + 1))) X.2.1.1 key)) (ad (p + 2)) (fun k => if k = X.2.1.1 then v else g.2.1 (ad (p + 2)) k)) (ad p) (upd (g.1 (ad p)) 3 (nI (X.2.1.1 + 1))), ?_, ?_, ?_⟩
  · show b_X7_tellEntry_0 N S g _ _ _ = _
    unfold b_X7_tellEntry_0
    simp (disch := (first | assumption | omega | (apply Inj.ne <;> first | assumption | omega) | fail)) only [nn_S, nm_D, ck_T, c2_S, on_N, on_S, lit, mNEG, nI_add, pk_mul, inb_nI, nI_clamp, wrI_row, wrL_row, rdR_rowI, rdR_rowL, rdI_def, rdL_def, rowI_same, rowI_ne, rowI_rowI, rowL_same, rowL_ne, rowL_1, rowI_21, upd_same, upd_ne, nI_le_T, nI_le_F, nI_lt_T, nI_lt_F, nI_eq_F, nI_NEG, NEG_lt0, nI_p, eq_self, if_true, if_false, v3, hP.1, hP.2.1, hP.2.2.2.1, hP.2.2.2.2.1]
  · exact Fr.rt hI (fr_rlt hI (Fr.row hI (Or.inl rfl)) (Or.inr (Or.inr rfl))) (Or.inr (Or.inl rfl))
  · refine ⟨hP.fr rfl, ⟨⟨?_, ?_, ?_, ?_, ?_, ?_, ?_, ?_, ?_⟩, fun i hi => ?_, fun s hs => ?_⟩, hf⟩
    all_goals try (simp (disch := (first | assumption | omega | (apply Inj.ne <;> first | assumption | omega) | fail)) only [nn_S, nm_D, ck_T, c2_S, on_N, on_S, lit, mNEG, nI_add, pk_mul, inb_nI, nI_clamp, wrI_row, wrL_row, rdR_rowI, rdR_rowL, rdI_def, rdL_def, rowI_same, rowI_ne, rowI_rowI, rowL_same, rowL_ne, rowL_1, rowI_21, upd_same, upd_ne, nI_le_T, nI_le_F, nI_lt_T, nI_lt_F, nI_eq_F, nI_NEG, NEG_lt0, nI_p, eq_self, if_true, if_false]; first | assumption | rfl)
    · have hi : i < X.2.1.1 + 1 := hi
      simp (disch := (first | assumption | omega | (apply Inj.ne <;> first | assumption | omega) | fail)) only [nn_S, nm_D, ck_T, c2_S, on_N, on_S, lit, mNEG, nI_add, pk_mul, inb_nI, nI_clamp, wrI_row, wrL_row, rdR_rowI, rdR_rowL, rdI_def, rdL_def, rowI_same, rowI_ne, rowI_rowI, rowL_same, rowL_ne, rowL_1, rowI_21, upd_same, upd_ne, nI_le_T, nI_le_F, nI_lt_T, nI_lt_F, nI_eq_F, nI_NEG, NEG_lt0, nI_p, eq_self, if_true, if_false]
      by_cases e : i = X.2.1.1
      · subst e
        rw [upd_same, if_pos rfl]
        exact ⟨(upd_same _ _ _).symm, (if_pos rfl).symm⟩
      · rw [upd_ne _ _ e, if_neg e]
        obtain ⟨w1, w2⟩ := ve i (by omega)
        exact ⟨by rw [w1]; exact (upd_ne _ _ e).symm, by rw [w2]; exact (if_neg e).symm⟩
    · simp (disch := (first | assumption | omega | (apply Inj.ne <;> first | assumption | omega) | fail)) only [nn_S, nm_D, ck_T, c2_S, on_N, on_S, lit, mNEG, nI_add, pk_mul, inb_nI, nI_clamp, wrI_row, wrL_row, rdR_rowI, rdR_rowL, rdI_def, rdL_def, rowI_same, rowI_ne, rowI_rowI, rowL_same, rowL_ne, rowL_1, rowI_21, upd_same, upd_ne, nI_le_T, nI_le_F, nI_lt_T, nI_lt_F, nI_eq_F, nI_NEG, NEG_lt0, nI_p, eq_self, if_true, if_false]
      exact vs s hs
