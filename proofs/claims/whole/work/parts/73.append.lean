theorem lvS_inj {l q l1 q1 : Nat} (h : l < 9) (h1 : l1 < 9) (hq : (q + 1) * 2 ^ l ≤ 400) (hq1 : (q1 + 1) * 2 ^ l1 ≤ 400) (e : lvS l + q = lvS l1 + q1) : l = l1 ∧ q = q1 := by
  have a : l = 0 ∨ l = 1 ∨ l = 2 ∨ l = 3 ∨ l = 4 ∨ l = 5 ∨ l = 6 ∨ l = 7 ∨ l = 8 := by omega
  have b : l1 = 0 ∨ l1 = 1 ∨ l1 = 2 ∨ l1 = 3 ∨ l1 = 4 ∨ l1 = 5 ∨ l1 = 6 ∨ l1 = 7 ∨ l1 = 8 := by omega
  rcases a with rfl | rfl | rfl | rfl | rfl | rfl | rfl | rfl | rfl <;> rcases b with rfl | rfl | rfl | rfl | rfl | rfl | rfl | rfl | rfl <;> simp [lvS] at e hq hq1 ⊢ <;> omega
def SumsG (key : Nat → Int32) (val : Nat → Int64) (bd : Nat → Nat) (row : Nat → Int32) : Prop := ∀ l q, l < 9 → (q + 1) * 2 ^ l ≤ bd l → eq8 (seg row (8 * (lvS l + q))) (BS key val l (q * 2 ^ l))
theorem c_jfb2 {N : Nat} (hN : 40000 ≤ N) {S : Hs} {ad : Nat → Nat} (hI : Inj ad) {b sz : Nat} (hb : 100 ≤ b) (key : Nat → Int32) (val : Nat → Int64) (h1 : 1 ≤ sz) (h4 : sz ≤ 400) : ∀ (i n l : Nat) (g : Hg), l + i = 9 → i < n → 1 ≤ l → ScP S g ad → LgP S g ad b → g.1 (ad b) 7 = nI sz → SumsG key val (fun z => if z < l then sz else sz - 1) (g.1 (ad (b + 6))) →
    ∃ g1, n_X3_joinFullBlocks_2 N S n g (ad b) (ad 1) (nI l) = some ((), g1) ∧ Fr ad (fun r => r = 2 ∨ r = 3 ∨ r = b + 6) g g1 ∧ SumsR key val sz (g1.1 (ad (b + 6))) := by
  intro i
  induction i with
  | zero =>
    intro n l g e hn hl hS hP h7 hG
    obtain ⟨n, rfl⟩ : ∃ z, n = z + 1 := ⟨n - 1, by omega⟩
    refine ⟨g, ?_, Fr.rf, fun l1 q a1 a2 => hG l1 q a1 (by show _ ≤ (if l1 < l then sz else sz - 1); rw [if_pos (by omega)]; exact a2)⟩
    show b_X3_joinFullBlocks_2 N S (n_X3_joinFullBlocks_2 N S n) g _ _ _ = _
    unfold b_X3_joinFullBlocks_2
    simp (disch := (first | assumption | omega | (apply Inj.ne <;> first | assumption | omega) | fail)) only [nn_S, nm_D, ck_T, c2_S, on_N, on_S, lit, mNEG, nI_add, pk_mul, inb_nI, nI_clamp, wrI_row, wrL_row, rdR_rowI, rdR_rowL, rdI_def, rdL_def, rowI_same, rowI_ne, rowI_rowI, rowL_same, rowL_ne, rowL_1, rowI_21, upd_same, upd_ne, nI_le_T, nI_le_F, nI_lt_T, nI_lt_F, nI_eq_F, nI_NEG, NEG_lt0, nI_p, eq_self, if_true, if_false]
  | succ i ih =>
    intro n l g e hn hl hS hP h7 hG
    obtain ⟨n, rfl⟩ : ∃ z, n = z + 1 := ⟨n - 1, by omega⟩
    have l6 := hP.2.2.2.1.2.2.2.1
    have hp2 : 0 < 2 ^ l := Nat.two_pow_pos _
    have hpm : 2 ^ l ≤ 2 ^ 8 := Nat.pow_le_pow_right (by decide) (by omega)
    have hshl := shl_1 (e := l) (by omega)
    have hrem : nI sz - nI sz / nI (2 ^ l) * nI (2 ^ l) = nI (sz % 2 ^ l) := pk_rem (by omega) hp2 (by omega)
    by_cases hc : sz % 2 ^ l = 0
    · obtain ⟨k, hk⟩ : ∃ k, sz = (k + 1) * 2 ^ l := by
        obtain ⟨q, hq⟩ := Nat.dvd_of_mod_eq_zero hc
        have : q ≠ 0 := fun z => by rw [z] at hq; omega
        exact ⟨q - 1, by rw [show q - 1 + 1 = q by omega, Nat.mul_comm]; exact hq⟩
      have hdiv : sz / 2 ^ l = k + 1 := by rw [hk]; exact Nat.mul_div_cancel _ hp2
      obtain ⟨e0, he0⟩ : ∃ e0, l = e0 + 1 := ⟨l - 1, by omega⟩
      have hpw : 2 ^ l = 2 * 2 ^ e0 := by rw [he0, Nat.pow_succ]; omega
      have hp0 : 0 < 2 ^ e0 := Nat.two_pow_pos _
      have m1 : (2 * k + 1) * 2 ^ e0 + 2 ^ e0 = sz := by rw [hk, hpw]; simp only [Nat.add_mul, Nat.mul_assoc, Nat.one_mul]; rw [show k * (2 * 2 ^ e0) = 2 * (k * 2 ^ e0) by rw [← Nat.mul_assoc, Nat.mul_comm k 2, Nat.mul_assoc]]; omega
      have m2 : (2 * k + 1 + 1) * 2 ^ e0 = sz := by rw [Nat.succ_mul]; exact m1
      have m3 : (2 * k + 1) * 2 ^ e0 ≤ sz := by omega
      have m4 : 2 * k * 2 ^ e0 = k * 2 ^ l := by rw [hpw, ← Nat.mul_assoc, Nat.mul_comm 2 k]
      have m5 : (2 * k + 1) * 2 ^ e0 = k * 2 ^ l + 2 ^ e0 := by rw [Nat.add_mul, Nat.one_mul, m4]
      have b1 : eq8 (seg (g.1 (ad (b + 6))) (8 * (lvS e0 + 2 * k))) (BS key val e0 (k * 2 ^ l)) := by
        have := hG e0 (2 * k) (by omega) (by show _ ≤ (if e0 < l then sz else sz - 1); rw [if_pos (by omega)]; exact m3)
        rw [m4] at this
        exact this
      have b2 : eq8 (seg (g.1 (ad (b + 6))) (8 * (lvS e0 + 2 * k + 1))) (BS key val e0 (k * 2 ^ l + 2 ^ e0)) := by
        have := hG e0 (2 * k + 1) (by omega) (by show _ ≤ (if e0 < l then sz else sz - 1); rw [if_pos (by omega)]; omega)
        rw [m5] at this
        exact this
      have p1 : lvS e0 + (2 * k + 1) < 797 := lvS_in (by omega) (by omega)
      have p2 : lvS l + k < 797 := lvS_in (by omega) (by omega)
      obtain ⟨g1, j1, j2, j3⟩ := c_join (N := N) (show 30 ≤ N by omega) (g := g) (one := ad (b + 6)) (op := lvS e0 + 2 * k) (other := ad (b + 6)) (qp := lvS e0 + 2 * k + 1) (to := ad (b + 6)) (p := lvS l + k) (x2 := nI (lvS e0 + 2 * k)) (x4 := nI (lvS e0 + 2 * k + 1)) (x6 := nI (lvS l + k)) (hS.mx hI) ⟨hI.ne (by omega), hI.ne (by omega), by omega, by omega⟩ (hI.ne (by omega)) (hI.ne (by omega)) (by omega) (by omega) (by omega) (by omega) rfl rfl rfl
      have f1 := Fr.ch3 hI j2
      obtain ⟨g2, a1, a2, a3⟩ := ih n (l + 1) g1 (by omega) (by omega) (by omega) (hS.fr f1.1) (hP.fr f1.1) (by rw [f1.I (by omega)]; exact h7) (by
        intro l1 q1 c1 c2
        rw [j3]
        by_cases hsame : l1 = l ∧ q1 = k
        · obtain ⟨rfl, rfl⟩ := hsame
          refine seg_putA.tr ?_
          rw [he0]
          rw [he0] at b1 b2
          exact JOIN_congr b1 b2
        · have c2' : (q1 + 1) * 2 ^ l1 ≤ (if l1 < l + 1 then sz else sz - 1) := c2
          have c3 : (q1 + 1) * 2 ^ l1 ≤ sz := by
            by_cases z : l1 < l + 1
            · rw [if_pos z] at c2'; exact c2'
            · rw [if_neg z] at c2'; omega
          have hne : lvS l1 + q1 ≠ lvS l + k := fun z => hsame (lvS_inj c1 (by omega) (by omega) (by omega) z)
          refine (eq8_putA_ne hne).tr (hG l1 q1 c1 ?_)
          show _ ≤ (if l1 < l then sz else sz - 1)
          by_cases z : l1 < l
          · rw [if_pos z]; exact c3
          · rw [if_neg z]
            by_cases z2 : l1 = l
            · subst z2
              have : q1 + 1 ≤ k + 1 := Nat.le_of_mul_le_mul_right (by omega) hp2
              have h3 : q1 + 1 ≤ k := by omega
              have h5 := Nat.mul_le_mul_right (2 ^ l1) h3
              rw [Nat.succ_mul] at hk
              omega
            · rw [if_neg (by omega)] at c2'; exact c2')
      refine ⟨g2, ?_, f1.tr a2, a3⟩
      show b_X3_joinFullBlocks_2 N S (n_X3_joinFullBlocks_2 N S n) g _ _ _ = _
      unfold b_X3_joinFullBlocks_2
      have hl1 : nI l - (1 : Int32) = nI e0 := by rw [he0]; exact nI_pred e0
      rw [if_neg (show ¬ (9 : Int32) ≤ nI l from nI_ge (b := 9) (by omega) (by decide)), hshl, show rdI g (ad b) 7 = nI sz from h7, hrem, hc, if_pos (show nI 0 = (0 : Int32) from rfl), shr_e (by omega) (by omega), hdiv, show decide (¬ nI (2 ^ l) = 0) = true from decide_eq_true (fun z => nI_ne0 hp2 (by omega) z), ck_T, nm_D, nI_pred, hl1, inb_nI (show e0 < 9 by omega) (by decide), ck_T, nm_D, nI_clamp (show e0 < 2 ^ 31 by omega), lvT_lvS (show e0 < 9 by omega), show (2 : Int32) * nI k = nI (2 * k) from pk_mul 2 k, nI_add, hP.1.2.2.2.2.2.1, nn_S, nn_S, nn_S, inb_nI (show l < 9 by omega) (by decide), ck_T, nI_1, nI_clamp (show l < 2 ^ 31 by omega), lvT_lvS (show l < 9 by omega), nI_add, j1, c2_S, nm_D, nI_1]
      exact a1
    · refine ⟨g, ?_, Fr.rf, fun l1 q a1 a2 => hG l1 q a1 ?_⟩
      · show b_X3_joinFullBlocks_2 N S (n_X3_joinFullBlocks_2 N S n) g _ _ _ = _
        unfold b_X3_joinFullBlocks_2
        have hm := Nat.mod_lt sz hp2
        rw [if_neg (show ¬ (9 : Int32) ≤ nI l from nI_ge (b := 9) (by omega) (by decide)), hshl, show rdI g (ad b) 7 = nI sz from h7, hrem, show decide (¬ nI (2 ^ l) = 0) = true from decide_eq_true (fun z => nI_ne0 hp2 (by omega) z), ck_T, if_neg (nI_ne0 (by omega) (by omega))]
      · show _ ≤ (if l1 < l then sz else sz - 1)
        by_cases z : l1 < l
        · rw [if_pos z]; exact a2
        · rw [if_neg z]
          have hne : (q + 1) * 2 ^ l1 ≠ sz := fun z2 => hc (by
            have : 2 ^ l ∣ sz := Nat.dvd_trans (Nat.pow_dvd_pow 2 (show l ≤ l1 by omega)) ⟨q + 1, by rw [Nat.mul_comm]; exact z2.symm⟩
            exact Nat.mod_eq_zero_of_dvd this)
          omega
theorem BS_congr {key k1 : Nat → Int32} {val v1 : Nat → Int64} : ∀ (e a : Nat), (∀ i, a ≤ i → i < a + 2 ^ e → key i = k1 i ∧ val i = v1 i) → BS key val e a = BS k1 v1 e a
  | 0, a, h => by
    have := h a (Nat.le_refl _) (by show a < a + 1; omega)
    show ENT (key a) (val a) = ENT (k1 a) (v1 a)
    rw [this.1, this.2]
  | e + 1, a, h => by
    have hp : 2 ^ (e + 1) = 2 ^ e + 2 ^ e := by rw [Nat.pow_succ]; omega
    show JOIN (BS key val e a) (BS key val e (a + 2 ^ e)) = JOIN (BS k1 v1 e a) (BS k1 v1 e (a + 2 ^ e))
    rw [BS_congr e a (fun i h1 h2 => h i h1 (by omega)), BS_congr e (a + 2 ^ e) (fun i h1 h2 => h i (by omega) (by omega))]
/-- LOG A1 is A with one entry more -/
def AddL (A : ALog) (key : Int32) (v : Int64) (A1 : ALog) : Prop := lkp A1 = lkp A ∧ lsz A1 = lsz A + 1 ∧ lky A1 = upd (lky A) (lsz A) key ∧ lvl A1 = (fun i => if i = lsz A then v else lvl A i) ∧ lft A1 = va_up (lft A) (lsz A) 0 ∧ lmk A1 = lmk A ∧ mky A1 = mky A ∧ msi A1 = msi A ∧ mhi A1 = mhi A ∧ (∀ i, i < lsz A → lnu A1 i = lnu A i) ∧ lks A ≤ lks A1 ∧ (∀ q, q < lks A → lK A1 q = lK A q)
theorem AddL.mw {A A1 : ALog} {key : Int32} {v : Int64} (h : AddL A key v A1) (z : Int32) : ∀ k, MW A1 z k = MW A z k
  | 0 => rfl
  | k + 1 => by
    unfold MW
    rw [h.mw z k, h.2.2.2.2.2.2.1]
theorem AddL.cnt {A A1 : ALog} {key : Int32} {v : Int64} (h : AddL A key v A1) {n i : Nat} (hi : i < lsz A) : CNT A1 n i = CNT A n i := by
  unfold CNT
  rw [h.mw, h.2.2.1, upd_ne _ _ (by omega), h.2.2.2.2.2.1, h.2.2.2.2.2.2.2.1, h.2.2.2.2.2.2.2.2.1]
theorem AddL.latf {A A1 : ALog} {key : Int32} {v : Int64} (h : AddL A key v A1) (n : Nat) (z : Int32) : ∀ i, i ≤ lsz A → LATF A1 n z i = LATF A n z i
  | 0, _ => rfl
  | i + 1, hi => by
    unfold LATF
    rw [h.cnt (by omega), h.latf n z i (by omega), h.2.2.1, upd_ne _ _ (by omega)]
theorem AddL.lat {A A1 : ALog} {key : Int32} {v : Int64} (h : AddL A key v A1) {n : Nat} (hn : n ≤ lsz A) (z : Int32) : LAT A1 n z = LAT A n z := h.latf n z n hn
theorem AddL.tree {A A1 : ALog} {key : Int32} {v : Int64} (h : AddL A key v A1) (hW : LogWf A) (hW1 : LogWf A1) {n : Nat} (hn : n ≤ lsz A) : TREEA A1 n = TREEA A n := by
  have e1 : LAT A1 n = LAT A n := funext (fun z => h.lat hn z)
  unfold TREEA
  rw [e1]
  have e2 : KL A1 n = KL A n := by
    unfold KL
    rw [lst_app (lK A1) (Nat.zero_le (lks A)) h.2.2.2.2.2.2.2.2.2.2.1, List.filter_append, e1]
    have a1 : lst (lK A1) 0 (lks A) = lst (lK A) 0 (lks A) := lst_congr (fun i _ hi => h.2.2.2.2.2.2.2.2.2.2.2 i hi)
    have a2 : (lst (lK A1) (lks A) (lks A1)).filter (fun k => LAT A n k != NEG) = [] := List.filter_eq_nil_iff.mpr (fun k hk => by
      obtain ⟨q, q1, q2, q3⟩ := lst_mem.mp hk
      have hneg : LAT A n k = NEG := (LATF_NEG n (by have := hW.1; omega)).mpr (fun i hi z => by
        have z1 := z.1
        obtain ⟨u1, u2⟩ := hW.2.2.2.2.1.2.1 i (by omega)
        have u3 : lK A1 (lnu A i) = lK A1 q := by rw [h.2.2.2.2.2.2.2.2.2.2.2 _ u1, u2, z1, q3]
        have := hW1.2.2.2.2.1.1.2.1 (lnu A i) q (by omega) q2
        exact this u3)
      rw [hneg]
      simp)
    rw [a1, a2, List.append_nil]
  rw [e2]
theorem c_append {N : Nat} (hN : 40000 ≤ N) {S : Hs} {g : Hg} {ad : Nat → Nat} (hI : Inj ad) {b : Nat} {A : ALog} (key : Int32) (v : Int64) (hb : 100 ≤ b) (hsz : lsz A < 400) (hS : ScP S g ad) (hC : CLO S g ad b A) :
    ∃ g1 A1, f_X3_append N S g (ad b) (ad 1) key v = some ((), g1) ∧ Fr ad (fun r => r = 2 ∨ r = 3 ∨ b ≤ r ∧ r < b + 14) g g1 ∧ CLO S g1 ad b A1 ∧ AddL A key v A1 := by
  obtain ⟨hP, hV, hW⟩ := id hC
  obtain ⟨⟨x6, x7⟩, xn, xf, xv, xs, xk, xm, xc⟩ := id hV
  have hks : lks A < 400 ∨ lks A = 400 := by have := hW.2.2.2.2.1.1.1; omega
  -- the KEY's number
  have learn : ∃ g1 z K1 ks1 od1, f_X2_learn N S g (ad (b + 1)) (ad 1) key = some (nI z, g1) ∧ Fr ad (fun r => r = 2 ∨ r = 3 ∨ r = b + 1 ∨ r = b + 8 ∨ r = b + 9 ∨ r = b + 10) g g1 ∧ CKey g1 ad b K1 ks1 od1 ∧ Ord K1 ks1 od1 ∧ z < ks1 ∧ K1 z = key ∧ lks A ≤ ks1 ∧ (∀ q, q < lks A → K1 q = lK A q) ∧ (z < lks A → ks1 = lks A) ∧ (¬ z < lks A → z = lks A ∧ ks1 = lks A + 1) := by
    -- fewer than 400 KEYS, as there are fewer entries
    have hlt : lks A < 400 := by
      rcases hks with h | h
      · exact h
      · exfalso
        -- numbers come in order: number q first at a place of at least q
        have key : ∀ q, q < lks A → ∀ i, i < lsz A → lnu A i = q → q ≤ i := by
          intro q
          induction q with
          | zero => intro _ i _ _; omega
          | succ q ih =>
            intro h1 i h2 h3
            obtain ⟨j, j1, j2⟩ := hW.2.2.2.2.1.2.2.1 i h2 q (by omega)
            have := ih (by omega) j (by omega) j2
            omega
        obtain ⟨i, i1, i2⟩ := hW.2.2.2.2.1.2.2.2 399 (by omega)
        have := key 399 (by omega) i i1 i2
        omega
    rcases c_learn hN hI key hb hS hP xk hW.2.2.2.2.1.1 hlt with ⟨z, z1, z2, z3⟩ | ⟨z1, g1, od1, w1, w2, w3, w4⟩
    · exact ⟨g, z, lK A, lks A, lod A, z3, Fr.rf, xk, hW.2.2.2.2.1.1, z1, z2, Nat.le_refl _, fun _ _ => rfl, fun _ => rfl, fun h => absurd z1 h⟩
    · exact ⟨g1, lks A, upd (lK A) (lks A) key, lks A + 1, od1, w1, w2, w3, w4, by omega, upd_same _ _ _, by omega, fun q hq => upd_ne _ _ (by omega), fun h => absurd h (by omega), fun _ => ⟨rfl, rfl⟩⟩
  obtain ⟨g1, z, K1, ks1, od1, le1, le2, le3, le4, le5, le6, le7, le8, le9, le10⟩ := learn
  have i7 : g1.1 (ad b) = g.1 (ad b) := le2.I (by omega)
  have i3 : g1.1 (ad (b + 3)) = g.1 (ad (b + 3)) := le2.I (by omega)
  have i4 : g1.1 (ad (b + 4)) = g.1 (ad (b + 4)) := le2.I (by omega)
  have i6 : g1.1 (ad (b + 6)) = g.1 (ad (b + 6)) := le2.I (by omega)
  have j5 : g1.2.1 (ad (b + 5)) = g.2.1 (ad (b + 5)) := le2.L (by omega)
  have hP1 := hP.fr le2.1
  let g2 : Hg := rowI (rowL (rowI g1 (ad (b + 3)) (upd (g.1 (ad (b + 3))) (lsz A) (nI z))) (ad (b + 5)) (fun k => if k = lsz A then v else g.2.1 (ad (b + 5)) k)) (ad (b + 4)) (upd (g.1 (ad (b + 4))) (lsz A) (nI 0))
  have f2 : Fr ad (fun r => r = b + 3 ∨ r = b + 4 ∨ r = b + 5) g1 g2 := Fr.rt hI (fr_rlt hI (Fr.row hI (Or.inr (Or.inl rfl))) (Or.inr (Or.inr rfl))) (Or.inl rfl)
  have hS2 : ScP S g2 ad := (hS.fr le2.1).fr f2.1
  have l6 := hP.2.2.2.1.2.2.2.1
  obtain ⟨g3, s1, s2, s3⟩ := c_sumOfEntry (N := N) (show 30 ≤ N by omega) (g := g2) (to := ad (b + 6)) (p := lsz A) (x3 := nI (lsz A)) (hS2.mx hI) ⟨hI.ne (by omega), hI.ne (by omega), by omega, by omega⟩ rfl key v
  have f3 := Fr.ch3 hI s2
  let g4 : Hg := rowI g3 (ad b) (upd (g.1 (ad b)) 7 (nI (lsz A + 1)))
  have f4 : Fr ad (fun r => r = b) g3 g4 := Fr.row hI rfl
  have hS4 : ScP S g4 ad := (hS2.fr f3.1).fr f4.1
  have hP4 : LgP S g4 ad b := ((hP1.fr f2.1).fr f3.1).fr f4.1
  have hg26 : g2.1 (ad (b + 6)) = g.1 (ad (b + 6)) := by rw [f2.I (by omega)]; exact i6
  have hg4 : g4.1 (ad (b + 6)) = putA (g.1 (ad (b + 6))) (8 * lsz A) (ENT key v) := by rw [f4.I (by omega), s3, hg26]
  have hne : ∀ i, i ≠ lsz A → upd (lky A) (lsz A) key i = lky A i ∧ (if i = lsz A then v else lvl A i) = lvl A i := fun i hi => ⟨upd_ne _ _ hi, if_neg hi⟩
  obtain ⟨g5, q1, q2, q3⟩ := c_jfb2 hN hI hb (upd (lky A) (lsz A) key) (fun i => if i = lsz A then v else lvl A i) (sz := lsz A + 1) (by omega) (by omega) 8 N 1 g4 (by omega) (by omega) (by omega) hS4 hP4 (by show (rowI _ (ad b) _).1 (ad b) 7 = _; rw [rowI_same, upd_same]) (by
    intro l q h1 h2
    have h2 : (q + 1) * 2 ^ l ≤ (if l < 1 then lsz A + 1 else lsz A + 1 - 1) := h2
    rw [hg4]
    have old : (q + 1) * 2 ^ l ≤ lsz A → eq8 (seg (putA (g.1 (ad (b + 6))) (8 * lsz A) (ENT key v)) (8 * (lvS l + q))) (BS (upd (lky A) (lsz A) key) (fun i => if i = lsz A then v else lvl A i) l (q * 2 ^ l)) := fun h3 => by
      have hn : lvS l + q ≠ lsz A := fun w => by
        have hi := lvS_inj (l := l) (q := q) (l1 := 0) (q1 := lsz A) h1 (by omega) (by omega) (by simp; omega) (by rw [w]; simp [lvS])
        have h4 := hi.2
        rw [hi.1, h4, Nat.pow_zero, Nat.mul_one] at h3
        omega
      rw [BS_congr (k1 := lky A) (v1 := lvl A) l (q * 2 ^ l) (fun i i1 i2 => hne i (by rw [Nat.succ_mul] at h3; omega))]
      exact (eq8_putA_ne hn).tr (xs l q h1 h3)
    by_cases h3 : (q + 1) * 2 ^ l ≤ lsz A
    · exact old h3
    · have hl0 : l = 0 := by
        apply Classical.byContradiction
        intro hh
        rw [if_neg (by omega)] at h2
        omega
      subst hl0
      rw [if_pos (by omega)] at h2
      have hq : q = lsz A := by
        rw [Nat.pow_zero, Nat.mul_one] at h2 h3
        omega
      subst hq
      rw [show lvS 0 + lsz A = lsz A by simp [lvS], Nat.pow_zero, Nat.mul_one]
      refine seg_putA.tr ?_
      show eq8 _ (ENT (upd (lky A) (lsz A) key (lsz A)) (if lsz A = lsz A then v else lvl A (lsz A)))
      rw [upd_same, if_pos rfl]
      exact eq8.rf)
  let A1 : ALog := ((lkp A, lsz A + 1), (upd (lky A) (lsz A) key, (fun i => if i = lsz A then v else lvl A i), va_up (lft A) (lsz A) 0), (lmk A, mky A, msi A, mhi A), (va_up (lnu A) (lsz A) z, ks1, K1, od1))
  have hAdd : AddL A key v A1 := ⟨rfl, rfl, rfl, rfl, rfl, rfl, rfl, rfl, rfl, fun i hi => by show va_up (lnu A) (lsz A) z i = _; simp [va_up, Nat.ne_of_lt hi], le7, le8⟩
  have hW1 : LogWf A1 := by
    obtain ⟨w1, w2, w3, w4, ⟨w5, w6, w7, w8⟩, w9⟩ := hW
    refine ⟨by show lsz A + 1 ≤ 400; omega, w2, fun k hk => Nat.le_succ_of_le (w3 k hk), w4, ⟨le4, fun i hi => ?_, fun i hi q hq => ?_, fun q hq => ?_⟩, fun i => ?_⟩
    · show va_up (lnu A) (lsz A) z i < ks1 ∧ K1 (va_up (lnu A) (lsz A) z i) = upd (lky A) (lsz A) key i
      by_cases e : i = lsz A
      · subst e
        simp only [va_up, if_true, upd_same]
        exact ⟨le5, le6⟩
      · obtain ⟨u1, u2⟩ := w6 i (by have : i < lsz A + 1 := hi; omega)
        simp only [va_up, if_neg e, upd_ne _ _ e]
        exact ⟨by omega, by rw [le8 _ u1]; exact u2⟩
    · have hi : i < lsz A + 1 := hi
      have hq : q < va_up (lnu A) (lsz A) z i := hq
      show ∃ j, j < i ∧ va_up (lnu A) (lsz A) z j = q
      by_cases e : i = lsz A
      · subst e
        simp only [va_up, if_true] at hq
        have hqk : q < lks A := by
          by_cases hz : z < lks A
          · omega
          · have := (le10 hz).1; omega
        obtain ⟨j, j1, j2⟩ := w8 q hqk
        exact ⟨j, j1, by simp only [va_up, if_neg (Nat.ne_of_lt j1)]; exact j2⟩
      · simp only [va_up, if_neg e] at hq
        obtain ⟨j, j1, j2⟩ := w7 i (by omega) q hq
        exact ⟨j, j1, by simp only [va_up, if_neg (show j ≠ lsz A by omega)]; exact j2⟩
    · show ∃ i, i < lsz A + 1 ∧ va_up (lnu A) (lsz A) z i = q
      have hq : q < ks1 := hq
      by_cases hqk : q < lks A
      · obtain ⟨j, j1, j2⟩ := w8 q hqk
        exact ⟨j, by omega, by simp only [va_up, if_neg (Nat.ne_of_lt j1)]; exact j2⟩
      · refine ⟨lsz A, by omega, ?_⟩
        simp only [va_up, if_true]
        by_cases hz : z < lks A
        · have := le9 hz; omega
        · have := le10 hz; omega
    · show va_up (lft A) (lsz A) 0 i ≤ 2
      by_cases e : i = lsz A
      · simp [va_up, e]
      · simp only [va_up, if_neg e]; exact w9 i
  have o : ∀ r, r ≠ b + 6 → r ≠ 2 → r ≠ 3 → r ≠ b → g5.1 (ad r) = g2.1 (ad r) ∧ g5.2.1 (ad r) = g2.2.1 (ad r) := fun r r1 r2 r3 r4 => by
    have u1 := q2.2 r (by omega)
    have u2 := f4.2 r (by omega)
    have u3 := f3.2 r (by omega)
    exact ⟨(u1.1.trans u2.1).trans u3.1, (u1.2.trans u2.2).trans u3.2⟩
  have o1 : ∀ r, r ≠ b + 6 → r ≠ 2 → r ≠ 3 → r ≠ b → r ≠ b + 3 → r ≠ b + 4 → r ≠ b + 5 → g5.1 (ad r) = g1.1 (ad r) := fun r r1 r2 r3 r4 r5 r6 r7 => (o r r1 r2 r3 r4).1.trans (f2.I (by omega))
  have g5b : g5.1 (ad b) = upd (g.1 (ad b)) 7 (nI (lsz A + 1)) := by rw [q2.I (by omega)]; exact rowI_same _ _ _
  refine ⟨g5, A1, ?_, ?_, ⟨hP4.fr q2.1, ⟨⟨?_, ?_⟩, fun i hi => ?_, fun i hi => ?_, fun i hi hf => ?_, q3, ?_, ?_, ?_⟩, hW1⟩, hAdd⟩
  · show b_X3_append_0 N S g _ _ _ _ = _
    unfold b_X3_append_0
    rw [show rdI g (ad b) 7 = nI (lsz A) from x7, if_pos (show nI (lsz A) < (400 : Int32) from nI_lt (b := 400) hsz (by decide)), hP.1.2.2.1, nn_S, hP.1.1, nn_S, le1, c2_S]
    have x71 : g1.1 (ad b) 7 = nI (lsz A) := by rw [i7]; exact x7
    simp (disch := (first | assumption | omega | (apply Inj.ne <;> first | assumption | omega) | fail)) only [nn_S, nm_D, ck_T, c2_S, on_N, on_S, lit, mNEG, nI_add, pk_mul, inb_nI, nI_clamp, wrI_row, wrL_row, rdR_rowI, rdR_rowL, rdI_def, rdL_def, rowI_same, rowI_ne, rowI_rowI, rowL_same, rowL_ne, rowL_1, rowI_21, upd_same, upd_ne, nI_le_T, nI_le_F, nI_lt_T, nI_lt_F, nI_eq_F, nI_NEG, NEG_lt0, nI_p, eq_self, if_true, if_false, hP.2.2.2.1.1, hP1.1.2.2.2.2.1, hP.2.2.2.1.2.2.1, hP1.1.2.2.2.1, hP.2.2.2.1.2.1, hP1.1.2.2.2.2.2.1, x71, i3, i4, j5]
    rw [show f_X6_sumOfEntry N S (rowI (rowL (rowI g1 (ad (b + 3)) (upd (g.1 (ad (b + 3))) (lsz A) (nI z))) (ad (b + 5)) (fun k => if k = lsz A then v else g.2.1 (ad (b + 5)) k)) (ad (b + 4)) (upd (g.1 (ad (b + 4))) (lsz A) (nI 0))) (ad 1) key v (ad (b + 6)) (nI (lsz A)) = _ from s1, c2_S]
    have g3b : g3.1 (ad b) = g.1 (ad b) := by rw [f3.I (by omega), f2.I (by omega)]; exact i7
    rw [g3b, x7, nI_add, show f_X3_joinFullBlocks N S (rowI g3 (ad b) (upd (g.1 (ad b)) 7 (nI (lsz A + 1)))) (ad b) (ad 1) = _ from q1, c2_S]
  · exact ((((le2.mono (fun r h => by omega)).tr (f2.mono (fun r h => by omega))).tr (f3.mono (fun r h => by omega))).tr (f4.mono (fun r h => by omega))).tr (q2.mono (fun r h => by omega))
  · rw [g5b, upd_ne _ _ (by decide)]; exact x6
  · rw [g5b, upd_same]; rfl
  · have hi : i < lsz A + 1 := hi
    rw [(o (b + 3) (by omega) (by omega) (by omega) (by omega)).1]
    show (rowI (rowL (rowI g1 (ad (b + 3)) _) _ _) _ _).1 (ad (b + 3)) i = nI (va_up (lnu A) (lsz A) z i)
    simp (disch := (first | assumption | omega | (apply Inj.ne <;> first | assumption | omega) | fail)) only [nn_S, nm_D, ck_T, c2_S, on_N, on_S, lit, mNEG, nI_add, pk_mul, inb_nI, nI_clamp, wrI_row, wrL_row, rdR_rowI, rdR_rowL, rdI_def, rdL_def, rowI_same, rowI_ne, rowI_rowI, rowL_same, rowL_ne, rowL_1, rowI_21, upd_same, upd_ne, nI_le_T, nI_le_F, nI_lt_T, nI_lt_F, nI_eq_F, nI_NEG, NEG_lt0, nI_p, eq_self, if_true, if_false]
    by_cases e : i = lsz A
    · rw [e, upd_same]; simp [va_up]
    · rw [upd_ne _ _ e]; simp only [va_up, if_neg e]; exact xn i (by omega)
  · have hi : i < lsz A + 1 := hi
    rw [(o (b + 4) (by omega) (by omega) (by omega) (by omega)).1]
    show (rowI (rowL (rowI g1 (ad (b + 3)) _) _ _) _ _).1 (ad (b + 4)) i = nI (va_up (lft A) (lsz A) 0 i)
    simp (disch := (first | assumption | omega | (apply Inj.ne <;> first | assumption | omega) | fail)) only [nn_S, nm_D, ck_T, c2_S, on_N, on_S, lit, mNEG, nI_add, pk_mul, inb_nI, nI_clamp, wrI_row, wrL_row, rdR_rowI, rdR_rowL, rdI_def, rdL_def, rowI_same, rowI_ne, rowI_rowI, rowL_same, rowL_ne, rowL_1, rowI_21, upd_same, upd_ne, nI_le_T, nI_le_F, nI_lt_T, nI_lt_F, nI_eq_F, nI_NEG, NEG_lt0, nI_p, eq_self, if_true, if_false]
    by_cases e : i = lsz A
    · rw [e, upd_same]; simp [va_up]
    · rw [upd_ne _ _ e]; simp only [va_up, if_neg e]; exact xf i (by omega)
  · have hi : i < lsz A + 1 := hi
    have hf : va_up (lft A) (lsz A) 0 i ≠ 2 := hf
    rw [(o (b + 5) (by omega) (by omega) (by omega) (by omega)).2]
    show (rowI (rowL (rowI g1 (ad (b + 3)) _) _ _) _ _).2.1 (ad (b + 5)) i = (if i = lsz A then v else lvl A i)
    simp (disch := (first | assumption | omega | (apply Inj.ne <;> first | assumption | omega) | fail)) only [nn_S, nm_D, ck_T, c2_S, on_N, on_S, lit, mNEG, nI_add, pk_mul, inb_nI, nI_clamp, wrI_row, wrL_row, rdR_rowI, rdR_rowL, rdI_def, rdL_def, rowI_same, rowI_ne, rowI_rowI, rowL_same, rowL_ne, rowL_1, rowI_21, upd_same, upd_ne, nI_le_T, nI_le_F, nI_lt_T, nI_lt_F, nI_eq_F, nI_NEG, NEG_lt0, nI_p, eq_self, if_true, if_false]
    by_cases e : i = lsz A
    · rw [if_pos e, if_pos e]
    · rw [if_neg e, if_neg e]
      simp only [va_up, if_neg e] at hf
      exact xv i (by omega) hf
  · show CKey g5 ad b K1 ks1 od1
    unfold CKey at le3 ⊢
    rw [o1 (b + 1) (by omega) (by omega) (by omega) (by omega) (by omega) (by omega) (by omega), o1 (b + 8) (by omega) (by omega) (by omega) (by omega) (by omega) (by omega) (by omega), o1 (b + 9) (by omega) (by omega) (by omega) (by omega) (by omega) (by omega) (by omega), o1 (b + 10) (by omega) (by omega) (by omega) (by omega) (by omega) (by omega) (by omega)]
    exact le3
  · show CMark g5 ad b A1
    have w : ∀ r, r = b + 2 ∨ r = b + 11 ∨ r = b + 12 ∨ r = b + 13 → g5.1 (ad r) = g.1 (ad r) := fun r hr => (o1 r (by omega) (by omega) (by omega) (by omega) (by omega) (by omega) (by omega)).trans (le2.I (by omega))
    unfold CMark at xm ⊢
    rw [w (b + 2) (by omega), w (b + 11) (by omega), w (b + 12) (by omega), w (b + 13) (by omega)]
    exact xm
  · rw [g5b, upd_ne _ _ (by decide)]
    rcases xc with h | ⟨n, n1, n2, n3⟩
    · exact Or.inl h
    · refine Or.inr ⟨n, by show n ≤ lsz A + 1; omega, n2, ?_⟩
      rw [o1 (b + 7) (by omega) (by omega) (by omega) (by omega) (by omega) (by omega) (by omega), le2.I (by omega), hAdd.tree hW hW1 n1]
      exact n3
