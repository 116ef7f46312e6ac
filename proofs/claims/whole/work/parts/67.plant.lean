theorem rem32 {d : Nat} (hd : d < 2 ^ 31) : nI d - nI d / nI 32 * nI 32 = nI (d % 32) := pk_rem hd (by decide) (by decide)
theorem sub31 {t : Nat} (ht : t < 32) : nI 31 - nI t = nI (31 - t) := by
  have e : nI 31 = nI (31 - t) + nI t := by rw [nI_add, show 31 - t + t = 31 by omega]
  rw [e, Int32.add_sub_cancel]
theorem c_bitOfWay {N : Nat} {S : Hs} {g : Hg} {a q d : Nat} {x1 x2 : Int32} (e1 : x1 = nI q) (e2 : x2 = nI d) (hd : d < 256) (hl : 8 * q + 8 ≤ hpL S a) (hl2 : hpL S a < 2 ^ 31) : f_X11_bitOfWay N S g a x1 x2 = some (nI (wbit (seg (g.1 a) (8 * q)) d), g) := by
  subst e1; subst e2
  show b_X11_bitOfWay_0 N S g a _ _ = _
  unfold b_X11_bitOfWay_0
  have h1 : nI q * nI 8 + nI d / nI 32 = nI (8 * q + d / 32) := by
    rw [pk_mul, pk_div (by omega) (by decide) (by decide), nI_add, Nat.mul_comm]
  rw [show (nI q * (8 : Int32) + nI d / (32 : Int32)) = _ from h1, show nI d - nI d / (32 : Int32) * (32 : Int32) = _ from rem32 (by omega), show (31 : Int32) - nI (d % 32) = _ from sub31 (Nat.mod_lt _ (by decide)), inb_nI (show 8 * q + d / 32 < hpL S a by omega) hl2, ck_T, nm_D, nI_clamp (show 8 * q + d / 32 < 2 ^ 31 by omega), bit_code _ (Nat.mod_lt _ (by decide))]
  rfl
theorem m_isOne {N : Nat} {S : Hs} {g : Hg} {a p d : Nat} {x1 x2 : Int32} (e1 : x1 = nI p) (e2 : x2 = nI d) (hd : d < 256) (hl : p + 8 ≤ hpL S a) (hl2 : hpL S a < 2 ^ 31) : f_X12_isOne N S g a x1 x2 = some (nI (wbit (seg (g.1 a) p) d), g) := by
  subst e1; subst e2
  show b_X12_isOne_0 N S g a _ _ = _
  unfold b_X12_isOne_0
  have h1 : nI p + nI d / nI 32 = nI (p + d / 32) := by
    rw [pk_div (by omega) (by decide) (by decide), nI_add]
  rw [show (nI p + nI d / (32 : Int32)) = _ from h1, show nI d - nI d / (32 : Int32) * (32 : Int32) = _ from rem32 (by omega), show (31 : Int32) - nI (d % 32) = _ from sub31 (Nat.mod_lt _ (by decide)), inb_nI (show p + d / 32 < hpL S a by omega) hl2, ck_T, nI_clamp (show p + d / 32 < 2 ^ 31 by omega), bit_code _ (Nat.mod_lt _ (by decide))]
  have hb := wbit_lt (seg (g.1 a) p) d
  show (if nI (wbit (seg (g.1 a) p) d) = (1 : Int32) then _ else _) = _
  have : wbit (seg (g.1 a) p) d = 0 ∨ wbit (seg (g.1 a) p) d = 1 := by omega
  rcases this with h | h
  · rw [h, if_neg (by decide)]; rfl
  · rw [h, if_pos (by decide)]; rfl
theorem MapR.fr {g g1 : Hg} {ad : Nat → Nat} {A : ALog} {n m : Nat} {ins : Nat → Nat} {R : Nat → Prop} (h : MapR g ad A n m ins) (hf : Fr ad R g g1) (hr : ¬ R 4 ∧ ¬ R 5 ∧ ¬ R 6) : MapR g1 ad A n m ins := by
  unfold MapR
  rw [hf.I hr.1, hf.I hr.2.1, hf.I hr.2.2]
  exact h
theorem c_parting3 {N : Nat} {S : Hs} {g : Hg} {ad : Nat → Nat} {b : Nat} {A : ALog} (hW : LogWf A) {nn_ m d to : Nat} {ins : Nat → Nat} (hd : d < 256) (hto : to ≤ m) (hS : ScP S g ad) (hP : LgP S g ad b) (hC : CKy g ad b A) (hR : MapR g ad A nn_ m ins) (hO : InsOk A nn_ m ins) (fr : Nat) : ∀ (i n p : Nat), p + i = to → i < n → fr ≤ p → (∀ z, fr ≤ z → z < p → kbit d (lK A (ins z)) = false) →
    ∃ p1, n_X4_partingOf_3 N S n g (ad 4) (ad (b + 1)) (nI to) (nI d) (nI p) = some (nI p1, g) ∧ fr ≤ p1 ∧ p1 ≤ to ∧ (∀ z, fr ≤ z → z < p1 → kbit d (lK A (ins z)) = false) ∧ (p1 < to → kbit d (lK A (ins p1)) = true) := by
  have hks := hW.2.2.2.2.1.1.1
  have hmk := hO.1
  intro i
  induction i with
  | zero =>
    intro n p h1 h2 hfr hz
    obtain ⟨n, rfl⟩ : ∃ z, n = z + 1 := ⟨n - 1, by omega⟩
    refine ⟨p, ?_, hfr, by omega, hz, fun h => absurd h (by omega)⟩
    show b_X4_partingOf_3 N S (n_X4_partingOf_3 N S n) g _ _ _ _ _ = _
    unfold b_X4_partingOf_3
    simp (disch := (first | assumption | omega | (apply Inj.ne <;> first | assumption | omega) | fail)) only [nn_S, nm_D, ck_T, c2_S, on_N, on_S, lit, mNEG, nI_add, pk_mul, inb_nI, nI_clamp, wrI_row, wrL_row, rdR_rowI, rdR_rowL, rdI_def, rdL_def, rowI_same, rowI_ne, rowI_rowI, rowL_same, rowL_ne, rowL_1, rowI_21, upd_same, upd_ne, nI_le_T, nI_le_F, nI_lt_T, nI_lt_F, nI_eq_F, nI_NEG, NEG_lt0, nI_p, eq_self, if_true, if_false]
  | succ i ih =>
    intro n p h1 h2 hfr hz
    obtain ⟨n, rfl⟩ : ∃ z, n = z + 1 := ⟨n - 1, by omega⟩
    obtain ⟨i1, i2⟩ := hO.2.1 p (by omega)
    have hin := hR.2.2 p (by omega)
    have hw : wbit (seg (g.1 (ad (b + 9))) (8 * ins p)) d = wbit (WAY (lK A (ins p))) d := wbit_congr (hC.2.2.1 (ins p) i1) hd
    have hst : n_X4_partingOf_3 N S (n + 1) g (ad 4) (ad (b + 1)) (nI to) (nI d) (nI p) = if nI (wbit (WAY (lK A (ins p))) d) = nI 0 then n_X4_partingOf_3 N S n g (ad 4) (ad (b + 1)) (nI to) (nI d) (nI (p + 1)) else some (nI p, g) := by
      show b_X4_partingOf_3 N S (n_X4_partingOf_3 N S n) g _ _ _ _ _ = _
      unfold b_X4_partingOf_3
      simp (disch := (first | assumption | omega | (apply Inj.ne <;> first | assumption | omega) | fail)) only [nn_S, nm_D, ck_T, c2_S, on_N, on_S, lit, mNEG, nI_add, pk_mul, inb_nI, nI_clamp, wrI_row, wrL_row, rdR_rowI, rdR_rowL, rdI_def, rdL_def, rowI_same, rowI_ne, rowI_rowI, rowL_same, rowL_ne, rowL_1, rowI_21, upd_same, upd_ne, nI_le_T, nI_le_F, nI_lt_T, nI_lt_F, nI_eq_F, nI_NEG, NEG_lt0, nI_p, eq_self, if_true, if_false, hP.2.1.2.1, hS.2.1.2.2.1, hS.2.1.2.2.2.2.2.2.1, hin]
      rw [c_bitOfWay rfl rfl hd (by have := hP.2.2.2.2.2.1; omega) (by have := hP.2.2.2.2.2.1; omega), c2_S, hw]
    rw [hst]
    have hb := wbit_lt (WAY (lK A (ins p))) d
    by_cases hc : wbit (WAY (lK A (ins p))) d = 0
    · rw [hc, if_pos rfl]
      exact ih n (p + 1) (by omega) (by omega) (by omega) (fun z z1 z2 => by
        by_cases e : z = p
        · rw [e]; unfold kbit; rw [hc]; rfl
        · exact hz z z1 (by omega))
    · have h1 : wbit (WAY (lK A (ins p))) d = 1 := by omega
      rw [h1, if_neg (by decide)]
      exact ⟨p, rfl, hfr, by omega, hz, fun _ => by unfold kbit; rw [h1]; rfl⟩
/-- where the class parts KEYS that are alike in the bits ahead: the two halves are the KEYS with bit 0 and with bit 1 -/
theorem c_partingOf {N : Nat} (hN : 40000 ≤ N) {S : Hs} {g : Hg} {ad : Nat → Nat} {b : Nat} {A : ALog} (hW : LogWf A) {nn_ m d fr to : Nat} {ins : Nat → Nat} (hd : d < 256) (hft : fr ≤ to) (hto : to ≤ m) (hS : ScP S g ad) (hP : LgP S g ad b) (hC : CKy g ad b A) (hR : MapR g ad A nn_ m ins) (hO : InsOk A nn_ m ins) (hA : ∀ i j, fr ≤ i → i < to → fr ≤ j → j < to → ∀ e, e < d → wbit (WAY (lK A (ins i))) e = wbit (WAY (lK A (ins j))) e) :
    ∃ p, f_X4_partingOf N S g (ad 4) (ad (b + 1)) (nI fr) (nI to) (nI d) = some (nI p, g) ∧ fr ≤ p ∧ p ≤ to ∧ (lst (fun k => lK A (ins k)) fr to).filter (fun z => !kbit d z) = lst (fun k => lK A (ins k)) fr p ∧ (lst (fun k => lK A (ins k)) fr to).filter (fun z => kbit d z) = lst (fun k => lK A (ins k)) p to ∧ (∀ i j, ((fr ≤ i ∧ i < p ∧ fr ≤ j ∧ j < p) ∨ (p ≤ i ∧ i < to ∧ p ≤ j ∧ j < to)) → ∀ e, e < d + 1 → wbit (WAY (lK A (ins i))) e = wbit (WAY (lK A (ins j))) e) := by
  have hks := hW.2.2.2.2.1.1.1
  have hmk := hO.1
  obtain ⟨p, p1, p2, p3, p4, p5⟩ := c_parting3 (N := N) hW hd hto hS hP hC hR hO fr (to - fr) N fr (by omega) (by omega) (Nat.le_refl _) (fun z z1 z2 => absurd z2 (by omega))
  have h0 : ∀ z, fr ≤ z → z < p → wbit (WAY (lK A (ins z))) d = 0 := fun z z1 z2 => by
    have := p4 z z1 z2
    unfold kbit at this
    have hb := wbit_lt (WAY (lK A (ins z))) d
    have h : wbit (WAY (lK A (ins z))) d ≠ 1 := by simpa using this
    omega
  have h1 : ∀ z, p ≤ z → z < to → wbit (WAY (lK A (ins z))) d = 1 := fun z z1 z2 => by
    have hp := p5 (by omega)
    have hp : wbit (WAY (lK A (ins p))) d = 1 := by simpa [kbit] using hp
    by_cases e : z = p
    · rw [e]; exact hp
    · have := (hO.2.2.1 p z (by omega) (by omega)).bit hd (fun e he => hA p z p2 (by omega) (by omega) z2 e he)
      have hb := wbit_lt (WAY (lK A (ins z))) d
      omega
  obtain ⟨s1, s2⟩ := split_filter (f := fun k => lK A (ins k)) (p := fun z => kbit d z) p2 p3 p4 (fun z z1 z2 => by show kbit d _ = true; unfold kbit; rw [h1 z z1 z2]; rfl)
  refine ⟨p, p1, p2, p3, s1, s2, fun i j h e he => ?_⟩
  by_cases c : e = d
  · subst c
    rcases h with ⟨a1, a2, a3, a4⟩ | ⟨a1, a2, a3, a4⟩
    · rw [h0 i a1 a2, h0 j a3 a4]
    · rw [h1 i a1 a2, h1 j a3 a4]
  · exact hA i j (by omega) (by omega) (by omega) (by omega) e (by omega)
theorem sub_one {fr to : Nat} (h : fr ≤ to) (ht : to < 2 ^ 31) : nI to - nI fr = nI (to - fr) := by
  have e : nI to = nI (to - fr) + nI fr := by rw [nI_add, show to - fr + fr = to by omega]
  rw [e, Int32.add_sub_cancel]
theorem c_plant {N : Nat} (hN : 40000 ≤ N) {S : Hs} {ad : Nat → Nat} (hI : Inj ad) {b : Nat} (hb : 100 ≤ b) {A : ALog} (hW : LogWf A) {nn_ m : Nat} {ins : Nat → Nat} (hO : InsOk A nn_ m ins) : ∀ (f n : Nat) (g : Hg) (fr to pl : Nat), f ≤ 256 → f < n → fr ≤ to → to ≤ m → pl + f ≤ 256 → (∀ i j, fr ≤ i → i < to → fr ≤ j → j < to → ∀ e, e < 256 - f → wbit (WAY (lK A (ins i))) e = wbit (WAY (lK A (ins j))) e) → ScP S g ad → LgP S g ad b → CKy g ad b A → MapR g ad A nn_ m ins →
    ∃ g1, f_X4_plant N S n g (ad 4) (ad (b + 1)) (nI fr) (nI to) (nI (256 - f)) (nI pl) = some ((), g1) ∧ Fr ad (fun r => r = 2 ∨ r = 3 ∨ r = 7) g g1 ∧ eq8 (seg (g1.1 (ad 7)) (8 * pl)) (TREE (LAT A nn_) f (lst (fun k => lK A (ins k)) fr to)) ∧ ∀ j, j < 8 * pl → g1.1 (ad 7) j = g.1 (ad 7) j := by
  have hks := hW.2.2.2.2.1.1.1
  have hmk := hO.1
  intro f
  induction f with
  | zero =>
    intro n g fr to pl hf hn hft hto hpl hA hS hP hC hR
    obtain ⟨n, rfl⟩ : ∃ z, n = z + 1 := ⟨n - 1, by omega⟩
    have l7 := hS.2.1.2.2.2.2.2.2.2.1
    by_cases c1 : to - fr = 1
    · obtain ⟨i1, i2⟩ := hO.2.1 fr (by omega)
      have hin := hR.2.2 fr (by omega)
      have hla := hR.1 (ins fr) i1
      obtain ⟨g1, k1, k2, k3⟩ := c_sumOfLeaf (N := N) (show 30 ≤ N by omega) (g := g) (mx := ad 1) (W := ad 2) (A := ad 3) (to := ad 7) (p := pl) (x3 := nI pl) (hS.mx hI) ⟨hI.ne (by decide), hI.ne (by decide), by omega, by omega⟩ rfl (lK A (ins fr)) (LAT A nn_ (lK A (ins fr)))
      refine ⟨g1, ?_, Fr.ch k2 (fun r h => by rcases h with h | h | h <;> have h2 := hI _ _ h <;> omega), ?_, fun j hj => by rw [k3, putA_out (by omega)]⟩
      · show b_X4_plant_0 N S (f_X4_plant N S n) g _ _ _ _ _ _ = _
        unfold b_X4_plant_0
        rw [sub_one hft (by omega), c1, if_pos (by decide)]
        simp (disch := (first | assumption | omega | (apply Inj.ne <;> first | assumption | omega) | fail)) only [nn_S, nm_D, ck_T, c2_S, on_N, on_S, lit, mNEG, nI_add, pk_mul, inb_nI, nI_clamp, wrI_row, wrL_row, rdR_rowI, rdR_rowL, rdI_def, rdL_def, rowI_same, rowI_ne, rowI_rowI, rowL_same, rowL_ne, rowL_1, rowI_21, upd_same, upd_ne, nI_le_T, nI_le_F, nI_lt_T, nI_lt_F, nI_eq_F, nI_NEG, NEG_lt0, nI_p, eq_self, if_true, if_false, hS.2.1.1, hS.2.1.2.1, hS.2.1.2.2.1, hS.2.1.2.2.2.1, hS.2.1.2.2.2.2.2.1, hS.2.1.2.2.2.2.2.2.1, hin, c_keyOf rfl hP hC.1 hC.2.1 hks i1, hla]
        rw [k1, c2_S]
      · rw [k3, show to = fr + 1 by omega, lst_one, TREE_one]
        exact seg_putA
    · have hno := c_setNought (N := N) (show 30 ≤ N by omega) (S := S) (g := g) (a := ad 7) (p := pl) (x1 := nI pl) rfl (by omega) (by omega)
      refine ⟨rowI g (ad 7) (putA (g.1 (ad 7)) (8 * pl) NOUGHT), ?_, Fr.row hI (Or.inr (Or.inr rfl)), ?_, fun j hj => by rw [rowI_same, putA_out (by omega)]⟩
      · show b_X4_plant_0 N S (f_X4_plant N S n) g _ _ _ _ _ _ = _
        unfold b_X4_plant_0
        rw [sub_one hft (by omega), if_neg (show ¬ nI (to - fr) = (1 : Int32) from fun e => c1 ((nI_eq (b := 1) (by omega) (by decide)).mp e))]
        have e55 : b_X4_plant_55 N S (f_X4_plant N S n) g (ad 4) (nI pl) = some ((), rowI g (ad 7) (putA (g.1 (ad 7)) (8 * pl) NOUGHT)) := by
          unfold b_X4_plant_55
          rw [hS.2.1.2.2.2.1, nn_S, hno, c2_S]
        rw [e55, if_neg (show ¬ nI (256 - 0) < (256 : Int32) by decide)]
        by_cases c2 : to ≤ fr
        · rw [if_pos (nI_le c2 (by omega))]
        · rw [if_neg (nI_ge (by omega) (by omega))]
      · rw [rowI_same]
        have : TREE (LAT A nn_) 0 (lst (fun k => lK A (ins k)) fr to) = NOUGHT := by
          have hl := lst_len (fun k => lK A (ins k)) fr to
          match lst (fun k => lK A (ins k)) fr to, hl with
          | [], _ => rfl
          | [_], h => simp at h; omega
          | _ :: _ :: _, _ => rfl
        rw [this]
        exact seg_putA
  | succ f ih =>
    intro n g fr to pl hf hn hft hto hpl hA hS hP hC hR
    obtain ⟨n, rfl⟩ : ∃ z, n = z + 1 := ⟨n - 1, by omega⟩
    have l7 := hS.2.1.2.2.2.2.2.2.2.1
    by_cases c1 : to - fr = 1
    · obtain ⟨i1, i2⟩ := hO.2.1 fr (by omega)
      have hin := hR.2.2 fr (by omega)
      have hla := hR.1 (ins fr) i1
      obtain ⟨g1, k1, k2, k3⟩ := c_sumOfLeaf (N := N) (show 30 ≤ N by omega) (g := g) (mx := ad 1) (W := ad 2) (A := ad 3) (to := ad 7) (p := pl) (x3 := nI pl) (hS.mx hI) ⟨hI.ne (by decide), hI.ne (by decide), by omega, by omega⟩ rfl (lK A (ins fr)) (LAT A nn_ (lK A (ins fr)))
      refine ⟨g1, ?_, Fr.ch k2 (fun r h => by rcases h with h | h | h <;> have h2 := hI _ _ h <;> omega), ?_, fun j hj => by rw [k3, putA_out (by omega)]⟩
      · show b_X4_plant_0 N S (f_X4_plant N S n) g _ _ _ _ _ _ = _
        unfold b_X4_plant_0
        rw [sub_one hft (by omega), c1, if_pos (by decide)]
        simp (disch := (first | assumption | omega | (apply Inj.ne <;> first | assumption | omega) | fail)) only [nn_S, nm_D, ck_T, c2_S, on_N, on_S, lit, mNEG, nI_add, pk_mul, inb_nI, nI_clamp, wrI_row, wrL_row, rdR_rowI, rdR_rowL, rdI_def, rdL_def, rowI_same, rowI_ne, rowI_rowI, rowL_same, rowL_ne, rowL_1, rowI_21, upd_same, upd_ne, nI_le_T, nI_le_F, nI_lt_T, nI_lt_F, nI_eq_F, nI_NEG, NEG_lt0, nI_p, eq_self, if_true, if_false, hS.2.1.1, hS.2.1.2.1, hS.2.1.2.2.1, hS.2.1.2.2.2.1, hS.2.1.2.2.2.2.2.1, hS.2.1.2.2.2.2.2.2.1, hin, c_keyOf rfl hP hC.1 hC.2.1 hks i1, hla]
        rw [k1, c2_S]
      · rw [k3, show to = fr + 1 by omega, lst_one, TREE_one]
        exact seg_putA
    · have n1 : ¬ nI (to - fr) = (1 : Int32) := fun e => c1 ((nI_eq (b := 1) (by omega) (by decide)).mp e)
      by_cases c2 : to ≤ fr
      · have hno := c_setNought (N := N) (show 30 ≤ N by omega) (S := S) (g := g) (a := ad 7) (p := pl) (x1 := nI pl) rfl (by omega) (by omega)
        refine ⟨rowI g (ad 7) (putA (g.1 (ad 7)) (8 * pl) NOUGHT), ?_, Fr.row hI (Or.inr (Or.inr rfl)), ?_, fun j hj => by rw [rowI_same, putA_out (by omega)]⟩
        · show b_X4_plant_0 N S (f_X4_plant N S n) g _ _ _ _ _ _ = _
          unfold b_X4_plant_0
          rw [sub_one hft (by omega), if_neg n1, if_pos (nI_le c2 (by omega))]
          unfold b_X4_plant_55
          rw [hS.2.1.2.2.2.1, nn_S, hno, c2_S]
        · rw [rowI_same, lst_nil _ c2, TREE_nil]
          exact seg_putA
      · have hd : 256 - (f + 1) < 256 := by omega
        have e255 : 256 - (f + 1) = 255 - f := by omega
        have e256 : 256 - (f + 1) + 1 = 256 - f := by omega
        obtain ⟨p, q1, q2, q3, q4, q5, q6⟩ := c_partingOf hN hW hd hft hto hS hP hC hR hO hA
        rw [e256] at q6
        obtain ⟨g1, a1, a2, a3, a4⟩ := ih n g fr p pl (by omega) (by omega) q2 (by omega) (by omega) (fun i j i1 i2 j1 j2 e he => q6 i j (Or.inl ⟨i1, i2, j1, j2⟩) e he) hS hP hC hR
        obtain ⟨g2, b1, b2, b3, b4⟩ := ih n g1 p to (pl + 1) (by omega) (by omega) q3 hto (by omega) (fun i j i1 i2 j1 j2 e he => q6 i j (Or.inr ⟨i1, i2, j1, j2⟩) e he) (hS.fr a2.1) (hP.fr a2.1) (hC.fr a2 (by omega)) (hR.fr a2 (by omega))
        have f12 := a2.tr b2
        have hS2 := hS.fr f12.1
        obtain ⟨g3, j1, j2, j3⟩ := c_join (N := N) (show 30 ≤ N by omega) (g := g2) (mx := ad 1) (W := ad 2) (A := ad 3) (to := ad 7) (p := pl) (one := ad 7) (op := pl) (other := ad 7) (qp := pl + 1) (x2 := nI pl) (x4 := nI (pl + 1)) (x6 := nI pl) (hS2.mx hI) ⟨hI.ne (by decide), hI.ne (by decide), by omega, by omega⟩ (hI.ne (by decide)) (hI.ne (by decide)) (by omega) (by omega) (by omega) (by omega) rfl rfl rfl
        refine ⟨g3, ?_, f12.tr (Fr.ch j2 (fun r h => by rcases h with h | h | h <;> have h2 := hI _ _ h <;> omega)), ?_, fun j hj => by rw [j3, putA_out (by omega), b4 j (by omega), a4 j hj]⟩
        · show b_X4_plant_0 N S (f_X4_plant N S n) g _ _ _ _ _ _ = _
          unfold b_X4_plant_0
          rw [sub_one hft (by omega), if_neg n1, if_neg (nI_ge (by omega) (by omega)), if_pos (show nI (256 - (f + 1)) < (256 : Int32) from nI_lt (b := 256) hd (by decide)), q1, c2_S, nI_1, nI_1, e256, a1, c2_S, b1, c2_S, hS2.2.1.1, nn_S, hS2.2.1.2.2.2.1, nn_S, nn_S, nn_S, j1, c2_S]
        · rw [j3, TREE_more _ _ (by rw [lst_len]; omega), ← e255, q4, q5]
          refine seg_putA.tr (JOIN_congr ?_ b3)
          intro j hj
          show g2.1 (ad 7) (8 * pl + j) = _
          rw [b4 _ (by omega)]
          exact a3 j hj
