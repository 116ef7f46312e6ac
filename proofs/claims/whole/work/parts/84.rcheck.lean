/-! the reference: is a PROOF RIGHT, do HEADS agree -/
def RSl (g : Hg) (ad : Nat → Nat) (o s : Nat) (X : ASl) : Prop := RSt g ad o s X ∧
  (g.1 (ad (20010 + o)) (8 * s) = X.1.1 ∧ g.1 (ad (20010 + o)) (8 * s + 2) = X.1.2.1 ∧ g.1 (ad (20010 + o)) (8 * s + 3) = X.1.2.2.1 ∧ g.1 (ad (20010 + o)) (8 * s + 4) = X.1.2.2.2.1 ∧ g.1 (ad (20010 + o)) (8 * s + 5) = X.1.2.2.2.2.2.1 ∧ g.1 (ad (20010 + o)) (8 * s + 6) = X.1.2.2.2.2.2.2 ∧ (X.1.1 = nI 4 → g.1 (ad (20010 + o)) (8 * s + 7) = bI (decide (X.1.2.2.2.2.2.1 ≠ NEG)))) ∧
  (∀ k, k < X.2.1.1 → g.1 (ad (20011 + o)) (40 * s + k) = X.2.1.2.1 k ∧ g.2.1 (ad (20012 + o)) (40 * s + k) = X.2.1.2.2 k) ∧ (X.1.1 = nI 3 ∨ X.1.1 = nI 4 → g.1 (ad (20011 + o)) (40 * s) = X.1.2.2.2.2.1)
theorem RSl.fr {g g1 : Hg} {ad : Nat → Nat} {o s : Nat} {X : ASl} {R : Nat → Prop} (h : RSl g ad o s X) (hf : Fr ad R g g1) (hr : ∀ r, 20010 + o ≤ r → r ≤ 20013 + o → ¬ R r) : RSl g1 ad o s X := by
  unfold RSl RSt
  rw [hf.I (hr (20010 + o) (by omega) (by omega)), hf.I (hr (20011 + o) (by omega) (by omega)), hf.L (hr (20012 + o) (by omega) (by omega)), hf.I (hr (20013 + o) (by omega) (by omega))]
  exact h
theorem RSl.fm {g g1 : Hg} {ad : Nat → Nat} {o s : Nat} {X : ASl} {R : Nat → Prop} (h : RSl g ad o s X) (hf : FM ad R g g1) (hr : ∀ r, 20010 + o ≤ r → r ≤ 20013 + o → ¬ R r) : RSl g1 ad o s X := h.fr hf.1 (fun r r1 r2 c => c.elim (hr r r1 r2) (fun e => by omega))
theorem m_laySteps3 {N : Nat} (hN : 40000 ≤ N) {S : Hs} {ad : Nat → Nat} (hI : Inj ad) {s bb : Nat} {X : ASl} (hs : s < 16) (hbb : bb < 512) (hs2 : X.2.2.1 ≤ 256) : ∀ (f n q u : Nat) (g : Hg) (T : T4), bb ≤ q + f → q ≤ bb → f < n → u + nbF bb f q ≤ X.2.2.1 → RfP S g ad → RSt g ad 0 s X → TmS g ad T → BinO q T → g.1 (ad 20000) 63 = nI u →
    ∃ g1, n_X12_laySteps_3 N S n g (ad 20000) (nI s) (nI bb) (nI q) = some ((), g1) ∧ FM ad (fun r => 20044 ≤ r ∧ r ≤ 20049) g g1 ∧ TmS g1 ad (layS X.2.2.2 bb f q u T) ∧ g1.1 (ad 20000) 63 = nI (u + nbF bb f q) := by
  intro f
  induction f with
  | zero =>
    intro n q u g T h1 h2 h3 hu hR hX hT hB h63
    obtain ⟨n, rfl⟩ : ∃ z, n = z + 1 := ⟨n - 1, by omega⟩
    refine ⟨g, ?_, FM.rf, hT, h63⟩
    show b_X12_laySteps_3 N S (n_X12_laySteps_3 N S n) g _ _ _ _ = _
    unfold b_X12_laySteps_3
    simp (disch := (first | assumption | omega | (apply Inj.ne <;> first | assumption | omega) | fail)) only [nn_S, nm_D, ck_T, c2_S, on_N, on_S, lit, mNEG, nI_add, pk_mul, inb_nI, nI_clamp, wrI_row, wrL_row, rdR_rowI, rdR_rowL, rdI_def, rdL_def, rowI_same, rowI_ne, rowI_rowI, rowL_same, rowL_ne, rowL_1, rowI_21, upd_same, upd_ne, nI_le_T, nI_le_F, nI_lt_T, nI_lt_F, nI_eq_F, nI_NEG, NEG_lt0, nI_p, eq_self, if_true, if_false]
  | succ f ih =>
    intro n q u g T h1 h2 h3 hu hR hX hT hB h63
    obtain ⟨n, rfl⟩ : ∃ z, n = z + 1 := ⟨n - 1, by omega⟩
    by_cases c : q < bb
    · obtain ⟨o1, o2, o3⟩ := bl_ok c
      have hp2 : 0 < 2 ^ bl q bb := Nat.two_pow_pos _
      have hnb : nbF bb (f + 1) q = nbF bb f (q + 2 ^ bl q bb) + 1 := by
        show (if q < bb then nbF bb f (q + 2 ^ bl q bb) + 1 else 0) = _
        rw [if_pos c]
      rw [hnb] at hu ⊢
      have p12 : rdR _ (ad 20000) 12 = some (ad 20013) := hR.p 12 (by decide)
      have l12 : hpL _ (ad 20013) = 32768 := hR.l 12 (by decide) rfl
      obtain ⟨g1, a1, a2, a3⟩ := m_layR hN hI (q := q) (e := bl q bb) (rr := 20013) (p := 8 * (256 * s + u)) (by omega) o3 (by decide) (by rw [l12]; omega) (by rw [l12]; decide) hR hT hB (hX.2 u (by omega))
      have h631 : g1.1 (ad 20000) 63 = nI u := by rw [a2.2 63 (by decide)]; exact h63
      let g2 : Hg := rowI g1 (ad 20000) (upd (g1.1 (ad 20000)) 63 (nI (u + 1)))
      have f2 : FM ad (fun r => 20044 ≤ r ∧ r ≤ 20049) g g2 := (a2.fm.mono (fun r h => by omega)).tr (FM.set hI (by omega))
      have hT2 : TmS g2 ad (tput T q (bl q bb) (X.2.2.2 u)) := by
        unfold TmS
        show (rowI g1 _ _).1 _ _ = _ ∧ TwH _ ((rowI g1 _ _).1 _) ((rowI g1 _ _).1 _) ((rowI g1 _ _).1 _)
        rw [rowI_same, upd_ne _ _ (by decide), rowI_ne _ _ (hI.ne (by decide)), rowI_ne _ _ (hI.ne (by decide)), rowI_ne _ _ (hI.ne (by decide))]
        exact a3
      have hX2 : RSt g2 ad 0 s X := hX.fr f2.1 (by omega) (by omega)
      obtain ⟨g3, b1, b2, b3, b4⟩ := ih n (q + 2 ^ bl q bb) (u + 1) g2 (tput T q (bl q bb) (X.2.2.2 u)) (by omega) o2 (by omega) (by omega) (hR.fr f2.1.1) hX2 hT2 (tput_bin hB o1 _) (by show (rowI g1 _ _).1 _ _ = _; rw [rowI_same, upd_same])
      refine ⟨g3, ?_, f2.tr b2, ?_, by rw [b4]; congr 1; omega⟩
      · have hblk := m_blockAt (N := N) (S := S) (g := g) (a := q) (b := bb) (by omega) rfl rfl (by omega) (by omega)
        show b_X12_laySteps_3 N S (n_X12_laySteps_3 N S n) g _ _ _ _ = _
        unfold b_X12_laySteps_3
        simp (disch := (first | assumption | omega | (apply Inj.ne <;> first | assumption | omega) | fail)) only [nn_S, nm_D, ck_T, c2_S, on_N, on_S, lit, mNEG, nI_add, pk_mul, inb_nI, nI_clamp, wrI_row, wrL_row, rdR_rowI, rdR_rowL, rdI_def, rdL_def, rowI_same, rowI_ne, rowI_rowI, rowL_same, rowL_ne, rowL_1, rowI_21, upd_same, upd_ne, nI_le_T, nI_le_F, nI_lt_T, nI_lt_F, nI_eq_F, nI_NEG, NEG_lt0, nI_p, eq_self, if_true, if_false, hblk, p12, h63, a1, h631]
        exact b1
      · show TmS g3 ad (if q < bb then _ else T)
        rw [if_pos c]; exact b3
    · have hnb : nbF bb (f + 1) q = 0 := by
        show (if q < bb then nbF bb f (q + 2 ^ bl q bb) + 1 else 0) = _
        rw [if_neg c]
      rw [hnb]
      refine ⟨g, ?_, FM.rf, ?_, h63⟩
      · show b_X12_laySteps_3 N S (n_X12_laySteps_3 N S n) g _ _ _ _ = _
        unfold b_X12_laySteps_3
        simp (disch := (first | assumption | omega | (apply Inj.ne <;> first | assumption | omega) | fail)) only [nn_S, nm_D, ck_T, c2_S, on_N, on_S, lit, mNEG, nI_add, pk_mul, inb_nI, nI_clamp, wrI_row, wrL_row, rdR_rowI, rdR_rowL, rdI_def, rdL_def, rowI_same, rowI_ne, rowI_rowI, rowL_same, rowL_ne, rowL_1, rowI_21, upd_same, upd_ne, nI_le_T, nI_le_F, nI_lt_T, nI_lt_F, nI_eq_F, nI_NEG, NEG_lt0, nI_p, eq_self, if_true, if_false]
      · show TmS g ad (if q < bb then _ else T)
        rw [if_neg c]; exact hT
theorem m_laySteps {N : Nat} (hN : 40000 ≤ N) {S : Hs} {g : Hg} {ad : Nat → Nat} (hI : Inj ad) {s a bb u : Nat} {X : ASl} {T : T4} (hs : s < 16) (hab : a ≤ bb) (hbb : bb < 512) (hs2 : X.2.2.1 ≤ 256) (hu : u + nb a bb ≤ X.2.2.1) (hR : RfP S g ad) (hX : RSt g ad 0 s X) (hT : TmS g ad T) (hB : BinO a T) (h63 : g.1 (ad 20000) 63 = nI u) :
    ∃ g1, f_X12_laySteps N S g (ad 20000) (nI s) (nI a) (nI bb) = some ((), g1) ∧ FM ad (fun r => 20044 ≤ r ∧ r ≤ 20049) g g1 ∧ TmS g1 ad (layX X.2.2.2 a bb u T) ∧ g1.1 (ad 20000) 63 = nI (u + nb a bb) :=
  m_laySteps3 hN hI hs hbb hs2 (bb - a) N a u g T (by omega) hab (by omega) hu hR hX hT hB h63
/-- TOP into found (or top), and held against a HEAD's -/
theorem m_topLike {N : Nat} (hN : 40000 ≤ N) {S : Hs} {g : Hg} {ad : Nat → Nat} (hI : Inj ad) {fd rr p q : Nat} {T : T4} {v : Nat → Int32} (hfd : fd = 20065 ∨ fd = 20066) (hlf : hpL S (ad fd) = 8) (hrr : rr = 20014 ∨ rr = 20060) (hl : q + 8 ≤ hpL S (ad rr)) (hl2 : hpL S (ad rr) < 2 ^ 31) (hR : RfP S g ad) (hT : TmS g ad T) (hB : BinO p T) (hp : p < 512) (hv : eq8 (seg (g.1 (ad rr)) q) v) :
    ∃ g1, f_X12_top N S g (ad 20000) (ad fd) (nI 0) = some ((), g1) ∧ Fr ad (fun r => r = 20044 ∨ r = 20045 ∨ r = 20051 ∨ r = fd) g g1 ∧ f_X12_areLike N S g1 (ad fd) (nI 0) (ad rr) (nI q) = some (bI (sameB (TOPX T) v), g1) ∧ TmS g1 ad T := by
  obtain ⟨g1, a1, a2, a3⟩ := m_topR hN hI (rr := fd) (at_ := 0) (by omega) (by omega) (by omega) hR hT hB hp
  refine ⟨g1, a1, a2, ?_, hT.fr a2 (by omega) ⟨by omega, by omega, by omega⟩⟩
  refine m_areLike hN (by omega) (by omega) hl hl2 ?_ ?_
  · rw [a3]; exact seg_putA
  · rw [a2.I (by omega)]; exact hv
theorem m_isGrownRight {N : Nat} (hN : 40000 ≤ N) {S : Hs} {g : Hg} {ad : Nat → Nat} (hI : Inj ad) {s m n p q : Nat} {X : ASl} {H1 H2 : AHd} (hs : s < 16) (hX1 : X.1.2.2.1 = nI m ∧ X.1.2.1 = nI n) (hmn : m ≤ n) (hn : n ≤ 400) (hsn : nb 0 m + nb m n ≤ X.2.2.1) (hs2 : X.2.2.1 ≤ 256) (hp : p + 28 ≤ 336) (hq : q + 28 ≤ 336) (hR : RfP S g ad) (hX : RSl g ad 0 s X) (hH1 : RHd g ad 20014 p H1) (hH2 : RHd g ad 20014 q H2) :
    ∃ g1, f_X12_isGrownRight N S g (ad 20000) (nI s) (ad 20014) (nI p) (ad 20014) (nI q) = some (bI (sameB (TOPX (layX X.2.2.2 0 m 0 T40)) H1.2.2.1 && sameB (TOPX (layX X.2.2.2 m n (nb 0 m) (layX X.2.2.2 0 m 0 T40))) H2.2.2.1), g1) ∧ FM ad RS g g1 := by
  have p9 : rdR _ (ad 20000) 9 = some (ad 20010) := hR.p 9 (by decide)
  have l9 : hpL _ (ad 20010) = 128 := hR.l 9 (by decide) rfl
  have l13 : hpL _ (ad 20014) = 336 := hR.l 13 (by decide) rfl
  have l64 : hpL _ (ad 20065) = 8 := hR.l 64 (by decide) rfl
  have v3 : g.1 (ad 20010) (8 * s + 3) = nI m := hX.2.1.2.2.1.trans hX1.1
  have v2 : g.1 (ad 20010) (8 * s + 2) = nI n := hX.2.1.2.1.trans hX1.2
  let g0 : Hg := rowI g (ad 20000) (upd (upd (g.1 (ad 20000)) 49 (nI 0)) 63 (nI 0))
  have f0 : FM ad RS g g0 := ⟨Fr.row hI (Or.inr rfl), fun k a b c d => by simp (disch := (first | assumption | omega | (apply Inj.ne <;> first | assumption | omega) | fail)) only [nn_S, nm_D, ck_T, c2_S, on_N, on_S, lit, mNEG, nI_add, pk_mul, inb_nI, nI_clamp, wrI_row, wrL_row, rdR_rowI, rdR_rowL, rdI_def, rdL_def, rowI_same, rowI_ne, rowI_rowI, rowL_same, rowL_ne, rowL_1, rowI_21, upd_same, upd_ne, nI_le_T, nI_le_F, nI_lt_T, nI_lt_F, nI_eq_F, nI_NEG, NEG_lt0, nI_p, eq_self, if_true, if_false, g0]⟩
  have hT0 : TmS g0 ad T40 := ⟨by simp (disch := (first | assumption | omega | (apply Inj.ne <;> first | assumption | omega) | fail)) only [nn_S, nm_D, ck_T, c2_S, on_N, on_S, lit, mNEG, nI_add, pk_mul, inb_nI, nI_clamp, wrI_row, wrL_row, rdR_rowI, rdR_rowL, rdI_def, rdL_def, rowI_same, rowI_ne, rowI_rowI, rowL_same, rowL_ne, rowL_1, rowI_21, upd_same, upd_ne, nI_le_T, nI_le_F, nI_lt_T, nI_lt_F, nI_eq_F, nI_NEG, NEG_lt0, nI_p, eq_self, if_true, if_false, g0]; rfl, fun i hi => absurd hi (by show ¬ i < 0; omega)⟩
  have hR0 : RfP S g0 ad := hR.fr rfl
  obtain ⟨g1, a1, a2, a3, a4⟩ := m_laySteps hN hI hs (Nat.zero_le m) (by omega) hs2 (show 0 + nb 0 m ≤ _ by omega) hR0 (hX.1.fr f0.1 (by unfold RS; omega) (by unfold RS; omega)) hT0 bin40 (by simp (disch := (first | assumption | omega | (apply Inj.ne <;> first | assumption | omega) | fail)) only [nn_S, nm_D, ck_T, c2_S, on_N, on_S, lit, mNEG, nI_add, pk_mul, inb_nI, nI_clamp, wrI_row, wrL_row, rdR_rowI, rdR_rowL, rdI_def, rdL_def, rowI_same, rowI_ne, rowI_rowI, rowL_same, rowL_ne, rowL_1, rowI_21, upd_same, upd_ne, nI_le_T, nI_le_F, nI_lt_T, nI_lt_F, nI_eq_F, nI_NEG, NEG_lt0, nI_p, eq_self, if_true, if_false, g0])
  have hR1 := hR0.fr a2.1.1
  have f1 : FM ad RS g g1 := f0.tr (a2.mono (fun r h => by unfold RS; omega))
  have hB1 := layX_bin X.2.2.2 (s := 0) (Nat.zero_le m) bin40
  obtain ⟨g2, b1, b2, b3, b4⟩ := m_topLike hN hI (fd := 20065) (rr := 20014) (q := p + 4) (Or.inl rfl) l64 (Or.inl rfl) (by rw [l13]; omega) (by rw [l13]; decide) hR1 a3 hB1 (by omega) (hH1.fm f1 (by unfold RS; omega) (by decide)).2.1
  have hR2 := hR1.fr b2.1
  have f2 : FM ad RS g g2 := f1.tr (FM.fr (b2.mono (fun r h => by unfold RS; omega)) (by unfold RS; omega))
  have p64 : rdR _ (ad 20000) 64 = some (ad 20065) := hR1.p 64 (by decide)
  have p642 : rdR _ (ad 20000) 64 = some (ad 20065) := hR2.p 64 (by decide)
  have p92 : rdR _ (ad 20000) 9 = some (ad 20010) := hR2.p 9 (by decide)
  have v22 : g2.1 (ad 20010) (8 * s + 2) = nI n := by rw [f2.I (by unfold RS; omega) (by decide)]; exact v2
  cases hc : sameB (TOPX (layX X.2.2.2 0 m 0 T40)) H1.2.2.1 with
  | false =>
    rw [hc, bI_f] at b3
    refine ⟨g2, ?_, f2⟩
    show b_X12_isGrownRight_0 N S g _ _ _ _ _ _ = _
    unfold b_X12_isGrownRight_0
    simp (disch := (first | assumption | omega | (apply Inj.ne <;> first | assumption | omega) | fail)) only [nn_S, nm_D, ck_T, c2_S, on_N, on_S, lit, mNEG, nI_add, pk_mul, inb_nI, nI_clamp, wrI_row, wrL_row, rdR_rowI, rdR_rowL, rdI_def, rdL_def, rowI_same, rowI_ne, rowI_rowI, rowL_same, rowL_ne, rowL_1, rowI_21, upd_same, upd_ne, nI_le_T, nI_le_F, nI_lt_T, nI_lt_F, nI_eq_F, nI_NEG, NEG_lt0, nI_p, eq_self, if_true, if_false, p9, l9, v3]
    rw [show rowI g (ad 20000) (upd (upd (g.1 (ad 20000)) 49 (nI 0)) 63 (nI 0)) = g0 from rfl, a1]
    simp (disch := (first | assumption | omega | (apply Inj.ne <;> first | assumption | omega) | fail)) only [nn_S, nm_D, ck_T, c2_S, on_N, on_S, lit, mNEG, nI_add, pk_mul, inb_nI, nI_clamp, wrI_row, wrL_row, rdR_rowI, rdR_rowL, rdI_def, rdL_def, rowI_same, rowI_ne, rowI_rowI, rowL_same, rowL_ne, rowL_1, rowI_21, upd_same, upd_ne, nI_le_T, nI_le_F, nI_lt_T, nI_lt_F, nI_eq_F, nI_NEG, NEG_lt0, nI_p, eq_self, if_true, if_false, p64, b1, p642, b3]
    rfl
  | true =>
    rw [hc, bI_t] at b3
    have h63 : g2.1 (ad 20000) 63 = nI (nb 0 m) := by
      rw [b2.I (by decide), a4, Nat.zero_add]
    obtain ⟨g3, c1, c2', c3, c4⟩ := m_laySteps hN hI hs hmn (by omega) hs2 hsn hR2 (hX.1.fr f2.1 (by unfold RS; omega) (by unfold RS; omega)) b4 hB1 h63
    have hR3 := hR2.fr c2'.1.1
    have f3 : FM ad RS g g3 := f2.tr (c2'.mono (fun r h => by unfold RS; omega))
    have hB3 := layX_bin X.2.2.2 (s := nb 0 m) hmn hB1
    obtain ⟨g4, d1, d2, d3, d4⟩ := m_topLike hN hI (fd := 20065) (rr := 20014) (q := q + 4) (Or.inl rfl) l64 (Or.inl rfl) (by rw [l13]; omega) (by rw [l13]; decide) hR3 c3 hB3 (by omega) (hH2.fm f3 (by unfold RS; omega) (by decide)).2.1
    have hR4 := hR3.fr d2.1
    have p643 : rdR _ (ad 20000) 64 = some (ad 20065) := hR3.p 64 (by decide)
    have p644 : rdR _ (ad 20000) 64 = some (ad 20065) := hR4.p 64 (by decide)
    refine ⟨g4, ?_, f3.tr (FM.fr (d2.mono (fun r h => by unfold RS; omega)) (by unfold RS; omega))⟩
    rw [Bool.true_and]
    show b_X12_isGrownRight_0 N S g _ _ _ _ _ _ = _
    unfold b_X12_isGrownRight_0
    simp (disch := (first | assumption | omega | (apply Inj.ne <;> first | assumption | omega) | fail)) only [nn_S, nm_D, ck_T, c2_S, on_N, on_S, lit, mNEG, nI_add, pk_mul, inb_nI, nI_clamp, wrI_row, wrL_row, rdR_rowI, rdR_rowL, rdI_def, rdL_def, rowI_same, rowI_ne, rowI_rowI, rowL_same, rowL_ne, rowL_1, rowI_21, upd_same, upd_ne, nI_le_T, nI_le_F, nI_lt_T, nI_lt_F, nI_eq_F, nI_NEG, NEG_lt0, nI_p, eq_self, if_true, if_false, p9, l9, v3]
    rw [show rowI g (ad 20000) (upd (upd (g.1 (ad 20000)) 49 (nI 0)) 63 (nI 0)) = g0 from rfl, a1]
    simp (disch := (first | assumption | omega | (apply Inj.ne <;> first | assumption | omega) | fail)) only [nn_S, nm_D, ck_T, c2_S, on_N, on_S, lit, mNEG, nI_add, pk_mul, inb_nI, nI_clamp, wrI_row, wrL_row, rdR_rowI, rdR_rowL, rdI_def, rdL_def, rowI_same, rowI_ne, rowI_rowI, rowL_same, rowL_ne, rowL_1, rowI_21, upd_same, upd_ne, nI_le_T, nI_le_F, nI_lt_T, nI_lt_F, nI_eq_F, nI_NEG, NEG_lt0, nI_p, eq_self, if_true, if_false, p64, b1, p642, b3, p92, l9, v22, c1, p643, d1, p644, d3, zb_bI]
theorem m_isSpan68 {N : Nat} (hN : 40000 ≤ N) {S : Hs} {ad : Nat → Nat} (hI : Inj ad) {s a n_ p : Nat} {X : ASl} {H : AHd} (hs : s < 16) (hXn : X.1.2.1 = nI n_) (hec : X.2.1.1 ≤ 40) (han : a + X.2.1.1 ≤ n_) (hn : n_ ≤ 400) (hsn : nb 0 a + nb (a + X.2.1.1) n_ ≤ X.2.2.1) (hs2 : X.2.2.1 ≤ 256) (hp : p + 28 ≤ 336) : ∀ (f n k : Nat) (g : Hg) (T : T4), k + f = X.2.1.1 → f < n → RfP S g ad → RSl g ad 0 s X → RHd g ad 20014 p H → TmS g ad T → BinO (a + k) T → g.1 (ad 20000) 63 = nI (nb 0 a) →
    ∃ g1, n_X12_isSpanRight_68 N S n g (ad 20000) (nI s) (ad 20014) (nI p) (nI a) (nI (a + X.2.1.1)) (nI (a + k)) = some (bI (sameB (TOPX (layX X.2.2.2 (a + X.2.1.1) n_ (nb 0 a) (layE X.2.1.2.1 X.2.1.2.2 a f k T))) H.2.2.1), g1) ∧ FM ad RS g g1 := by
  intro f
  induction f with
  | zero =>
    intro n k g T h1 h2 hR hX hH hT hB h63
    obtain ⟨n, rfl⟩ : ∃ z, n = z + 1 := ⟨n - 1, by omega⟩
    obtain rfl : k = X.2.1.1 := by omega
    have p9 : rdR _ (ad 20000) 9 = some (ad 20010) := hR.p 9 (by decide)
    have l9 : hpL _ (ad 20010) = 128 := hR.l 9 (by decide) rfl
    have l13 : hpL _ (ad 20014) = 336 := hR.l 13 (by decide) rfl
    have l64 : hpL _ (ad 20065) = 8 := hR.l 64 (by decide) rfl
    have v2 : g.1 (ad 20010) (8 * s + 2) = nI n_ := hX.2.1.2.1.trans hXn
    obtain ⟨g1, a1, a2, a3, a4⟩ := m_laySteps hN hI hs han (by omega) hs2 hsn hR hX.1 hT hB h63
    have hR1 := hR.fr a2.1.1
    have f1 : FM ad RS g g1 := a2.mono (fun r h => by unfold RS; omega)
    have hB1 := layX_bin X.2.2.2 (s := nb 0 a) han hB
    obtain ⟨g2, b1, b2, b3, b4⟩ := m_topLike hN hI (fd := 20065) (rr := 20014) (q := p + 4) (Or.inl rfl) l64 (Or.inl rfl) (by rw [l13]; omega) (by rw [l13]; decide) hR1 a3 hB1 (by omega) (hH.fm f1 (by unfold RS; omega) (by decide)).2.1
    have p64 : rdR _ (ad 20000) 64 = some (ad 20065) := hR1.p 64 (by decide)
    have p642 : rdR _ (ad 20000) 64 = some (ad 20065) := (hR1.fr b2.1).p 64 (by decide)
    refine ⟨g2, ?_, f1.tr (FM.fr (b2.mono (fun r h => by unfold RS; omega)) (by unfold RS; omega))⟩
    show b_X12_isSpanRight_68 N S (n_X12_isSpanRight_68 N S n) g _ _ _ _ _ _ _ = _
    unfold b_X12_isSpanRight_68
    simp (disch := (first | assumption | omega | (apply Inj.ne <;> first | assumption | omega) | fail)) only [nn_S, nm_D, ck_T, c2_S, on_N, on_S, lit, mNEG, nI_add, pk_mul, inb_nI, nI_clamp, wrI_row, wrL_row, rdR_rowI, rdR_rowL, rdI_def, rdL_def, rowI_same, rowI_ne, rowI_rowI, rowL_same, rowL_ne, rowL_1, rowI_21, upd_same, upd_ne, nI_le_T, nI_le_F, nI_lt_T, nI_lt_F, nI_eq_F, nI_NEG, NEG_lt0, nI_p, eq_self, if_true, if_false, p9, l9, v2, a1, p64, b1, p642, b3, zb_bI]
    rfl
  | succ f ih =>
    intro n k g T h1 h2 hR hX hH hT hB h63
    obtain ⟨n, rfl⟩ : ∃ z, n = z + 1 := ⟨n - 1, by omega⟩
    have p10 : rdR _ (ad 20000) 10 = some (ad 20011) := hR.p 10 (by decide)
    have l10 : hpL _ (ad 20011) = 640 := hR.l 10 (by decide) rfl
    have p11 : rdR _ (ad 20000) 11 = some (ad 20012) := hR.p 11 (by decide)
    have l11 : hpL _ (ad 20012) = 640 := hR.l 11 (by decide) rfl
    have p51 : rdR _ (ad 20000) 51 = some (ad 20052) := hR.p 51 (by decide)
    have l51 : hpL _ (ad 20052) = 8 := hR.l 51 (by decide) rfl
    have vk : g.1 (ad 20011) (40 * s + k) = X.2.1.2.1 k := (hX.2.2.1 k (by omega)).1
    have vv : g.2.1 (ad 20012) (40 * s + k) = X.2.1.2.2 k := (hX.2.2.1 k (by omega)).2
    obtain ⟨g1, a1, a2, a3⟩ := m_entrySum (N := N) (row := ad 20052) (at_ := 0) (x5 := nI 0) (by omega) (hR.mm hI) ⟨hI.ne (by decide), hI.ne (by decide), by rw [l51]; decide, by rw [l51]; decide⟩ rfl (X.2.1.2.1 k) (X.2.1.2.2 k)
    have f1 : Fr ad (fun r => r = 20044 ∨ r = 20045 ∨ r = 20052) g g1 := Fr.ch3 hI a2
    have hR1 := hR.fr f1.1
    have p512 : rdR _ (ad 20000) 51 = some (ad 20052) := hR1.p 51 (by decide)
    obtain ⟨g2, b1, b2, b3⟩ := m_layR hN hI (q := a + k) (e := 0) (rr := 20052) (p := 0) (by omega) (by decide) (by decide) (by rw [l51]; decide) (by rw [l51]; decide) hR1 (hT.fr f1 (by decide) (by decide)) hB (v := ENT (X.2.1.2.1 k) (X.2.1.2.2 k)) (by rw [a3]; exact seg_putA)
    have f2 : FM ad RS g g2 := (FM.fr (f1.mono (fun r h => by unfold RS; omega)) (by unfold RS; omega)).tr (b2.fm.mono (fun r h => by unfold RS; omega))
    obtain ⟨g3, c1, c2'⟩ := ih n (k + 1) g2 (tput T (a + k) 0 (ENT (X.2.1.2.1 k) (X.2.1.2.2 k))) (by omega) (by omega) (hR1.fr b2.1.1) (hX.fm f2 (fun r _ _ => by unfold RS; omega)) (hH.fm f2 (by unfold RS; omega) (by decide)) b3 (tput_bin hB (Nat.one_dvd _) _) (by rw [b2.2 63 (by decide), f1.I (by decide)]; exact h63)
    refine ⟨g3, ?_, f2.tr c2'⟩
    have es : nI (40 * s + (a + k)) - nI a = nI (40 * s + k) := by
      rw [pk_sub (by omega)]
      congr 1
      omega
    show b_X12_isSpanRight_68 N S (n_X12_isSpanRight_68 N S n) g _ _ _ _ _ _ _ = _
    unfold b_X12_isSpanRight_68
    simp (disch := (first | assumption | omega | (apply Inj.ne <;> first | assumption | omega) | fail)) only [nn_S, nm_D, ck_T, c2_S, on_N, on_S, lit, mNEG, nI_add, pk_mul, inb_nI, nI_clamp, wrI_row, wrL_row, rdR_rowI, rdR_rowL, rdI_def, rdL_def, rowI_same, rowI_ne, rowI_rowI, rowL_same, rowL_ne, rowL_1, rowI_21, upd_same, upd_ne, nI_le_T, nI_le_F, nI_lt_T, nI_lt_F, nI_eq_F, nI_NEG, NEG_lt0, nI_p, eq_self, if_true, if_false, p10, l10, p11, l11, p51, es, vk, vv, a1, p512]
    rw [show f_X12_lay N S g1 (ad 20000) (nI (a + k)) (nI 1) (ad 20052) (nI 0) = some ((), g2) from b1]
    simp (disch := (first | assumption | omega | (apply Inj.ne <;> first | assumption | omega) | fail)) only [nn_S, nm_D, ck_T, c2_S, on_N, on_S, lit, mNEG, nI_add, pk_mul, inb_nI, nI_clamp, wrI_row, wrL_row, rdR_rowI, rdR_rowL, rdI_def, rdL_def, rowI_same, rowI_ne, rowI_rowI, rowL_same, rowL_ne, rowL_1, rowI_21, upd_same, upd_ne, nI_le_T, nI_le_F, nI_lt_T, nI_lt_F, nI_eq_F, nI_NEG, NEG_lt0, nI_p, eq_self, if_true, if_false]
    exact c1
theorem m_isSpanRight {N : Nat} (hN : 40000 ≤ N) {S : Hs} {g : Hg} {ad : Nat → Nat} (hI : Inj ad) {s a n_ p : Nat} {X : ASl} {H : AHd} (hs : s < 16) (hk : X.1.1 = nI 1 ∧ X.2.1.1 = 1 ∨ X.1.1 = nI 5 ∧ X.1.2.2.2.1 = nI (a + X.2.1.1)) (hX1 : X.1.2.2.1 = nI a ∧ X.1.2.1 = nI n_) (hec : X.2.1.1 ≤ 40) (han : a + X.2.1.1 ≤ n_) (hn : n_ ≤ 400) (hsn : nb 0 a + nb (a + X.2.1.1) n_ ≤ X.2.2.1) (hs2 : X.2.2.1 ≤ 256) (hp : p + 28 ≤ 336) (hR : RfP S g ad) (hX : RSl g ad 0 s X) (hH : RHd g ad 20014 p H) :
    ∃ g1, f_X12_isSpanRight N S g (ad 20000) (nI s) (ad 20014) (nI p) = some (bI (sameB (TOPX (entT X a n_)) H.2.2.1), g1) ∧ FM ad RS g g1 := by
  have p9 : rdR _ (ad 20000) 9 = some (ad 20010) := hR.p 9 (by decide)
  have l9 : hpL _ (ad 20010) = 128 := hR.l 9 (by decide) rfl
  have v3 : g.1 (ad 20010) (8 * s + 3) = nI a := hX.2.1.2.2.1.trans hX1.1
  have v0 : g.1 (ad 20010) (8 * s) = X.1.1 := hX.2.1.1
  have v4 : g.1 (ad 20010) (8 * s + 4) = X.1.2.2.2.1 := hX.2.1.2.2.2.1
  let g0 : Hg := rowI g (ad 20000) (upd (upd (g.1 (ad 20000)) 49 (nI 0)) 63 (nI 0))
  have f0 : FM ad RS g g0 := ⟨Fr.row hI (Or.inr rfl), fun k a b c d => by simp (disch := (first | assumption | omega | (apply Inj.ne <;> first | assumption | omega) | fail)) only [nn_S, nm_D, ck_T, c2_S, on_N, on_S, lit, mNEG, nI_add, pk_mul, inb_nI, nI_clamp, wrI_row, wrL_row, rdR_rowI, rdR_rowL, rdI_def, rdL_def, rowI_same, rowI_ne, rowI_rowI, rowL_same, rowL_ne, rowL_1, rowI_21, upd_same, upd_ne, nI_le_T, nI_le_F, nI_lt_T, nI_lt_F, nI_eq_F, nI_NEG, NEG_lt0, nI_p, eq_self, if_true, if_false, g0]⟩
  have hT0 : TmS g0 ad T40 := ⟨by simp (disch := (first | assumption | omega | (apply Inj.ne <;> first | assumption | omega) | fail)) only [nn_S, nm_D, ck_T, c2_S, on_N, on_S, lit, mNEG, nI_add, pk_mul, inb_nI, nI_clamp, wrI_row, wrL_row, rdR_rowI, rdR_rowL, rdI_def, rdL_def, rowI_same, rowI_ne, rowI_rowI, rowL_same, rowL_ne, rowL_1, rowI_21, upd_same, upd_ne, nI_le_T, nI_le_F, nI_lt_T, nI_lt_F, nI_eq_F, nI_NEG, NEG_lt0, nI_p, eq_self, if_true, if_false, g0]; rfl, fun i hi => absurd hi (by show ¬ i < 0; omega)⟩
  have hR0 : RfP S g0 ad := hR.fr rfl
  obtain ⟨g1, a1, a2, a3, a4⟩ := m_laySteps hN hI hs (Nat.zero_le a) (by omega) hs2 (show 0 + nb 0 a ≤ _ by omega) hR0 (hX.1.fr f0.1 (by unfold RS; omega) (by unfold RS; omega)) hT0 bin40 (by simp (disch := (first | assumption | omega | (apply Inj.ne <;> first | assumption | omega) | fail)) only [nn_S, nm_D, ck_T, c2_S, on_N, on_S, lit, mNEG, nI_add, pk_mul, inb_nI, nI_clamp, wrI_row, wrL_row, rdR_rowI, rdR_rowL, rdI_def, rdL_def, rowI_same, rowI_ne, rowI_rowI, rowL_same, rowL_ne, rowL_1, rowI_21, upd_same, upd_ne, nI_le_T, nI_le_F, nI_lt_T, nI_lt_F, nI_eq_F, nI_NEG, NEG_lt0, nI_p, eq_self, if_true, if_false, g0])
  have f1 : FM ad RS g g1 := f0.tr (a2.mono (fun r h => by unfold RS; omega))
  have hB1 := layX_bin X.2.2.2 (s := 0) (Nat.zero_le a) bin40
  obtain ⟨g2, b1, b2⟩ := m_isSpan68 hN hI hs hX1.2 hec han hn hsn hs2 hp X.2.1.1 N 0 g1 (layX X.2.2.2 0 a 0 T40) (by omega) (by omega) (hR0.fr a2.1.1) (hX.fm f1 (fun r _ _ => by unfold RS; omega)) (hH.fm f1 (by unfold RS; omega) (by decide)) a3 hB1 (by rw [a4, Nat.zero_add])
  refine ⟨g2, ?_, f1.tr b2⟩
  have h44 : b_X12_isSpanRight_44 N S g (ad 20000) (nI s) (ad 20014) (nI p) (nI a) (nI (a + X.2.1.1)) = some (bI (sameB (TOPX (entT X a n_)) H.2.2.1), g2) := by
    unfold b_X12_isSpanRight_44
    simp (disch := (first | assumption | omega | (apply Inj.ne <;> first | assumption | omega) | fail)) only [nn_S, nm_D, ck_T, c2_S, on_N, on_S, lit, mNEG, nI_add, pk_mul, inb_nI, nI_clamp, wrI_row, wrL_row, rdR_rowI, rdR_rowL, rdI_def, rdL_def, rowI_same, rowI_ne, rowI_rowI, rowL_same, rowL_ne, rowL_1, rowI_21, upd_same, upd_ne, nI_le_T, nI_le_F, nI_lt_T, nI_lt_F, nI_eq_F, nI_NEG, NEG_lt0, nI_p, eq_self, if_true, if_false]
    rw [show rowI g (ad 20000) (upd (upd (g.1 (ad 20000)) 49 (nI 0)) 63 (nI 0)) = g0 from rfl, a1, c2_S]
    exact b1
  show b_X12_isSpanRight_0 N S g _ _ _ _ = _
  unfold b_X12_isSpanRight_0
  rcases hk with ⟨hk, he⟩ | ⟨hk, he⟩
  · rw [he] at h44
    rw [hk] at v0
    simp (disch := (first | assumption | omega | (apply Inj.ne <;> first | assumption | omega) | fail)) only [nn_S, nm_D, ck_T, c2_S, on_N, on_S, lit, mNEG, nI_add, pk_mul, inb_nI, nI_clamp, wrI_row, wrL_row, rdR_rowI, rdR_rowL, rdI_def, rdL_def, rowI_same, rowI_ne, rowI_rowI, rowL_same, rowL_ne, rowL_1, rowI_21, upd_same, upd_ne, nI_le_T, nI_le_F, nI_lt_T, nI_lt_F, nI_eq_F, nI_NEG, NEG_lt0, nI_p, eq_self, if_true, if_false, p9, l9, v3, v0]
    exact h44
  · rw [hk] at v0
    rw [he] at v4
    simp (disch := (first | assumption | omega | (apply Inj.ne <;> first | assumption | omega) | fail)) only [nn_S, nm_D, ck_T, c2_S, on_N, on_S, lit, mNEG, nI_add, pk_mul, inb_nI, nI_clamp, wrI_row, wrL_row, rdR_rowI, rdR_rowL, rdI_def, rdL_def, rowI_same, rowI_ne, rowI_rowI, rowL_same, rowL_ne, rowL_1, rowI_21, upd_same, upd_ne, nI_le_T, nI_le_F, nI_lt_T, nI_lt_F, nI_eq_F, nI_NEG, NEG_lt0, nI_p, eq_self, if_true, if_false, p9, l9, v3, v0, v4]
    exact h44
theorem m_isWay193 {N : Nat} (hN : 40000 ≤ N) {S : Hs} {ad : Nat → Nat} (hI : Inj ad) {s p : Nat} {X : ASl} {H : AHd} (hs : s < 16) (hs2 : X.2.2.1 ≤ 256) (hp : p + 28 ≤ 336) : ∀ (t n : Nat) (g : Hg) (v : Nat → Int32), t ≤ X.2.2.1 → t < n → RfP S g ad → RSt g ad 0 s X → RHd g ad 20014 p H → eq8 (g.1 (ad 20062)) (WAY X.1.2.2.2.2.1) → eq8 (g.1 (ad 20065)) v →
    ∃ g1, n_X12_isWayRight_193 N S n g (ad 20000) (nI s) (ad 20014) (nI p) (nI t - 1) = some (bI (sameB (LEAD X.2.2.2 (WAY X.1.2.2.2.2.1) t v) H.2.2.2.1), g1) ∧ Fr ad (fun r => r = 20044 ∨ r = 20045 ∨ r = 20065) g g1 := by
  intro t
  induction t with
  | zero =>
    intro n g v h1 h2 hR hX hH hw hv
    obtain ⟨n, rfl⟩ : ∃ z, n = z + 1 := ⟨n - 1, by omega⟩
    have p64 : rdR _ (ad 20000) 64 = some (ad 20065) := hR.p 64 (by decide)
    have l64 : hpL _ (ad 20065) = 8 := hR.l 64 (by decide) rfl
    have l13 : hpL _ (ad 20014) = 336 := hR.l 13 (by decide) rfl
    have hal := m_areLike hN (S := S) (g := g) (a := ad 20065) (p := 0) (b := ad 20014) (q := p + 12) (u := v) (v := H.2.2.2.1) (by omega) (by omega) (by omega) (by omega) (fun j hj => by show g.1 (ad 20065) (0 + j) = _; rw [Nat.zero_add]; exact hv j hj) hH.2.2.1
    refine ⟨g, ?_, Fr.rf⟩
    show b_X12_isWayRight_193 N S (n_X12_isWayRight_193 N S n) g _ _ _ _ _ = _
    unfold b_X12_isWayRight_193
    rw [if_pos (by decide)]
    simp (disch := (first | assumption | omega | (apply Inj.ne <;> first | assumption | omega) | fail)) only [nn_S, nm_D, ck_T, c2_S, on_N, on_S, lit, mNEG, nI_add, pk_mul, inb_nI, nI_clamp, wrI_row, wrL_row, rdR_rowI, rdR_rowL, rdI_def, rdL_def, rowI_same, rowI_ne, rowI_rowI, rowL_same, rowL_ne, rowL_1, rowI_21, upd_same, upd_ne, nI_le_T, nI_le_F, nI_lt_T, nI_lt_F, nI_eq_F, nI_NEG, NEG_lt0, nI_p, eq_self, if_true, if_false, p64, hal, zb_bI]
    rfl
  | succ t ih =>
    intro n g v h1 h2 hR hX hH hw hv
    obtain ⟨n, rfl⟩ : ∃ z, n = z + 1 := ⟨n - 1, by omega⟩
    have p64 : rdR _ (ad 20000) 64 = some (ad 20065) := hR.p 64 (by decide)
    have l64 : hpL _ (ad 20065) = 8 := hR.l 64 (by decide) rfl
    have p61 : rdR _ (ad 20000) 61 = some (ad 20062) := hR.p 61 (by decide)
    have l61 : hpL _ (ad 20062) = 8 := hR.l 61 (by decide) rfl
    have p12 : rdR _ (ad 20000) 12 = some (ad 20013) := hR.p 12 (by decide)
    have l12 : hpL _ (ad 20013) = 32768 := hR.l 12 (by decide) rfl
    have hone : f_X12_isOne N S g (ad 20062) (nI 0) (nI t) = some (nI (wbit (WAY X.1.2.2.2.2.1) t), g) := by
      rw [m_isOne (p := 0) (d := t) rfl rfl (by omega) (by rw [l61]; decide) (by rw [l61]; decide)]
      have : eq8 (seg (g.1 (ad 20062)) 0) (WAY X.1.2.2.2.2.1) := fun j hj => by
        show g.1 (ad 20062) (0 + j) = _
        rw [Nat.zero_add]
        exact hw j hj
      rw [wbit_congr this (by omega)]
    have hst := hX.2 t (by omega)
    have hv0 : eq8 (seg (g.1 (ad 20065)) 0) v := fun j hj => by
      show g.1 (ad 20065) (0 + j) = _
      rw [Nat.zero_add]
      exact hv j hj
    have hneg : nI t + (-1 : Int32) = nI t - 1 := (Int32.sub_eq_add_neg _ _).symm
    have hrun : n_X12_isWayRight_193 N S (n + 1) g (ad 20000) (nI s) (ad 20014) (nI p) (nI (t + 1) - 1) = b_X12_isWayRight_193 N S (n_X12_isWayRight_193 N S n) g (ad 20000) (nI s) (ad 20014) (nI p) (nI (t + 1) - 1) := rfl
    have hplace : (8 : Int32) * ((256 : Int32) * nI s + nI t) = nI (8 * (256 * s + t)) := by
      rw [lit, lit, pk_mul, nI_add, pk_mul]
    unfold LEAD
    rw [hrun]
    unfold b_X12_isWayRight_193
    rw [nI_pred, if_neg (nI_pos (by omega)), nm_D, hplace, p61, nn_S, show (0 : Int32) = nI 0 from rfl, hone, c2_S]
    have hb01 : wbit (WAY X.1.2.2.2.2.1) t = 0 ∨ wbit (WAY X.1.2.2.2.2.1) t = 1 := by have := wbit_lt (WAY X.1.2.2.2.2.1) t; omega
    have hTg : TgOk S (ad 20044) (ad 20045) (ad 20065) 0 := ⟨hI.ne (by decide), hI.ne (by decide), by rw [l64]; decide, by rw [l64]; decide⟩
    rcases hb01 with hz | hz
    · obtain ⟨g1, a1, a2, a3⟩ := m_join (N := N) (row := ad 20065) (at_ := 0) (a := ad 20065) (p := 0) (b := ad 20013) (q_ := 8 * (256 * s + t)) (x2 := nI 0) (x4 := nI (8 * (256 * s + t))) (x6 := nI 0) (by omega) (hR.mm hI) hTg (hI.ne (by decide)) (hI.ne (by decide)) (by rw [l64]; decide) (by rw [l64]; decide) (by rw [l12]; omega) (by rw [l12]; decide) rfl rfl rfl
      have f1 : Fr ad (fun r => r = 20044 ∨ r = 20045 ∨ r = 20065) g g1 := Fr.ch3 hI a2
      obtain ⟨g2, b1, b2⟩ := ih n g1 (JOIN v (X.2.2.2 t)) (by omega) (by omega) (hR.fr f1.1) (hX.fr f1 (by decide) (by decide)) (hH.fr f1 (by decide)) (by rw [f1.I (by decide)]; exact hw) (by
        rw [a3]
        intro j hj
        rw [← JOIN_congr hv0 hst j hj]
        unfold putA
        rw [if_pos (by omega), Nat.sub_zero])
      refine ⟨g2, ?_, f1.tr b2⟩
      rw [hz, if_pos (rfl : nI 0 = nI 0), if_pos rfl, p64, nn_S, p12, nn_S, nn_S, a1, c2_S, nm_D, hneg]
      exact b1
    · obtain ⟨g1, a1, a2, a3⟩ := m_join (N := N) (row := ad 20065) (at_ := 0) (a := ad 20013) (p := 8 * (256 * s + t)) (b := ad 20065) (q_ := 0) (x2 := nI (8 * (256 * s + t))) (x4 := nI 0) (x6 := nI 0) (by omega) (hR.mm hI) hTg (hI.ne (by decide)) (hI.ne (by decide)) (by rw [l12]; omega) (by rw [l12]; decide) (by rw [l64]; decide) (by rw [l64]; decide) rfl rfl rfl
      have f1 : Fr ad (fun r => r = 20044 ∨ r = 20045 ∨ r = 20065) g g1 := Fr.ch3 hI a2
      obtain ⟨g2, b1, b2⟩ := ih n g1 (JOIN (X.2.2.2 t) v) (by omega) (by omega) (hR.fr f1.1) (hX.fr f1 (by decide) (by decide)) (hH.fr f1 (by decide)) (by rw [f1.I (by decide)]; exact hw) (by
        rw [a3]
        intro j hj
        rw [← JOIN_congr hst hv0 j hj]
        unfold putA
        rw [if_pos (by omega), Nat.sub_zero])
      refine ⟨g2, ?_, f1.tr b2⟩
      rw [hz, if_neg (show ¬ nI 1 = nI 0 by decide), if_neg (show ¬ 1 = 0 by decide), p12, nn_S, p64, nn_S, nn_S, a1, c2_S, nm_D, hneg]
      exact b1
theorem m_isWay163 {N : Nat} (hN : 40000 ≤ N) {S : Hs} {g : Hg} {ad : Nat → Nat} (hI : Inj ad) {s p : Nat} {X : ASl} {H : AHd} {v : Nat → Int32} (hs : s < 16) (hs2 : X.2.2.1 ≤ 256) (hp : p + 28 ≤ 336) (hR : RfP S g ad) (hX : RSt g ad 0 s X) (hH : RHd g ad 20014 p H) (hv : eq8 (g.1 (ad 20065)) v) :
    ∃ g1, b_X12_isWayRight_163 N S g (ad 20000) (nI s) (ad 20014) (nI p) X.1.2.2.2.2.1 = some (bI (sameB (LEAD X.2.2.2 (WAY X.1.2.2.2.2.1) X.2.2.1 v) H.2.2.2.1), g1) ∧ FM ad RS g g1 := by
  obtain ⟨g1, a1, a2, a3⟩ := m_wayOf (N := N) (by omega) (hR.mm hI) X.1.2.2.2.2.1
  have f1 : Fr ad (fun r => r = 20044 ∨ r = 20045) g g1 := Fr.ch a2 (fun r h => h.imp (hI _ _) (hI _ _))
  have hR1 := hR.fr f1.1
  have l61 : hpL _ (ad 20062) = 8 := hR1.l 61 (by decide) rfl
  have p61 : rdR _ (ad 20000) 61 = some (ad 20062) := hR1.p 61 (by decide)
  have hto := m_toRow (N := N) (S := S) (g := g1) (m := ad 20000) (A := ad 20045) (row := ad 20062) (at_ := 0) (x2 := nI 0) (by omega) (hR1.l 44 (by decide) rfl) (hR1.p 44 (by decide)) (hI.ne (by decide)) (by rw [l61]; decide) (by rw [l61]; decide) rfl
  let g2 : Hg := rowI g1 (ad 20062) (putA (g1.1 (ad 20062)) 0 (g1.1 (ad 20045)))
  have f2 : Fr ad (fun r => r = 20044 ∨ r = 20045 ∨ r = 20062) g g2 := (f1.mono (fun r h => by omega)).tr (Fr.row hI (by omega))
  have hw2 : eq8 (g2.1 (ad 20062)) (WAY X.1.2.2.2.2.1) := by
    intro j hj
    show (rowI g1 _ _).1 _ j = _
    rw [rowI_same]
    unfold putA
    rw [if_pos (by omega), Nat.sub_zero]
    exact a3 j hj
  have hR2 := hR.fr f2.1
  have hX2 := hX.fr f2 (by decide) (by decide)
  obtain ⟨g3, b1, b2⟩ := m_isWay193 hN hI hs hs2 hp X.2.2.1 N g2 v (Nat.le_refl _) (by omega) hR2 hX2 (hH.fr f2 (by decide)) hw2 (by rw [f2.I (by decide)]; exact hv)
  refine ⟨g3, ?_, (FM.fr (f2.mono (fun r h => by unfold RS; omega)) (by unfold RS; omega)).tr (FM.fr (b2.mono (fun r h => by unfold RS; omega)) (by unfold RS; omega))⟩
  have p9 : rdR _ (ad 20000) 9 = some (ad 20010) := hR2.p 9 (by decide)
  have l9 : hpL _ (ad 20010) = 128 := hR2.l 9 (by decide) rfl
  have v1 : g2.1 (ad 20010) (8 * s + 1) = nI X.2.2.1 := hX2.1
  unfold b_X12_isWayRight_163
  rw [a1, c2_S, p61, nn_S, show (0 : Int32) = nI 0 from rfl, hto, c2_S, show rowI g1 (ad 20062) (putA (g1.1 (ad 20062)) 0 (g1.1 (ad 20045))) = g2 from rfl]
  simp (disch := (first | assumption | omega | (apply Inj.ne <;> first | assumption | omega) | fail)) only [nn_S, nm_D, ck_T, c2_S, on_N, on_S, lit, mNEG, nI_add, pk_mul, inb_nI, nI_clamp, wrI_row, wrL_row, rdR_rowI, rdR_rowL, rdI_def, rdL_def, rowI_same, rowI_ne, rowI_rowI, rowL_same, rowL_ne, rowL_1, rowI_21, upd_same, upd_ne, nI_le_T, nI_le_F, nI_lt_T, nI_lt_F, nI_eq_F, nI_NEG, NEG_lt0, nI_p, eq_self, if_true, if_false, p9, l9, v1]
  exact b1
theorem m_isWayH {N : Nat} (hN : 40000 ≤ N) {S : Hs} {g : Hg} {ad : Nat → Nat} (hI : Inj ad) {s p : Nat} {X : ASl} {H : AHd} (hk : X.1.1 = nI 3) (hlat : X.1.2.2.2.2.2.1 ≠ NEG) (hs : s < 16) (hs2 : X.2.2.1 ≤ 256) (hp : p + 28 ≤ 336) (hR : RfP S g ad) (hX : RSl g ad 0 s X) (hH : RHd g ad 20014 p H) :
    ∃ g1, f_X12_isWayRight N S g (ad 20000) (nI s) (ad 20014) (nI p) = some (bI (LEADB X X.1.2.2.2.2.1 H), g1) ∧ FM ad RS g g1 := by
  have p9 : rdR _ (ad 20000) 9 = some (ad 20010) := hR.p 9 (by decide)
  have l9 : hpL _ (ad 20010) = 128 := hR.l 9 (by decide) rfl
  have p10 : rdR _ (ad 20000) 10 = some (ad 20011) := hR.p 10 (by decide)
  have l10 : hpL _ (ad 20011) = 640 := hR.l 10 (by decide) rfl
  have v0 : g.1 (ad 20010) (8 * s) = nI 3 := hX.2.1.1.trans hk
  have v5 : g.1 (ad 20010) (8 * s + 5) = X.1.2.2.2.2.2.1 := hX.2.1.2.2.2.2.1
  have vk : g.1 (ad 20011) (40 * s) = X.1.2.2.2.2.1 := hX.2.2.2 (Or.inl hk)
  obtain ⟨g1, a1, a2, a3⟩ := m_leaf (N := N) (by omega) (hR.mm hI) X.1.2.2.2.2.1 X.1.2.2.2.2.2.1
  have f1 : Fr ad (fun r => r = 20044 ∨ r = 20045) g g1 := Fr.ch a2 (fun r h => h.imp (hI _ _) (hI _ _))
  have hR1 := hR.fr f1.1
  have l64 : hpL _ (ad 20065) = 8 := hR1.l 64 (by decide) rfl
  have p64 : rdR _ (ad 20000) 64 = some (ad 20065) := hR1.p 64 (by decide)
  have hto := m_toRow (N := N) (S := S) (g := g1) (m := ad 20000) (A := ad 20045) (row := ad 20065) (at_ := 0) (x2 := nI 0) (by omega) (hR1.l 44 (by decide) rfl) (hR1.p 44 (by decide)) (hI.ne (by decide)) (by rw [l64]; decide) (by rw [l64]; decide) rfl
  let g2 : Hg := rowI g1 (ad 20065) (putA (g1.1 (ad 20065)) 0 (g1.1 (ad 20045)))
  have f2 : Fr ad (fun r => r = 20044 ∨ r = 20045 ∨ r = 20065) g g2 := (f1.mono (fun r h => by omega)).tr (Fr.row hI (by omega))
  have hv2 : eq8 (g2.1 (ad 20065)) (LEAF X.1.2.2.2.2.1 X.1.2.2.2.2.2.1) := by
    intro j hj
    show (rowI g1 _ _).1 _ j = _
    rw [rowI_same]
    unfold putA
    rw [if_pos (by omega), Nat.sub_zero]
    exact a3 j hj
  obtain ⟨g3, b1, b2⟩ := m_isWay163 hN hI hs hs2 hp (hR.fr f2.1) (hX.1.fr f2 (by decide) (by decide)) (hH.fr f2 (by decide)) hv2
  refine ⟨g3, ?_, (FM.fr (f2.mono (fun r h => by unfold RS; omega)) (by unfold RS; omega)).tr b2⟩
  unfold LEADB
  rw [if_neg hlat]
  show b_X12_isWayRight_0 N S g _ _ _ _ = _
  unfold b_X12_isWayRight_0 b_X12_isWayRight_18
  simp (disch := (first | assumption | omega | (apply Inj.ne <;> first | assumption | omega) | fail)) only [nn_S, nm_D, ck_T, c2_S, on_N, on_S, lit, mNEG, nI_add, pk_mul, inb_nI, nI_clamp, wrI_row, wrL_row, rdR_rowI, rdR_rowL, rdI_def, rdL_def, rowI_same, rowI_ne, rowI_rowI, rowL_same, rowL_ne, rowL_1, rowI_21, upd_same, upd_ne, nI_le_T, nI_le_F, nI_lt_T, nI_lt_F, nI_eq_F, nI_NEG, NEG_lt0, nI_p, eq_self, if_true, if_false, p9, l9, v0, p10, l10, vk, v5, a1, p64, hto]
  exact b1
theorem m_isWay142 (N : Nat) (S : Hs) {ad : Nat → Nat} (hI : Inj ad) (s p : Nat) (key : Int32) : ∀ (i n : Nat) (g : Hg), i ≤ 8 → i < n → RfP S g ad → (∀ j, j < 8 - i → g.1 (ad 20065) j = 0) →
    ∃ r, n_X12_isWayRight_142 N S n g (ad 20000) (nI s) (ad 20014) (nI p) key (nI (8 - i)) = b_X12_isWayRight_163 N S (rowI g (ad 20065) r) (ad 20000) (nI s) (ad 20014) (nI p) key ∧ eq8 r NOUGHT := by
  intro i
  induction i with
  | zero =>
    intro n g h1 h2 hR hz
    obtain ⟨n, rfl⟩ : ∃ z, n = z + 1 := ⟨n - 1, by omega⟩
    refine ⟨g.1 (ad 20065), ?_, fun j hj => hz j hj⟩
    rw [rowI_self]
    show b_X12_isWayRight_142 N S (n_X12_isWayRight_142 N S n) g _ _ _ _ _ _ = _
    unfold b_X12_isWayRight_142
    simp (disch := (first | assumption | omega | (apply Inj.ne <;> first | assumption | omega) | fail)) only [nn_S, nm_D, ck_T, c2_S, on_N, on_S, lit, mNEG, nI_add, pk_mul, inb_nI, nI_clamp, wrI_row, wrL_row, rdR_rowI, rdR_rowL, rdI_def, rdL_def, rowI_same, rowI_ne, rowI_rowI, rowL_same, rowL_ne, rowL_1, rowI_21, upd_same, upd_ne, nI_le_T, nI_le_F, nI_lt_T, nI_lt_F, nI_eq_F, nI_NEG, NEG_lt0, nI_p, eq_self, if_true, if_false]
  | succ i ih =>
    intro n g h1 h2 hR hz
    obtain ⟨n, rfl⟩ : ∃ z, n = z + 1 := ⟨n - 1, by omega⟩
    have l64 : hpL _ (ad 20065) = 8 := hR.l 64 (by decide) rfl
    have p64 : rdR _ (ad 20000) 64 = some (ad 20065) := hR.p 64 (by decide)
    have e : 8 - (i + 1) + 1 = 8 - i := by omega
    obtain ⟨r, r1, r2⟩ := ih n (rowI g (ad 20065) (upd (g.1 (ad 20065)) (8 - (i + 1)) (nI 0))) (by omega) (by omega) (hR.fr rfl) (fun j hj => by
      rw [rowI_same]
      by_cases c : j = 8 - (i + 1)
      · rw [c, upd_same]; rfl
      · rw [upd_ne _ _ c]; exact hz j (by omega))
    rw [rowI_rowI] at r1
    refine ⟨r, ?_, r2⟩
    show b_X12_isWayRight_142 N S (n_X12_isWayRight_142 N S n) g _ _ _ _ _ _ = _
    unfold b_X12_isWayRight_142
    simp (disch := (first | assumption | omega | (apply Inj.ne <;> first | assumption | omega) | fail)) only [nn_S, nm_D, ck_T, c2_S, on_N, on_S, lit, mNEG, nI_add, pk_mul, inb_nI, nI_clamp, wrI_row, wrL_row, rdR_rowI, rdR_rowL, rdI_def, rdL_def, rowI_same, rowI_ne, rowI_rowI, rowL_same, rowL_ne, rowL_1, rowI_21, upd_same, upd_ne, nI_le_T, nI_le_F, nI_lt_T, nI_lt_F, nI_eq_F, nI_NEG, NEG_lt0, nI_p, eq_self, if_true, if_false, p64, l64, e]
    exact r1
theorem m_isWayA {N : Nat} (hN : 40000 ≤ N) {S : Hs} {g : Hg} {ad : Nat → Nat} (hI : Inj ad) {s p : Nat} {X : ASl} {H : AHd} (hk : X.1.1 = nI 4) (hs : s < 16) (hs2 : X.2.2.1 ≤ 256) (hp : p + 28 ≤ 336) (hR : RfP S g ad) (hX : RSl g ad 0 s X) (hH : RHd g ad 20014 p H) :
    ∃ g1, f_X12_isWayRight N S g (ad 20000) (nI s) (ad 20014) (nI p) = some (bI (!(decide (X.1.2.2.2.2.2.1 ≠ NEG) && decide (X.1.2.2.2.2.2.2 = X.1.2.2.2.2.1)) && LEADB X X.1.2.2.2.2.2.2 H), g1) ∧ FM ad RS g g1 := by
  have p9 : rdR _ (ad 20000) 9 = some (ad 20010) := hR.p 9 (by decide)
  have l9 : hpL _ (ad 20010) = 128 := hR.l 9 (by decide) rfl
  have p10 : rdR _ (ad 20000) 10 = some (ad 20011) := hR.p 10 (by decide)
  have l10 : hpL _ (ad 20011) = 640 := hR.l 10 (by decide) rfl
  have v0 : g.1 (ad 20010) (8 * s) = nI 4 := hX.2.1.1.trans hk
  have v5 : g.1 (ad 20010) (8 * s + 5) = X.1.2.2.2.2.2.1 := hX.2.1.2.2.2.2.1
  have v6 : g.1 (ad 20010) (8 * s + 6) = X.1.2.2.2.2.2.2 := hX.2.1.2.2.2.2.2.1
  have v7 : g.1 (ad 20010) (8 * s + 7) = bI (decide (X.1.2.2.2.2.2.1 ≠ NEG)) := hX.2.1.2.2.2.2.2.2 hk
  have vk : g.1 (ad 20011) (40 * s) = X.1.2.2.2.2.1 := hX.2.2.2 (Or.inr hk)
  by_cases c : X.1.2.2.2.2.2.1 = NEG
  · have v7 : g.1 (ad 20010) (8 * s + 7) = nI 0 := by rw [v7]; simp [c]; rfl
    obtain ⟨r, r1, r2⟩ := m_isWay142 N S hI s p X.1.2.2.2.2.1 8 N g (Nat.le_refl _) (by omega) hR (fun j hj => absurd hj (by omega))
    have f1 : Fr ad (fun r => r = 20065) g (rowI g (ad 20065) r) := Fr.row hI rfl
    obtain ⟨g3, b1, b2⟩ := m_isWay163 hN hI hs hs2 hp (hR.fr f1.1) (hX.1.fr f1 (by decide) (by decide)) (hH.fr f1 (by decide)) (v := NOUGHT) (by rw [rowI_same]; exact r2)
    refine ⟨g3, ?_, (FM.fr (f1.mono (fun r h => by unfold RS; omega)) (by unfold RS; omega)).tr b2⟩
    unfold LEADB
    rw [if_pos c]
    have ed : (!(decide (X.1.2.2.2.2.2.1 ≠ NEG) && decide (X.1.2.2.2.2.2.2 = X.1.2.2.2.2.1))) = true := by simp [c]
    rw [ed, Bool.true_and, ← b1, ← r1]
    show b_X12_isWayRight_0 N S g _ _ _ _ = _
    unfold b_X12_isWayRight_0 b_X12_isWayRight_18
    simp (disch := (first | assumption | omega | (apply Inj.ne <;> first | assumption | omega) | fail)) only [nn_S, nm_D, ck_T, c2_S, on_N, on_S, lit, mNEG, nI_add, pk_mul, inb_nI, nI_clamp, wrI_row, wrL_row, rdR_rowI, rdR_rowL, rdI_def, rdL_def, rowI_same, rowI_ne, rowI_rowI, rowL_same, rowL_ne, rowL_1, rowI_21, upd_same, upd_ne, nI_le_T, nI_le_F, nI_lt_T, nI_lt_F, nI_eq_F, nI_NEG, NEG_lt0, nI_p, eq_self, if_true, if_false, p9, l9, v0, p10, l10, vk, v7]
  · have v7 : g.1 (ad 20010) (8 * s + 7) = nI 1 := by rw [v7]; simp [c]; rfl
    by_cases c2' : X.1.2.2.2.2.2.2 = X.1.2.2.2.2.1
    · refine ⟨g, ?_, FM.rf⟩
      have ed : (!(decide (X.1.2.2.2.2.2.1 ≠ NEG) && decide (X.1.2.2.2.2.2.2 = X.1.2.2.2.2.1))) = false := by simp [c, c2']
      rw [ed, Bool.false_and]
      show b_X12_isWayRight_0 N S g _ _ _ _ = _
      unfold b_X12_isWayRight_0 b_X12_isWayRight_18
      simp (disch := (first | assumption | omega | (apply Inj.ne <;> first | assumption | omega) | fail)) only [nn_S, nm_D, ck_T, c2_S, on_N, on_S, lit, mNEG, nI_add, pk_mul, inb_nI, nI_clamp, wrI_row, wrL_row, rdR_rowI, rdR_rowL, rdI_def, rdL_def, rowI_same, rowI_ne, rowI_rowI, rowL_same, rowL_ne, rowL_1, rowI_21, upd_same, upd_ne, nI_le_T, nI_le_F, nI_lt_T, nI_lt_F, nI_eq_F, nI_NEG, NEG_lt0, nI_p, eq_self, if_true, if_false, p9, l9, v0, p10, l10, vk, v7, v6, c2']
      rfl
    · obtain ⟨g1, a1, a2, a3⟩ := m_leaf (N := N) (by omega) (hR.mm hI) X.1.2.2.2.2.2.2 X.1.2.2.2.2.2.1
      have f1 : Fr ad (fun r => r = 20044 ∨ r = 20045) g g1 := Fr.ch a2 (fun r h => h.imp (hI _ _) (hI _ _))
      have hR1 := hR.fr f1.1
      have l64 : hpL _ (ad 20065) = 8 := hR1.l 64 (by decide) rfl
      have p64 : rdR _ (ad 20000) 64 = some (ad 20065) := hR1.p 64 (by decide)
      have hto := m_toRow (N := N) (S := S) (g := g1) (m := ad 20000) (A := ad 20045) (row := ad 20065) (at_ := 0) (x2 := nI 0) (by omega) (hR1.l 44 (by decide) rfl) (hR1.p 44 (by decide)) (hI.ne (by decide)) (by rw [l64]; decide) (by rw [l64]; decide) rfl
      let g2 : Hg := rowI g1 (ad 20065) (putA (g1.1 (ad 20065)) 0 (g1.1 (ad 20045)))
      have f2 : Fr ad (fun r => r = 20044 ∨ r = 20045 ∨ r = 20065) g g2 := (f1.mono (fun r h => by omega)).tr (Fr.row hI (by omega))
      have hv2 : eq8 (g2.1 (ad 20065)) (LEAF X.1.2.2.2.2.2.2 X.1.2.2.2.2.2.1) := by
        intro j hj
        show (rowI g1 _ _).1 _ j = _
        rw [rowI_same]
        unfold putA
        rw [if_pos (by omega), Nat.sub_zero]
        exact a3 j hj
      obtain ⟨g3, b1, b2⟩ := m_isWay163 hN hI hs hs2 hp (hR.fr f2.1) (hX.1.fr f2 (by decide) (by decide)) (hH.fr f2 (by decide)) hv2
      refine ⟨g3, ?_, (FM.fr (f2.mono (fun r h => by unfold RS; omega)) (by unfold RS; omega)).tr b2⟩
      unfold LEADB
      rw [if_neg c]
      have ed : (!(decide (X.1.2.2.2.2.2.1 ≠ NEG) && decide (X.1.2.2.2.2.2.2 = X.1.2.2.2.2.1))) = true := by simp [c2']
      rw [ed, Bool.true_and]
      show b_X12_isWayRight_0 N S g _ _ _ _ = _
      unfold b_X12_isWayRight_0 b_X12_isWayRight_18
      simp (disch := (first | assumption | omega | (apply Inj.ne <;> first | assumption | omega) | fail)) only [nn_S, nm_D, ck_T, c2_S, on_N, on_S, lit, mNEG, nI_add, pk_mul, inb_nI, nI_clamp, wrI_row, wrL_row, rdR_rowI, rdR_rowL, rdI_def, rdL_def, rowI_same, rowI_ne, rowI_rowI, rowL_same, rowL_ne, rowL_1, rowI_21, upd_same, upd_ne, nI_le_T, nI_le_F, nI_lt_T, nI_lt_F, nI_eq_F, nI_NEG, NEG_lt0, nI_p, eq_self, if_true, if_false, p9, l9, v0, p10, l10, vk, v7, v6]
      rw [if_neg c2']
      simp (disch := (first | assumption | omega | (apply Inj.ne <;> first | assumption | omega) | fail)) only [nn_S, nm_D, ck_T, c2_S, on_N, on_S, lit, mNEG, nI_add, pk_mul, inb_nI, nI_clamp, wrI_row, wrL_row, rdR_rowI, rdR_rowL, rdI_def, rdL_def, rowI_same, rowI_ne, rowI_rowI, rowL_same, rowL_ne, rowL_1, rowI_21, upd_same, upd_ne, nI_le_T, nI_le_F, nI_lt_T, nI_lt_F, nI_eq_F, nI_NEG, NEG_lt0, nI_p, eq_self, if_true, if_false, v5, a1, p64, hto]
      exact b1
