/-! held, absent -/
theorem c_lat {N : Nat} (hN : 40000 ≤ N) {S : Hs} {g : Hg} {ad : Nat → Nat} {b n m : Nat} {ins : Nat → Nat} {A : ALog} (key : Int32) (hn : n ≤ lsz A) (hS : ScP S g ad) (hA : CLO S g ad b A) (hM : MapR g ad A n m ins) : ∃ x, f_X2_find N S g (ad (b + 1)) key = some (x, g) ∧ f_X4_latestOf N S g (ad 4) x = some (LAT A n key, g) := by
  have hKy := hA.2.1.2.2.2.2.2.1
  have hks : lks A ≤ 400 := hA.2.2.2.2.2.2.1.1.1
  rcases c_find (N := N) hN key hA.1 hKy.1 hKy.2.1 hks with ⟨z, q1, q2, q3⟩ | ⟨q1, q3⟩
  · refine ⟨_, q3, ?_⟩
    rw [c_latestOf rfl (by omega) hS, hM.1 z q1, q2]
  · refine ⟨_, q3, ?_⟩
    rw [c_latestOfN, LAT_none hA.2.2 hn q1]
/-- what a SLOT of kind HELD or ABSENT tells ahead of its STEPS -/
def wayE (kd n key lat oth : Int32) : ASl := ((kd, n, 0, 0, key, lat, oth), (0, fun _ => 0, fun _ => 0), (0, fun _ _ => 0))
def FST (A : ALog) (n : Nat) (key : Int32) : List (Nat → Int32) := FOLS (LAT A n) (WAY key) 256 (KL A n)
def wayX (kd : Int32) (A : ALog) (n : Nat) (key lat oth : Int32) : ASl := stepsX (wayE kd (nI n) key lat oth) (FST A n key)
theorem wayX_sc (kd : Int32) (A : ALog) (n : Nat) (key lat oth : Int32) : (wayX kd A n key lat oth).2.2.1 = (FST A n key).length ∧ (wayX kd A n key lat oth).1 = (kd, nI n, 0, 0, key, lat, oth) ∧ (wayX kd A n key lat oth).2.1 = (0, fun _ => 0, fun _ => 0) := by
  obtain ⟨a, b, c⟩ := stepsX_sc (FST A n key) (wayE kd (nI n) key lat oth)
  refine ⟨?_, b, c⟩
  show (stepsX _ _).2.2.1 = _
  rw [a]
  show 0 + _ = _
  omega
theorem stepsX_22 : ∀ (l : List (Nat → Int32)) (X Y : ASl), X.2.2 = Y.2.2 → (stepsX X l).2.2 = (stepsX Y l).2.2
  | [], _, _, h => h
  | v :: l, X, Y, h => stepsX_22 l (stepX X v) (stepX Y v) (by show (X.2.2.1 + 1, va_up X.2.2.2 X.2.2.1 v) = (Y.2.2.1 + 1, va_up Y.2.2.2 Y.2.2.1 v); rw [h])
theorem wayX_22 (kd kd1 : Int32) (A : ALog) (n : Nat) (key lat oth lat1 oth1 : Int32) : (wayX kd A n key lat oth).2.2 = (wayX kd1 A n key lat1 oth1).2.2 := stepsX_22 _ _ _ rfl
theorem RSt.cg {g : Hg} {ad : Nat → Nat} {s : Nat} {X Y : ASl} (h : RSt g ad 0 s X) (e : Y.2.2 = X.2.2) : RSt g ad 0 s Y := by
  unfold RSt
  rw [e]
  exact h
theorem OdM.fr {R : Nat → Prop} {g g1 : Hg} {ad : Nat → Nat} {m : Nat} {od : Nat → Nat} (h : OdM g ad m od) (hf : Fr ad R g g1) (n : ¬ R 20056) : OdM g1 ad m od := fun k hk => by rw [hf.I n]; exact h k hk
theorem m_heldF {N : Nat} (hN : 40000 ≤ N) {S : Hs} {g : Hg} {ad : Nat → Nat} (hI : Inj ad) {nl l n s : Nat} {A : ALog} (key : Int32) (hs : s < 16) (h1 : g.1 (ad 20000) 1 = nI nl) (h6 : nl ≤ 6) (hl : l < nl) (hW : LogWf A) (hn : n ≤ lsz A) (hR : RfP S g ad) (hL : RLog g ad 0 l A) (hv : LAT A n key = NEG) : ∃ g1, f_X12_held N S g (ad 20000) (nI s) (nI l) (nI n) key = some (NEG, g1) ∧ FM ad (fun r => 20044 ≤ r) g g1 := by
  obtain ⟨g1, M, K, b1, b2, b3, b4, b5, b6⟩ := m_map hN hI (show l < 6 by omega) hW hn hR hL
  have hM : M ≤ 400 := by have := b6.1; have := hW.1; omega
  refine ⟨g1, ?_, b2.mono (fun r hr => by omega)⟩
  show b_X12_held_0 N S g _ _ _ _ _ = _
  unfold b_X12_held_0
  rw [m_isSlotT hs, c2_S, if_neg z10, m_isCountT h1 h6 hl hW.1 hn hR hL, c2_S, if_neg z10, b1, c2_S]
  rcases m_find (N := N) hN key hM (hR.fr b2.1.1) b4.1 b4.2.1 with ⟨z, q1, q2, q3⟩ | ⟨q1, q3⟩
  · exact absurd hv (q2 ▸ b6.2.2.1 z q1)
  · rw [q3, c2_S, if_pos (show NEG = (-1 : Int32) from rfl)]; rfl
theorem m_absentF {N : Nat} (hN : 40000 ≤ N) {S : Hs} {g : Hg} {ad : Nat → Nat} (hI : Inj ad) {nl l n s : Nat} {A : ALog} (key : Int32) (hs : s < 16) (h1 : g.1 (ad 20000) 1 = nI nl) (h6 : nl ≤ 6) (hl : l < nl) (hW : LogWf A) (hn : n ≤ lsz A) (hR : RfP S g ad) (hL : RLog g ad 0 l A) (hv : LAT A n key ≠ NEG) : ∃ g1, f_X12_absent N S g (ad 20000) (nI s) (nI l) (nI n) key = some (NEG, g1) ∧ FM ad (fun r => 20044 ≤ r) g g1 := by
  obtain ⟨g1, M, K, b1, b2, b3, b4, b5, b6⟩ := m_map hN hI (show l < 6 by omega) hW hn hR hL
  have hM : M ≤ 400 := by have := b6.1; have := hW.1; omega
  refine ⟨g1, ?_, b2.mono (fun r hr => by omega)⟩
  show b_X12_absent_0 N S g _ _ _ _ _ = _
  unfold b_X12_absent_0
  rw [m_isSlotT hs, c2_S, if_neg z10, m_isCountT h1 h6 hl hW.1 hn hR hL, c2_S, if_neg z10, b1, c2_S]
  rcases m_find (N := N) hN key hM (hR.fr b2.1.1) b4.1 b4.2.1 with ⟨z, q1, q2, q3⟩ | ⟨q1, q3⟩
  · rw [q3, c2_S, if_neg (show ¬ nI z = (-1 : Int32) from fun e => absurd (show nI z = NEG from e) (by rw [nI_NEG (by omega)]; exact id))]; rfl
  · obtain ⟨k, k1, k2⟩ := b6.2.2.2 key hv
    exact absurd k2 (q1 k k1)
theorem m_heldT {N : Nat} (hN : 40000 ≤ N) {S : Hs} {g : Hg} {ad : Nat → Nat} (hI : Inj ad) {nl l n s : Nat} {A : ALog} (key : Int32) (hs : s < 16) (h1 : g.1 (ad 20000) 1 = nI nl) (h6 : nl ≤ 6) (hl : l < nl) (hW : LogWf A) (hn : n ≤ lsz A) (hR : RfP S g ad) (hL : RLog g ad 0 l A) (hv : LAT A n key ≠ NEG) : ∃ g1, f_X12_held N S g (ad 20000) (nI s) (nI l) (nI n) key = some (nI (FST A n key).length, g1) ∧ FM ad (fun r => 20010 ≤ r ∧ r ≤ 20013 ∨ 20044 ≤ r) g g1 ∧ RSl g1 ad 0 s (wayX 3 A n key (LAT A n key) 0) ∧ SlG ad s g g1 := by
  obtain ⟨g1, M, K, b1, b2, b3, b4, b5, b6⟩ := m_map hN hI (show l < 6 by omega) hW hn hR hL
  have hM : M ≤ 400 := by have := b6.1; have := hW.1; omega
  have hR1 := hR.fr b2.1.1
  rcases m_find (N := N) hN key hM hR1 b4.1 b4.2.1 with ⟨z, q1, q2, q3⟩ | ⟨q1, q3⟩
  rotate_left
  · obtain ⟨k, k1, k2⟩ := b6.2.2.2 key hv
    exact absurd k2 (q1 k k1)
  obtain ⟨r, c1, c2', ⟨c3, c4, c5', c6⟩, c7⟩ := m_begin (N := N) hN hI hs (3 : Int32) (nI n) (0 : Int32) (0 : Int32) hR1
  let g2 : Hg := rowI g1 (ad 20010) r
  let g3 : Hg := rowI g2 (ad 20011) (upd (g1.1 (ad 20011)) (40 * s) key)
  let g4 : Hg := rowI g3 (ad 20010) (upd r (8 * s + 5) (LAT A n key))
  have f2 : Fr ad (fun r => r = 20010) g1 g2 := Fr.row hI rfl
  have f3 : Fr ad (fun r => r = 20011) g2 g3 := Fr.row hI rfl
  have f4 : Fr ad (fun r => r = 20010) g3 g4 := Fr.row hI rfl
  have f14 : Fr ad (fun r => r = 20010 ∨ r = 20011) g1 g4 := (f2.mono (fun r hr => by omega)).tr ((f3.mono (fun r hr => by omega)).tr (f4.mono (fun r hr => by omega)))
  have e2 : g2.1 (ad 20010) = r := rowI_same _ _ _
  have e3 : g3.1 (ad 20010) = r := by rw [f3.I (by omega), e2]
  have e4 : g4.1 (ad 20010) = upd r (8 * s + 5) (LAT A n key) := rowI_same _ _ _
  have e5 : g4.1 (ad 20011) = upd (g1.1 (ad 20011)) (40 * s) key := by rw [f4.I (by omega)]; exact rowI_same _ _ _
  have hMp := b4.fr f14 (by omega) (fun r r1 r2 => by omega)
  have hX0 : RSt g4 ad 0 s (wayE 3 (nI n) key (LAT A n key) 0) := ⟨by
    show g4.1 (ad 20010) (8 * s + 1) = nI 0
    rw [e4, upd_ne _ _ (by omega)]
    exact c7 1 (by omega), fun i hi => absurd hi (by show ¬ i < 0; omega)⟩
  obtain ⟨g5, d1, d2, d3, d4, d5, d6⟩ := m_follow (N := N) hN hI key hW hn hs (hR1.fr f14.1) hMp (b5.fr f14 (by omega)) b6 hX0 rfl
  have hs1 := wayX_sc 3 A n key (LAT A n key) 0
  refine ⟨g5, ?_, (b2.mono (fun r hr => by omega)).tr ((FM.fr (f14.mono (fun r hr => by omega)) (by omega)).tr (d2.mono (fun r hr => by omega))), ?_, ?_⟩
  · have p10 : rdR _ (ad 20000) 10 = some (ad 20011) := hR1.p 10 (by decide)
    have l10 : hpL _ (ad 20011) = 640 := hR1.l 10 (by decide) rfl
    have p9 : rdR _ (ad 20000) 9 = some (ad 20010) := hR1.p 9 (by decide)
    have l9 : hpL _ (ad 20010) = 128 := hR1.l 9 (by decide) rfl
    have p53 : rdR _ (ad 20000) 53 = some (ad 20054) := hR1.p 53 (by decide)
    have l53 : hpL _ (ad 20054) = 400 := hR1.l 53 (by decide) rfl
    have v53 : g1.1 (ad 20054) z = LAT A n key := by rw [b4.2.2.1 z q1, q2]
    have hR5 : RfP S g5 ad := (hR1.fr f14.1).fr d2.1.1
    have p9' : rdR _ (ad 20000) 9 = some (ad 20010) := hR5.p 9 (by decide)
    have v1 : g5.1 (ad 20010) (8 * s + 1) = nI (FST A n key).length := by
      rw [← hs1.1]; exact d4.1
    show b_X12_held_0 N S g _ _ _ _ _ = _
    unfold b_X12_held_0
    rw [m_isSlotT hs, c2_S, if_neg z10, m_isCountT h1 h6 hl hW.1 hn hR hL, c2_S, if_neg z10, b1, c2_S, q3, c2_S, if_neg (show ¬ nI z = (-1 : Int32) from fun e => absurd (show nI z = NEG from e) (by rw [nI_NEG (by omega)]; exact id)), c1, c2_S]
    simp (disch := (first | assumption | omega | (apply Inj.ne <;> first | assumption | omega) | fail)) only [nn_S, nm_D, ck_T, c2_S, on_N, on_S, lit, mNEG, nI_add, pk_mul, inb_nI, nI_clamp, wrI_row, wrL_row, rdR_rowI, rdR_rowL, rdI_def, rdL_def, rowI_same, rowI_ne, rowI_rowI, rowL_same, rowL_ne, rowL_1, rowI_21, upd_same, upd_ne, nI_le_T, nI_le_F, nI_lt_T, nI_lt_F, nI_eq_F, nI_NEG, NEG_lt0, nI_p, eq_self, if_true, if_false, p10, l10, p9, l9, p53, l53, v53]
    rw [show rowI (rowI (rowI g1 (ad 20010) r) (ad 20011) (upd (g1.1 (ad 20011)) (40 * s) key)) (ad 20010) (upd r (8 * s + 5) (LAT A n key)) = g4 from rfl, d1, c2_S]
    simp (disch := (first | assumption | omega | (apply Inj.ne <;> first | assumption | omega) | fail)) only [nn_S, nm_D, ck_T, c2_S, on_N, on_S, lit, mNEG, nI_add, pk_mul, inb_nI, nI_clamp, wrI_row, wrL_row, rdR_rowI, rdR_rowL, rdI_def, rdL_def, rowI_same, rowI_ne, rowI_rowI, rowL_same, rowL_ne, rowL_1, rowI_21, upd_same, upd_ne, nI_le_T, nI_le_F, nI_lt_T, nI_lt_F, nI_eq_F, nI_NEG, NEG_lt0, nI_p, eq_self, if_true, if_false, p9', l9, v1]
  · have h34 : g5.1 (ad 20011) = g4.1 (ad 20011) := d2.I (by omega) (by omega)
    refine ⟨d4, ?_, ?_, ?_⟩
    · rw [hs1.2.1]
      have w : ∀ j, j ≠ 1 → g5.1 (ad 20010) (8 * s + j) = upd r (8 * s + 5) (LAT A n key) (8 * s + j) := fun j hj => by rw [← e4]; exact d5.1 _ (by omega)
      refine ⟨(w 0 (by omega)).trans ?_, (w 2 (by omega)).trans ?_, (w 3 (by omega)).trans ?_, (w 4 (by omega)).trans ?_, (w 5 (by omega)).trans ?_, (w 6 (by omega)).trans ?_, fun hk => absurd (show (3 : Int32) = nI 4 from hk) (by decide)⟩
      · rw [upd_ne _ _ (by omega)]; exact c3
      · rw [upd_ne _ _ (by omega)]; exact c4
      · rw [upd_ne _ _ (by omega)]; exact c5'
      · rw [upd_ne _ _ (by omega)]; exact c6
      · rw [upd_same]
      · rw [upd_ne _ _ (by omega)]; exact c7 6 (by omega)
    · rw [hs1.2.2]
      exact fun k hk => absurd hk (by show ¬ k < 0; omega)
    · intro _
      rw [hs1.2.1]
      show g5.1 (ad 20011) (40 * s) = key
      rw [h34, e5, upd_same]
  · have hb : SlG ad s g g1 := SlG.fm b2 (fun r r1 r2 => by omega)
    refine (hb.tr (g1 := g1) (g2 := g4) ⟨fun j hj => ?_, fun j hj => ?_, fun j hj => by rw [f14.L (by omega)], fun j hj => by rw [f14.I (by omega)]⟩).tr (SlG.sf d5 d2 (by omega))
    · rw [e4, upd_ne _ _ (by omega)]; exact c2' j hj
    · rw [e5, upd_ne _ _ (by omega)]
/-- who is alone at the end of the way, of an absent KEY: its LATEST and itself, or NONE and 0 -/
def ALO (A : ALog) (n : Nat) (key lat oth : Int32) : Prop := (FOLE (WAY key) 256 (KL A n) = [oth] ∧ lat = LAT A n oth ∧ lat ≠ NEG) ∨ (FOLE (WAY key) 256 (KL A n) = [] ∧ lat = NEG ∧ oth = 0)
theorem ALO.uni {A : ALog} {n : Nat} {key lat oth lat1 oth1 : Int32} (h : ALO A n key lat oth) (h1 : ALO A n key lat1 oth1) : lat1 = lat ∧ oth1 = oth := by
  rcases h with ⟨a1, a2, a3⟩ | ⟨a1, a2, a3⟩ <;> rcases h1 with ⟨b1, b2, b3⟩ | ⟨b1, b2, b3⟩
  · have e : oth1 = oth := by
      have := b1.symm.trans a1
      exact (List.cons.inj this).1
    exact ⟨by rw [b2, a2, e], e⟩
  · exact absurd (a1.symm.trans b1) (by simp)
  · exact absurd (b1.symm.trans a1) (by simp)
  · exact ⟨b2.trans a2.symm, b3.trans a3.symm⟩
theorem m_absentT {N : Nat} (hN : 40000 ≤ N) {S : Hs} {g : Hg} {ad : Nat → Nat} (hI : Inj ad) {nl l n s : Nat} {A : ALog} (key : Int32) (hs : s < 16) (h1 : g.1 (ad 20000) 1 = nI nl) (h6 : nl ≤ 6) (hl : l < nl) (hW : LogWf A) (hn : n ≤ lsz A) (hR : RfP S g ad) (hL : RLog g ad 0 l A) (hv : LAT A n key = NEG) : ∃ g1 lat oth, f_X12_absent N S g (ad 20000) (nI s) (nI l) (nI n) key = some (nI (FST A n key).length, g1) ∧ ALO A n key lat oth ∧ FM ad (fun r => 20010 ≤ r ∧ r ≤ 20013 ∨ 20044 ≤ r) g g1 ∧ RSl g1 ad 0 s (wayX 4 A n key lat oth) ∧ SlG ad s g g1 := by
  obtain ⟨g1, M, K, b1, b2, b3, b4, b5, b6⟩ := m_map hN hI (show l < 6 by omega) hW hn hR hL
  have hM : M ≤ 400 := by have := b6.1; have := hW.1; omega
  have hR1 := hR.fr b2.1.1
  rcases m_find (N := N) hN key hM hR1 b4.1 b4.2.1 with ⟨z, q1, q2, q3⟩ | ⟨q1, q3⟩
  · exact absurd hv (q2 ▸ b6.2.2.1 z q1)
  obtain ⟨r, c1, c2', ⟨c3, c4, c5', c6⟩, c7⟩ := m_begin (N := N) hN hI hs (4 : Int32) (nI n) (0 : Int32) (0 : Int32) hR1
  let g2 : Hg := rowI g1 (ad 20010) r
  let g4 : Hg := rowI g2 (ad 20011) (upd (g1.1 (ad 20011)) (40 * s) key)
  have f2 : Fr ad (fun r => r = 20010) g1 g2 := Fr.row hI rfl
  have f3 : Fr ad (fun r => r = 20011) g2 g4 := Fr.row hI rfl
  have f14 : Fr ad (fun r => r = 20010 ∨ r = 20011) g1 g4 := (f2.mono (fun r hr => by omega)).tr (f3.mono (fun r hr => by omega))
  have e2 : g2.1 (ad 20010) = r := rowI_same _ _ _
  have e4 : g4.1 (ad 20010) = r := by rw [f3.I (by omega), e2]
  have e5 : g4.1 (ad 20011) = upd (g1.1 (ad 20011)) (40 * s) key := rowI_same _ _ _
  have hMp := b4.fr f14 (by omega) (fun r r1 r2 => by omega)
  have hX0 : RSt g4 ad 0 s (wayE 4 (nI n) key 0 0) := ⟨by
    show g4.1 (ad 20010) (8 * s + 1) = nI 0
    rw [e4]
    exact c7 1 (by omega), fun i hi => absurd hi (by show ¬ i < 0; omega)⟩
  obtain ⟨g5, d1, d2, d3, d4, d5, d6⟩ := m_follow (N := N) hN hI key hW hn hs (hR1.fr f14.1) hMp (b5.fr f14 (by omega)) b6 hX0 rfl
  have hR5 : RfP S g5 ad := (hR1.fr f14.1).fr d2.1.1
  have p10 : rdR _ (ad 20000) 10 = some (ad 20011) := hR1.p 10 (by decide)
  have l10 : hpL _ (ad 20011) = 640 := hR1.l 10 (by decide) rfl
  have p9 : rdR _ (ad 20000) 9 = some (ad 20010) := hR5.p 9 (by decide)
  have l9 : hpL _ (ad 20010) = 128 := hR1.l 9 (by decide) rfl
  have p52 : rdR _ (ad 20000) 52 = some (ad 20053) := hR5.p 52 (by decide)
  have l52 : hpL _ (ad 20053) = 400 := hR1.l 52 (by decide) rfl
  have p53 : rdR _ (ad 20000) 53 = some (ad 20054) := hR5.p 53 (by decide)
  have l53 : hpL _ (ad 20054) = 400 := hR1.l 53 (by decide) rfl
  have v1 : g5.1 (ad 20010) (8 * s + 1) = nI (FST A n key).length := by
    rw [← (wayX_sc 4 A n key 0 0).1]; exact d4.1
  have main : ∀ lat oth : Int32, ALO A n key lat oth → (f_X12_absent N S g (ad 20000) (nI s) (nI l) (nI n) key = some (nI (FST A n key).length, rowI g5 (ad 20010) (upd (upd (upd (g5.1 (ad 20010)) (8 * s + 5) lat) (8 * s + 6) oth) (8 * s + 7) (bI (decide (lat ≠ NEG)))))) → ∃ g1 lat oth, f_X12_absent N S g (ad 20000) (nI s) (nI l) (nI n) key = some (nI (FST A n key).length, g1) ∧ ALO A n key lat oth ∧ FM ad (fun r => 20010 ≤ r ∧ r ≤ 20013 ∨ 20044 ≤ r) g g1 ∧ RSl g1 ad 0 s (wayX 4 A n key lat oth) ∧ SlG ad s g g1 := fun lat oth ha hf => by
    have hs1 := wayX_sc 4 A n key lat oth
    let g6 : Hg := rowI g5 (ad 20010) (upd (upd (upd (g5.1 (ad 20010)) (8 * s + 5) lat) (8 * s + 6) oth) (8 * s + 7) (bI (decide (lat ≠ NEG))))
    have f6 : Fr ad (fun r => r = 20010) g5 g6 := Fr.row hI rfl
    have e6 : g6.1 (ad 20010) = upd (upd (upd (g5.1 (ad 20010)) (8 * s + 5) lat) (8 * s + 6) oth) (8 * s + 7) (bI (decide (lat ≠ NEG))) := rowI_same _ _ _
    refine ⟨g6, lat, oth, hf, ha, ((b2.mono (fun r hr => by omega)).tr ((FM.fr (f14.mono (fun r hr => by omega)) (by omega)).tr (d2.mono (fun r hr => by omega)))).tr (FM.fr (f6.mono (fun r hr => by omega)) (by omega)), ?_, ?_⟩
    · have d4' : RSt g5 ad 0 s (wayX 4 A n key lat oth) := RSt.cg d4 (stepsX_22 _ _ _ rfl)
      refine ⟨⟨?_, ?_⟩, ?_, ?_, ?_⟩
      · show g6.1 (ad 20010) (8 * s + 1) = _
        rw [e6, upd_ne _ _ (by omega), upd_ne _ _ (by omega), upd_ne _ _ (by omega)]
        exact d4'.1
      · intro i hi
        show eq8 (seg (g6.1 (ad 20013)) _) _
        rw [f6.I (by omega)]
        exact d4'.2 i hi
      · rw [hs1.2.1]
        have w : ∀ j, j ≠ 1 → g5.1 (ad 20010) (8 * s + j) = r (8 * s + j) := fun j hj => by rw [← e4]; exact d5.1 _ (by omega)
        have w6 : ∀ j, j < 5 → g6.1 (ad 20010) (8 * s + j) = g5.1 (ad 20010) (8 * s + j) := fun j hj => by rw [e6, upd_ne _ _ (by omega), upd_ne _ _ (by omega), upd_ne _ _ (by omega)]
        refine ⟨((w6 0 (by omega)).trans (w 0 (by omega))).trans c3, ((w6 2 (by omega)).trans (w 2 (by omega))).trans c4, ((w6 3 (by omega)).trans (w 3 (by omega))).trans c5', ((w6 4 (by omega)).trans (w 4 (by omega))).trans c6, ?_, ?_, fun _ => ?_⟩
        · show g6.1 (ad 20010) (8 * s + 5) = lat
          rw [e6, upd_ne _ _ (by omega), upd_ne _ _ (by omega), upd_same]
        · show g6.1 (ad 20010) (8 * s + 6) = oth
          rw [e6, upd_ne _ _ (by omega), upd_same]
        · show g6.1 (ad 20010) (8 * s + 7) = bI (decide (lat ≠ NEG))
          rw [e6, upd_same]
      · rw [hs1.2.2]
        exact fun k hk => absurd hk (by show ¬ k < 0; omega)
      · intro _
        rw [hs1.2.1]
        show g6.1 (ad 20011) (40 * s) = key
        rw [f6.I (by omega), d2.I (by omega) (by omega), e5, upd_same]
    · have hb : SlG ad s g g1 := SlG.fm b2 (fun r r1 r2 => by omega)
      refine ((hb.tr (g1 := g1) (g2 := g4) ⟨fun j hj => ?_, fun j hj => ?_, fun j hj => by rw [f14.L (by omega)], fun j hj => by rw [f14.I (by omega)]⟩).tr (SlG.sf d5 d2 (by omega))).tr (g2 := g6) ⟨fun j hj => ?_, fun j hj => by rw [f6.I (by omega)], fun j hj => by rw [f6.L (by omega)], fun j hj => by rw [f6.I (by omega)]⟩
      · rw [e4]; exact c2' j hj
      · rw [e5, upd_ne _ _ (by omega)]
      · rw [e6, upd_ne _ _ (by omega), upd_ne _ _ (by omega), upd_ne _ _ (by omega)]
  have start : ∀ k, (nn (rdR g5 (ad 20000) 9) (fun a_18 => if (g5.1 (ad 20000) 62) = NEG then b_X12_absent_95 N S g5 (ad 20000) (nI s) a_18 (nI (8 * s + 5)) NEG else nn (rdR g5 (ad 20000) 53) (fun a_20 => ck (inb (g5.1 (ad 20000) 62) (hpL S a_20)) (b_X12_absent_95 N S g5 (ad 20000) (nI s) a_18 (nI (8 * s + 5)) (g5.1 a_20 (g5.1 (ad 20000) 62).toNatClampNeg))))) = k → f_X12_absent N S g (ad 20000) (nI s) (nI l) (nI n) key = k := fun k hk => by
    show b_X12_absent_0 N S g _ _ _ _ _ = _
    unfold b_X12_absent_0
    rw [m_isSlotT hs, c2_S, if_neg z10, m_isCountT h1 h6 hl hW.1 hn hR hL, c2_S, if_neg z10, b1, c2_S, q3, c2_S, if_pos (show NEG = (-1 : Int32) from rfl), c1, c2_S]
    simp (disch := (first | assumption | omega | (apply Inj.ne <;> first | assumption | omega) | fail)) only [nn_S, nm_D, ck_T, c2_S, on_N, on_S, lit, mNEG, nI_add, pk_mul, inb_nI, nI_clamp, wrI_row, wrL_row, rdR_rowI, rdR_rowL, rdI_def, rdL_def, rowI_same, rowI_ne, rowI_rowI, rowL_same, rowL_ne, rowL_1, rowI_21, upd_same, upd_ne, nI_le_T, nI_le_F, nI_lt_T, nI_lt_F, nI_eq_F, nI_NEG, NEG_lt0, nI_p, eq_self, if_true, if_false, p10, l10]
    rw [show rowI (rowI g1 (ad 20010) r) (ad 20011) (upd (g1.1 (ad 20011)) (40 * s) key) = g4 from rfl, d1, c2_S]
    exact hk
  rcases d6 with ⟨q, u1, u2, u3⟩ | ⟨u2, u3⟩
  · have hlat : LAT A n (K q) ≠ NEG := b6.2.2.1 q u1
    have v53 : g5.1 (ad 20054) q = LAT A n (K q) := by rw [d3.2.2.1 q u1]
    have v52 : g5.1 (ad 20053) q = K q := d3.2.1 q u1
    refine main (LAT A n (K q)) (K q) (Or.inl ⟨u3, rfl, hlat⟩) (start _ ?_)
    rw [show bI (decide (LAT A n (K q) ≠ NEG)) = nI 1 by rw [decide_eq_true hlat]; rfl]
    simp (disch := (first | assumption | omega | (apply Inj.ne <;> first | assumption | omega) | fail)) only [nn_S, nm_D, ck_T, c2_S, on_N, on_S, lit, mNEG, nI_add, pk_mul, inb_nI, nI_clamp, wrI_row, wrL_row, rdR_rowI, rdR_rowL, rdI_def, rdL_def, rowI_same, rowI_ne, rowI_rowI, rowL_same, rowL_ne, rowL_1, rowI_21, upd_same, upd_ne, nI_le_T, nI_le_F, nI_lt_T, nI_lt_F, nI_eq_F, nI_NEG, NEG_lt0, nI_p, eq_self, if_true, if_false, p9, l9, p53, l53, u2, v53]
    unfold b_X12_absent_95
    simp (disch := (first | assumption | omega | (apply Inj.ne <;> first | assumption | omega) | fail)) only [nn_S, nm_D, ck_T, c2_S, on_N, on_S, lit, mNEG, nI_add, pk_mul, inb_nI, nI_clamp, wrI_row, wrL_row, rdR_rowI, rdR_rowL, rdI_def, rdL_def, rowI_same, rowI_ne, rowI_rowI, rowL_same, rowL_ne, rowL_1, rowI_21, upd_same, upd_ne, nI_le_T, nI_le_F, nI_lt_T, nI_lt_F, nI_eq_F, nI_NEG, NEG_lt0, nI_p, eq_self, if_true, if_false, p9, l9, p52, l52, u2, v52]
    unfold b_X12_absent_128
    simp (disch := (first | assumption | omega | (apply Inj.ne <;> first | assumption | omega) | fail)) only [nn_S, nm_D, ck_T, c2_S, on_N, on_S, lit, mNEG, nI_add, pk_mul, inb_nI, nI_clamp, wrI_row, wrL_row, rdR_rowI, rdR_rowL, rdI_def, rdL_def, rowI_same, rowI_ne, rowI_rowI, rowL_same, rowL_ne, rowL_1, rowI_21, upd_same, upd_ne, nI_le_T, nI_le_F, nI_lt_T, nI_lt_F, nI_eq_F, nI_NEG, NEG_lt0, nI_p, eq_self, if_true, if_false, p9, l9, u2]
    unfold b_X12_absent_153
    simp (disch := (first | assumption | omega | (apply Inj.ne <;> first | assumption | omega) | fail)) only [nn_S, nm_D, ck_T, c2_S, on_N, on_S, lit, mNEG, nI_add, pk_mul, inb_nI, nI_clamp, wrI_row, wrL_row, rdR_rowI, rdR_rowL, rdI_def, rdL_def, rowI_same, rowI_ne, rowI_rowI, rowL_same, rowL_ne, rowL_1, rowI_21, upd_same, upd_ne, nI_le_T, nI_le_F, nI_lt_T, nI_lt_F, nI_eq_F, nI_NEG, NEG_lt0, nI_p, eq_self, if_true, if_false, p9, l9, v1]
  · refine main NEG 0 (Or.inr ⟨u3, rfl, rfl⟩) (start _ ?_)
    rw [show bI (decide (NEG ≠ NEG)) = nI 0 by rw [decide_eq_false (fun h => h rfl)]; rfl]
    simp (disch := (first | assumption | omega | (apply Inj.ne <;> first | assumption | omega) | fail)) only [nn_S, nm_D, ck_T, c2_S, on_N, on_S, lit, mNEG, nI_add, pk_mul, inb_nI, nI_clamp, wrI_row, wrL_row, rdR_rowI, rdR_rowL, rdI_def, rdL_def, rowI_same, rowI_ne, rowI_rowI, rowL_same, rowL_ne, rowL_1, rowI_21, upd_same, upd_ne, nI_le_T, nI_le_F, nI_lt_T, nI_lt_F, nI_eq_F, nI_NEG, NEG_lt0, nI_p, eq_self, if_true, if_false, p9, l9, u2]
    unfold b_X12_absent_95
    simp (disch := (first | assumption | omega | (apply Inj.ne <;> first | assumption | omega) | fail)) only [nn_S, nm_D, ck_T, c2_S, on_N, on_S, lit, mNEG, nI_add, pk_mul, inb_nI, nI_clamp, wrI_row, wrL_row, rdR_rowI, rdR_rowL, rdI_def, rdL_def, rowI_same, rowI_ne, rowI_rowI, rowL_same, rowL_ne, rowL_1, rowI_21, upd_same, upd_ne, nI_le_T, nI_le_F, nI_lt_T, nI_lt_F, nI_eq_F, nI_NEG, NEG_lt0, nI_p, eq_self, if_true, if_false, p9, l9, u2]
    unfold b_X12_absent_128
    simp (disch := (first | assumption | omega | (apply Inj.ne <;> first | assumption | omega) | fail)) only [nn_S, nm_D, ck_T, c2_S, on_N, on_S, lit, mNEG, nI_add, pk_mul, inb_nI, nI_clamp, wrI_row, wrL_row, rdR_rowI, rdR_rowL, rdI_def, rdL_def, rowI_same, rowI_ne, rowI_rowI, rowL_same, rowL_ne, rowL_1, rowI_21, upd_same, upd_ne, nI_le_T, nI_le_F, nI_lt_T, nI_lt_F, nI_eq_F, nI_NEG, NEG_lt0, nI_p, eq_self, if_true, if_false, p9, l9, u2]
    unfold b_X12_absent_153
    simp (disch := (first | assumption | omega | (apply Inj.ne <;> first | assumption | omega) | fail)) only [nn_S, nm_D, ck_T, c2_S, on_N, on_S, lit, mNEG, nI_add, pk_mul, inb_nI, nI_clamp, wrI_row, wrL_row, rdR_rowI, rdR_rowL, rdI_def, rdL_def, rowI_same, rowI_ne, rowI_rowI, rowL_same, rowL_ne, rowL_1, rowI_21, upd_same, upd_ne, nI_le_T, nI_le_F, nI_lt_T, nI_lt_F, nI_eq_F, nI_NEG, NEG_lt0, nI_p, eq_self, if_true, if_false, p9, l9, v1]
