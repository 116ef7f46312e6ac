/-! PROOFS are shown: within, grown, span -/
theorem CJ.room {B : Nat} {S : Hs} {g : Hg} {ad : Nat → Nat} {m : Nat × Nat} {h : AHo} {kc : AKp} {s : Nat} (hC : CJ B S g ad m h kc) (hs : s < 16) : Room B ad S (400 + 4 * s) := by
  have t : 4096 - 2 * hpL S (ad (100 + 300 + 4 * s + 3)) ≤ phS S ad 100 := sumS_le (f := fun i => 4096 - 2 * hpL S (ad (100 + 300 + 4 * i + 3))) (s := s) 16 hs
  have t2 : hpL S (ad (100 + 300 + 4 * s + 3)) ≤ 2048 := (hC.pfo hs).1.le.2
  have t3 := hC.1.2
  unfold phi phH at t3
  show hpN S + 2048 < B + hpL S (ad (100 + 300 + 4 * s + 3))
  omega
theorem CJ.logO {B : Nat} {S : Hs} {g : Hg} {ad : Nat → Nat} {m : Nat × Nat} {h : AHo} {kc : AKp} (N : Nat) (hJ : CJ B S g ad m h kc) (h6 : h.1.1 ≤ 6) (x : Int32) : ∃ o, f_X1_logAt N S g (ad 100) x = some (o, g) := by
  rcases pk_ix x (show h.1.1 < 2 ^ 31 by omega) with c | c | ⟨l, hl, rfl⟩
  · exact ⟨_, hJ.logF (Or.inl c)⟩
  · exact ⟨_, hJ.logF (Or.inr c)⟩
  · exact ⟨_, hJ.logAt hl⟩
theorem slot_fin {B : Nat} {R Q : Nat → Prop} {ad ad1 : Nat → Nat} {S S1 : Hs} {g g1 g2 : Hg} {m : Nat × Nat} {h : AHo} {kc : AKp} {s k w : Nat} {X : ASl} (hJ : Jn B S g ad m h kc) (hs : s < 16) (hm : Mv R ad S g ad1 S1 g1) (n : ∀ r, R r → 2 ≤ r ∧ r ≤ 15 ∨ 400 + 4 * s ≤ r ∧ r < 404 + 4 * s) (hA : AdOk B ad1 S1) (hp : ad1 (400 + 4 * s) = ad (400 + 4 * s)) (hS : ScP S1 g1 ad1) (hX : PfO S1 g1 ad1 (400 + 4 * s) X) (hg : Gw ad S ad1 S1 (400 + 4 * s) k w) (hw : SlWf X) (hf : FM ad1 Q g1 g2) (nq : ∀ r, Q r → 20010 ≤ r ∧ r ≤ 20013 ∨ 20044 ≤ r) (hX2 : RSl g2 ad1 0 s X) (hG : SlG ad1 s g1 g2) : Jn B S1 g2 ad1 m (setS h s X) kc ∧ ad1 0 = ad 0 ∧ ad1 20000 = ad 20000 ∧ 4 * k + phi S1 ad1 m kc ≤ phi S ad m kc ∧ w + phi S1 ad1 m kc ≤ phi S ad m kc := by
  obtain ⟨hC, hR, hW, hK⟩ := hJ
  obtain ⟨d1, d2, d3, d4, d5⟩ := hC.slot hs hm n hA hp hS hX hg
  have hR1 := hR.mv hm (fun r hr => by have := n r hr; omega)
  exact ⟨⟨d1.fr hf.1 (fun r hr => by
    rcases hr with hr | hr
    · have := nq r hr; omega
    · omega), hR1.slot hW hf nq hX2 hG, hW.slot hw, hK⟩, d4, d5, d2, d3⟩
theorem StM.scr {B : Nat} {S : Hs} {g g1 g2 : Hg} {ad : Nat → Nat} {m : Nat × Nat} {h : AHo} {kc : AKp} {F : Hs → Hg → Option (Int32 × Hs × Hg × Nat × Nat)} {G : Hs → Hg → Option (Int32 × Hg)} {R Q : Nat → Prop} (hJ : Jn B S g ad m h kc) {r : Int32} (hF : F S g = some (r, S, g1, 0, 0)) (hf : Fr ad R g g1) (n : ∀ q, R q → q < 100) (hG : G S g1 = some (r, g2)) (hq : FM ad Q g1 g2) (n2 : ∀ q, Q q → 20044 ≤ q) : StM B S g ad m kc F G := by
  obtain ⟨h1, h2, h3, h4⟩ := hJ
  exact ⟨r, ad, S, g1, g2, 0, 0, h, m, kc, hF, hG, ⟨(h1.fr hf (fun q hq => Or.inl (n q hq))).fr hq.1 (fun q h => Or.inr (h.elim (fun h => by have := n2 q h; omega) (fun h => by omega))), (h2.fr hf (fun q hq => Or.inl (by have := n q hq; omega))).fm hq (fun q h => Or.inr (n2 q h)), h3, h4⟩, rfl, rfl, by omega, by omega⟩
/-- a SLOT begun: kind, n, two numbers -/
def begE (kd n a b : Int32) : ASl := ((kd, n, a, b, 0, 0, 0), (0, fun _ => 0, fun _ => 0), (0, fun _ _ => 0))
theorem m_begR {N : Nat} (hN : 40000 ≤ N) {S : Hs} {g : Hg} {ad : Nat → Nat} (hI : Inj ad) {s : Nat} (hs : s < 16) (kd n_ a_ b_ : Int32) (hk : ¬ (kd = nI 3 ∨ kd = nI 4)) (hR : RfP S g ad) : ∃ g1, f_X12_begin N S g (ad 20000) (nI s) kd n_ a_ b_ = some ((), g1) ∧ Fr ad (fun r => r = 20010) g g1 ∧ RSl g1 ad 0 s (begE kd n_ a_ b_) ∧ SlG ad s g g1 := by
  obtain ⟨r, b1, b2, ⟨b3, b4, b5, b6⟩, b7⟩ := m_begin hN hI hs kd n_ a_ b_ hR
  have f2 : Fr ad (fun r => r = 20010) g (rowI g (ad 20010) r) := Fr.row hI rfl
  have e2 : (rowI g (ad 20010) r).1 (ad 20010) = r := rowI_same _ _ _
  refine ⟨_, b1, f2, ?_, ⟨fun j hj => by rw [e2]; exact b2 j hj, fun j _ => by rw [f2.I (by omega)], fun j _ => by rw [f2.L (by omega)], fun j _ => by rw [f2.I (by omega)]⟩⟩
  refine ⟨⟨?_, fun i hi => absurd hi (by show ¬ i < 0; omega)⟩, ⟨?_, ?_, ?_, ?_, ?_, ?_, fun h4 => absurd (Or.inr h4) hk⟩, fun k hk => absurd hk (by show ¬ k < 0; omega), fun h34 => absurd h34 hk⟩
  · exact (congrFun e2 _).trans (b7 1 (by omega))
  · exact (congrFun e2 _).trans b3
  · exact (congrFun e2 _).trans b4
  · exact (congrFun e2 _).trans b5
  · exact (congrFun e2 _).trans b6
  · exact (congrFun e2 _).trans (b7 5 (by omega))
  · exact (congrFun e2 _).trans (b7 6 (by omega))
/-- one entry more in the reference's SLOT -/
theorem RSl.ent {g : Hg} {ad : Nat → Nat} (hI : Inj ad) {s q : Nat} {X : ASl} (key : Int32) (v : Int64) (h : RSl g ad 0 s X) (hq : q = 40 * s + X.2.1.1) (he : X.2.1.1 < 40) (hk : ¬ (X.1.1 = nI 3 ∨ X.1.1 = nI 4)) : ∃ g1, rowL (rowI g (ad 20011) (upd (g.1 (ad 20011)) q key)) (ad 20012) (fun k => if k = q then v else g.2.1 (ad 20012) k) = g1 ∧ Fr ad (fun r => r = 20011 ∨ r = 20012) g g1 ∧ RSl g1 ad 0 s (entX X key v) ∧ SlG ad s g g1 := by
  let g2 : Hg := rowL (rowI g (ad 20011) (upd (g.1 (ad 20011)) q key)) (ad 20012) (fun k => if k = q then v else g.2.1 (ad 20012) k)
  have f2 : Fr ad (fun r => r = 20011 ∨ r = 20012) g g2 := Fr.rt hI (Fr.rowL hI (by omega)) (by omega)
  have j1 : g2.1 (ad 20011) = upd (g.1 (ad 20011)) q key := by simp (disch := (first | assumption | omega | (apply Inj.ne <;> first | assumption | omega) | fail)) only [nn_S, nm_D, ck_T, c2_S, on_N, on_S, lit, mNEG, nI_add, pk_mul, inb_nI, nI_clamp, wrI_row, wrL_row, rdR_rowI, rdR_rowL, rdI_def, rdL_def, rowI_same, rowI_ne, rowI_rowI, rowL_same, rowL_ne, rowL_1, rowI_21, upd_same, upd_ne, nI_le_T, nI_le_F, nI_lt_T, nI_lt_F, nI_eq_F, nI_NEG, NEG_lt0, nI_p, eq_self, if_true, if_false, g2]
  have j2 : g2.2.1 (ad 20012) = fun k => if k = q then v else g.2.1 (ad 20012) k := by simp (disch := (first | assumption | omega | (apply Inj.ne <;> first | assumption | omega) | fail)) only [nn_S, nm_D, ck_T, c2_S, on_N, on_S, lit, mNEG, nI_add, pk_mul, inb_nI, nI_clamp, wrI_row, wrL_row, rdR_rowI, rdR_rowL, rdI_def, rdL_def, rowI_same, rowI_ne, rowI_rowI, rowL_same, rowL_ne, rowL_1, rowI_21, upd_same, upd_ne, nI_le_T, nI_le_F, nI_lt_T, nI_lt_F, nI_eq_F, nI_NEG, NEG_lt0, nI_p, eq_self, if_true, if_false, g2]
  refine ⟨g2, rfl, f2, ?_, ⟨fun j _ => by rw [f2.I (by omega)], fun z hz => by rw [j1, upd_ne _ _ (by omega)], fun z hz => by
        rw [j2]
        show (if z = q then v else _) = _
        rw [if_neg (by omega)], fun j _ => by rw [f2.I (by omega)]⟩⟩
  obtain ⟨a1, b1, c1, d1⟩ := h
  have i0 : g2.1 (ad (20010 + 0)) = g.1 (ad (20010 + 0)) := f2.I (by omega)
  refine ⟨?_, ?_, fun z hz => ?_, fun h34 => absurd h34 hk⟩
  · exact a1.fr f2 (by omega) (by omega)
  · rw [i0]; exact b1
  · have hz : z < X.2.1.1 + 1 := hz
    show g2.1 (ad 20011) (40 * s + z) = upd _ X.2.1.1 key z ∧ g2.2.1 (ad 20012) (40 * s + z) = (if z = X.2.1.1 then v else _)
    rw [j1, j2]
    show upd _ q key (40 * s + z) = upd _ X.2.1.1 key z ∧ (if 40 * s + z = q then v else _) = (if z = X.2.1.1 then v else _)
    by_cases c : z = X.2.1.1
    · rw [c, ← hq, upd_same, upd_same, if_pos rfl, if_pos rfl]
      exact ⟨rfl, rfl⟩
    · rw [upd_ne _ _ (by omega), upd_ne _ _ c, if_neg (by omega), if_neg c]
      exact c1 z (by omega)
/-- STEPS told in the reference's SLOT -/
theorem RSl.stp {R : Nat → Prop} {g g1 : Hg} {ad : Nat → Nat} {s : Nat} {X X1 : ASl} (h : RSl g ad 0 s X) (hF : SlF ad s g g1) (hf : Fr ad R g g1) (n : ¬ R 20011 ∧ ¬ R 20012) (hX : RSt g1 ad 0 s X1) (e1 : X1.1 = X.1) (e2 : X1.2.1 = X.2.1) : RSl g1 ad 0 s X1 := by
  obtain ⟨a1, ⟨b1, b2, b3, b4, b5, b6, b7⟩, c1, d1⟩ := h
  have i1 : g1.1 (ad (20011 + 0)) = g.1 (ad (20011 + 0)) := hf.I n.1
  have i2 : g1.2.1 (ad (20012 + 0)) = g.2.1 (ad (20012 + 0)) := hf.L n.2
  refine ⟨hX, ?_, ?_, ?_⟩
  · rw [e1]
    exact ⟨(hF.1 (8 * s) (by omega)).trans b1, (hF.1 (8 * s + 2) (by omega)).trans b2, (hF.1 (8 * s + 3) (by omega)).trans b3, (hF.1 (8 * s + 4) (by omega)).trans b4, (hF.1 (8 * s + 5) (by omega)).trans b5, (hF.1 (8 * s + 6) (by omega)).trans b6, fun hk => (hF.1 (8 * s + 7) (by omega)).trans (b7 hk)⟩
  · rw [e2, i1, i2]; exact c1
  · rw [e1, i1]; exact d1
theorem SlG.sff {ad : Nat → Nat} {s : Nat} {R : Nat → Prop} {g g1 : Hg} (h : SlF ad s g g1) (hf : Fr ad R g g1) (n : ¬ R 20011 ∧ ¬ R 20012) : SlG ad s g g1 := ⟨fun j hj => h.1 j (by omega), fun j _ => by rw [hf.I n.1], fun j _ => by rw [hf.L n.2], fun j hj => h.2 j hj⟩
/-- BLOCKS from 0 to a and from b to n told in the reference's SLOT, and how many STEPS it has then -/
theorem m_steps2 {N : Nat} (hN : 40000 ≤ N) {S : Hs} {g : Hg} {ad : Nat → Nat} (hI : Inj ad) {s l a b n : Nat} {A : ALog} {X : ASl} (hs : s < 16) (hl : l < 6) (hsz : lsz A ≤ 400) (ha : a ≤ lsz A) (hb : b ≤ n) (hn : n ≤ lsz A) (hR : RfP S g ad) (hL : RLog g ad 0 l A) (hX : RSl g ad 0 s X) (hc : X.2.2.1 = 0) :
    ∃ g1, c2 (f_X12_stepLog N S g (ad 20000) (nI s) (nI l) (nI 0) (nI a)) (fun _ g_2 => c2 (f_X12_stepLog N S g_2 (ad 20000) (nI s) (nI l) (nI b) (nI n)) (fun _ g_4 => nn (rdR g_4 (ad 20000) 9) (fun a_6 => ck (inb (nI (8 * s + 1)) (hpL S a_6)) (some (g_4.1 a_6 (8 * s + 1), g_4))))) = some (nI (blkX (LSUM A) b n (blkX (LSUM A) 0 a X)).2.2.1, g1) ∧ Fr ad (fun r => r = 20010 ∨ r = 20013 ∨ 20044 ≤ r) g g1 ∧ RSl g1 ad 0 s (blkX (LSUM A) b n (blkX (LSUM A) 0 a X)) ∧ SlG ad s g g1 := by
  obtain ⟨g1, a1, a2, a3, a4⟩ := m_stepLog hN hI hs hl hsz (Nat.zero_le a) ha hR hL hX.1 (by omega)
  obtain ⟨z1, z2, z3⟩ := blkX_sc (LSUM A) 0 a X
  have hL1 : RLog g1 ad 0 l A := hL.eq (fun r r1 r2 => ⟨a2.I (by omega), a2.L (by omega)⟩)
  have nb1 := nb_le (a := 0) (b := a) (by omega)
  obtain ⟨g2, b1, b2, b3, b4⟩ := m_stepLog hN hI hs hl hsz hb hn (hR.fr a2.1) hL1 a3 (by omega)
  obtain ⟨y1, y2, y3⟩ := blkX_sc (LSUM A) b n (blkX (LSUM A) 0 a X)
  have r1 := hX.stp a4 a2 (by omega) a3 z2 z3
  have r2 := r1.stp b4 b2 (by omega) b3 y2 y3
  refine ⟨g2, ?_, (a2.mono (fun r h => by omega)).tr (b2.mono (fun r h => by omega)), r2, (SlG.sff a4 a2 (by omega)).tr (SlG.sff b4 b2 (by omega))⟩
  have hR2 := (hR.fr a2.1).fr b2.1
  have p9 : rdR _ (ad 20000) 9 = some (ad 20010) := hR2.p 9 (by decide)
  have l9 : hpL _ (ad 20010) = 128 := hR2.l 9 (by decide) rfl
  have v1 : g2.1 (ad 20010) (8 * s + 1) = nI (blkX (LSUM A) b n (blkX (LSUM A) 0 a X)).2.2.1 := r2.1.1
  rw [a1, c2_S, b1, c2_S]
  simp (disch := (first | assumption | omega | (apply Inj.ne <;> first | assumption | omega) | fail)) only [nn_S, nm_D, ck_T, c2_S, on_N, on_S, lit, mNEG, nI_add, pk_mul, inb_nI, nI_clamp, wrI_row, wrL_row, rdR_rowI, rdR_rowL, rdI_def, rdL_def, rowI_same, rowI_ne, rowI_rowI, rowL_same, rowL_ne, rowL_1, rowI_21, upd_same, upd_ne, nI_le_T, nI_le_F, nI_lt_T, nI_lt_F, nI_eq_F, nI_NEG, NEG_lt0, nI_p, eq_self, if_true, if_false, p9, l9, v1]
theorem PfO.cnt {S : Hs} {g : Hg} {ad : Nat → Nat} {p : Nat} {X : ASl} (h : PfO S g ad p X) : rdI g (ad p) 4 = nI X.2.2.1 := h.2.1.1.2.1
theorem t_within {B N : Nat} (hN : 40000 ≤ N) {S : Hs} {g : Hg} {ad : Nat → Nat} {m : Nat × Nat} {h : AHo} {kc : AKp} (hJ : Jn B S g ad m h kc) (x1 : Int32) (x2 : Int32) (x3 : Int32) (x4 : Int32) : StM B S g ad m kc (fun S g => f_X11_within N S g (ad 0) x1 x2 x3 x4) (fun S g => f_X12_within N S g (ad 20000) x1 x2 x3 x4) := by
  obtain ⟨hC, hR, hW, hK⟩ := id hJ
  have h6 := hW.1
  have hI := hC.inj
  have nl := hR.nl
  have badS : x1 < 0 ∨ nI 16 ≤ x1 → StM B S g ad m kc (fun S g => f_X11_within N S g (ad 0) x1 x2 x3 x4) (fun S g => f_X12_within N S g (ad 20000) x1 x2 x3 x4) := fun hx => by
    obtain ⟨o, ho⟩ := hC.logO N h6 x2
    refine StM.same hJ (r := NEG) ?_ ?_
    · show b_X11_within_0 N S g _ _ _ _ _ = _
      unfold b_X11_within_0
      rw [hC.p3, nn_S, c_slotAtF hx, c2_S, hC.p3, nn_S, ho, c2_S, on_N]
      rfl
    · show b_X12_within_0 N S g _ _ _ _ _ = _
      unfold b_X12_within_0
      rw [m_isSlotF hx, c2_S, if_pos z00]
      rfl
  rcases pk_ix x1 (show 16 < 2 ^ 31 by decide) with c | c | ⟨s, hs, rfl⟩
  · exact badS (Or.inl c)
  · exact badS (Or.inr c)
  have hO := hC.pfo hs
  have badL : x2 < 0 ∨ nI h.1.1 ≤ x2 → StM B S g ad m kc (fun S g => f_X11_within N S g (ad 0) (nI s) x2 x3 x4) (fun S g => f_X12_within N S g (ad 20000) (nI s) x2 x3 x4) := fun hx => by
    refine StM.same hJ (r := NEG) ?_ ?_
    · show b_X11_within_0 N S g _ _ _ _ _ = _
      unfold b_X11_within_0
      rw [hC.p3, nn_S, hC.slotAt hs, c2_S, hC.p3, nn_S, hC.logF hx, c2_S, on_S, on_N]
      rfl
    · show b_X12_within_0 N S g _ _ _ _ _ = _
      unfold b_X12_within_0
      rw [m_isSlotT hs, c2_S, if_neg z10, m_isCountL nl hx, c2_S, if_pos z00]
      rfl
  rcases pk_ix x2 (show h.1.1 < 2 ^ 31 by omega) with c | c | ⟨l, hl, rfl⟩
  · exact badL (Or.inl c)
  · exact badL (Or.inr c)
  have hA := hC.clo hl
  have hsz := hA.2.2.1
  have hL := hR.lg hl
  have hl6 : l < 6 := by omega
  have badN : x3 < 0 ∨ nI (lsz (h.1.2 l) + 1) ≤ x3 → StM B S g ad m kc (fun S g => f_X11_within N S g (ad 0) (nI s) (nI l) x3 x4) (fun S g => f_X12_within N S g (ad 20000) (nI s) (nI l) x3 x4) := fun hx => by
    refine StM.same hJ (r := NEG) ?_ ?_
    · show b_X11_within_0 N S g _ _ _ _ _ = _
      unfold b_X11_within_0
      rw [hC.p3, nn_S, hC.slotAt hs, c2_S, hC.p3, nn_S, hC.logAt hl, c2_S, on_S, on_S, c_reachesF hA hx, c2_S, if_pos z00]
      rfl
    · show b_X12_within_0 N S g _ _ _ _ _ = _
      unfold b_X12_within_0
      rw [m_isSlotT hs, c2_S, if_neg z10, m_isCountN nl h6 hl hsz hx hR.1 hL, c2_S, if_pos z00]
      rfl
  rcases pk_ix x3 (show lsz (h.1.2 l) + 1 < 2 ^ 31 by omega) with c | c | ⟨n, hn, rfl⟩
  · exact badN (Or.inl c)
  · exact badN (Or.inr c)
  have hn' : n ≤ lsz (h.1.2 l) := by omega
  have badI : ∀ y, (f_X11_within N S g (ad 0) (nI s) (nI l) (nI n) y = some (NEG, S, g, 0, 0)) → (f_X12_within N S g (ad 20000) (nI s) (nI l) (nI n) y = some (NEG, g)) → StM B S g ad m kc (fun S g => f_X11_within N S g (ad 0) (nI s) (nI l) (nI n) y) (fun S g => f_X12_within N S g (ad 20000) (nI s) (nI l) (nI n) y) := fun y e1 e2 => StM.same hJ (r := NEG) e1 e2
  have p4 : rdR _ (ad 20000) 4 = some (ad 20005) := hR.1.p 4 (by decide)
  have l4 : hpL _ (ad 20005) = 2400 := hR.1.l 4 (by decide) rfl
  have badX : x4 < 0 ∨ nI n ≤ x4 → StM B S g ad m kc (fun S g => f_X11_within N S g (ad 0) (nI s) (nI l) (nI n) x4) (fun S g => f_X12_within N S g (ad 20000) (nI s) (nI l) (nI n) x4) := fun hx => by
    refine badI x4 ?_ ?_
    · show b_X11_within_0 N S g _ _ _ _ _ = _
      unfold b_X11_within_0
      rw [hC.p3, nn_S, hC.slotAt hs, c2_S, hC.p3, nn_S, hC.logAt hl, c2_S, on_S, on_S, c_reachesT hA hn', c2_S, if_neg z10]
      by_cases c : nI n ≤ x4
      · rw [if_pos c]; rfl
      · rw [if_neg c, c_showsF hA (Or.inl (hx.resolve_right c)), c2_S, if_pos z00]; rfl
    · show b_X12_within_0 N S g _ _ _ _ _ = _
      unfold b_X12_within_0
      rw [m_isSlotT hs, c2_S, if_neg z10, m_isCountT nl h6 hl hsz hn' hR.1 hL, c2_S, if_neg z10]
      by_cases c : x4 < 0
      · rw [if_pos c]; rfl
      · rw [if_neg c, if_pos (hx.resolve_left c)]; rfl
  rcases pk_ix x4 (show n < 2 ^ 31 by omega) with c | c | ⟨i, hi, rfl⟩
  · exact badX (Or.inl c)
  · exact badX (Or.inr c)
  have cni : ¬ nI n ≤ nI i := nI_ge hi (by omega)
  have ci0 : ¬ nI i < (0 : Int32) := nI_pos (by omega)
  have vg : g.1 (ad 20005) (400 * l + i) = bI (lft (h.1.2 l) i == 2) := (hL.2.1 i (by omega)).2.2.1
  by_cases cg : lft (h.1.2 l) i = 2
  · refine badI (nI i) ?_ ?_
    · show b_X11_within_0 N S g _ _ _ _ _ = _
      unfold b_X11_within_0
      rw [hC.p3, nn_S, hC.slotAt hs, c2_S, hC.p3, nn_S, hC.logAt hl, c2_S, on_S, on_S, c_reachesT hA hn', c2_S, if_neg z10, if_neg cni, c_showsG hA (by omega) cg, c2_S, if_pos z00]
      rfl
    · show b_X12_within_0 N S g _ _ _ _ _ = _
      unfold b_X12_within_0
      rw [m_isSlotT hs, c2_S, if_neg z10, m_isCountT nl h6 hl hsz hn' hR.1 hL, c2_S, if_neg z10, if_neg ci0, if_neg cni]
      rw [cg] at vg
      have vg : g.1 (ad 20005) (400 * l + i) = nI 1 := vg
      simp (disch := (first | assumption | omega | (apply Inj.ne <;> first | assumption | omega) | fail)) only [nn_S, nm_D, ck_T, c2_S, on_N, on_S, lit, mNEG, nI_add, pk_mul, inb_nI, nI_clamp, wrI_row, wrL_row, rdR_rowI, rdR_rowL, rdI_def, rdL_def, rowI_same, rowI_ne, rowI_rowI, rowL_same, rowL_ne, rowL_1, rowI_21, upd_same, upd_ne, nI_le_T, nI_le_F, nI_lt_T, nI_lt_F, nI_eq_F, nI_NEG, NEG_lt0, nI_p, eq_self, if_true, if_false, p4, l4, vg]
  have vg : g.1 (ad 20005) (400 * l + i) = nI 0 := by
    rw [vg, show (lft (h.1.2 l) i == 2) = false from beq_false_of_ne cg]
    rfl
  obtain ⟨ga, a1, a2, a3⟩ := c_begin (N := N) hI (1 : Int32) (nI n) (nI i) hO.1
  obtain ⟨ad1, S1, g1, k, w, b1, b2⟩ := c_showEntries (N := N) (B := B) hN (x2 := nI n) (x3 := nI i) (x4 := nI (i + 1)) (nn_ := n) (fr := i) (to := i + 1) (b := 200 + 20 * l) (p := 400 + 4 * s) rfl rfl rfl (by omega) (by omega) hn' (by omega) (fun z z1 z2 => by rw [show z = i by omega]; exact cg) hC.1.1 (hA.fr a2 (fun r r1 r2 => by omega)) a3 (hC.room hs) (by show 0 + (i + 1 - i) ≤ 40; omega) rfl
  have b2' := PfR.frl (a2.mono (fun r hr => by omega)) b2
  obtain ⟨m1, m2, m3, m4, m5⟩ := b2'
  rw [show i + 1 - i = 1 by omega] at m4
  have hI1 := m2.1
  have hR1 := hR.mv m1 (fun r hr => by omega)
  have hL1 := hR1.lg hl
  have d6 : ad1 20000 = ad 20000 := m1.ad (by omega)
  obtain ⟨g2, e1, e2, e3, e4⟩ := m_begR (N := N) hN hI1 hs (1 : Int32) (nI n) (nI i) (0 : Int32) (by decide) hR1.1
  have hL2 := hL1.eq (g1 := g2) (ad1 := ad1) (fun r r1 r2 => ⟨e2.I (by omega), e2.L (by omega)⟩)
  obtain ⟨g3, h1, h2, h3, h4⟩ := e3.ent hI1 (q := 40 * s) (lky (h.1.2 l) i) (lvl (h.1.2 l) i) rfl (by show 0 < 40; omega) (by show ¬ ((1 : Int32) = nI 3 ∨ (1 : Int32) = nI 4); decide)
  have hL3 := hL2.eq (g1 := g3) (ad1 := ad1) (fun r r1 r2 => ⟨h2.I (by omega), h2.L (by omega)⟩)
  obtain ⟨g4, j1, j2, j3, j4⟩ := m_steps2 (N := N) hN hI1 (a := i) (b := i + 1) (n := n) hs hl6 hsz (by omega) (by omega) hn' ((hR1.1.fr e2.1).fr h2.1) hL3 h3 rfl
  have hX2 : RSl g4 ad1 0 s (blkX (LSUM (h.1.2 l)) (i + 1) n (blkX (LSUM (h.1.2 l)) 0 i (entF (h.1.2 l) 1 i (begX 1 (nI n) (nI i))))) := j3
  have fA : FM ad1 (fun r => 20010 ≤ r ∧ r ≤ 20013 ∨ 20044 ≤ r) g1 g4 := (FM.fr ((e2.mono (fun r hr => by omega)).tr ((h2.mono (fun r hr => by omega)).tr (j2.mono (fun r hr => by omega)))) (by omega))
  have hw : SlWf (blkX (LSUM (h.1.2 l)) (i + 1) n (blkX (LSUM (h.1.2 l)) 0 i (entF (h.1.2 l) 1 i (begX 1 (nI n) (nI i))))) := by
    obtain ⟨z1, z2, z3⟩ := blkX_sc (LSUM (h.1.2 l)) 0 i (entF (h.1.2 l) 1 i (begX 1 (nI n) (nI i)))
    obtain ⟨y1, y2, y3⟩ := blkX_sc (LSUM (h.1.2 l)) (i + 1) n (blkX (LSUM (h.1.2 l)) 0 i (entF (h.1.2 l) 1 i (begX 1 (nI n) (nI i))))
    have nb1 := nb_le (a := 0) (b := i) (by omega)
    have nb2 := nb_le (a := i + 1) (b := n) (by omega)
    have q0 : (entF (h.1.2 l) 1 i (begX 1 (nI n) (nI i))).2.2.1 = 0 := rfl
    have q1 : (entF (h.1.2 l) 1 i (begX 1 (nI n) (nI i))).2.1.1 = 1 := rfl
    have q2 : (entF (h.1.2 l) 1 i (begX 1 (nI n) (nI i))).1 = (nI 1, nI n, nI i, 0, 0, 0, 0) := rfl
    rw [z3] at y3
    rw [z2, q2] at y2
    refine ⟨by rw [y3, q1]; omega, by omega, Or.inr (Or.inl ⟨by rw [y2], by rw [y3, q1], i, n, hi, by omega, by rw [y2], by rw [y2], by omega⟩)⟩
  obtain ⟨t1, t2, t3, t4, t5⟩ := slot_fin hJ hs m1 (fun r hr => by omega) m2 m3 (hC.sc.pf m1 (fun r hr => by omega) (by omega) m3) m4 m5 hw fA (fun r hr => by omega) hX2 ((e4.tr h4).tr j4)
  refine ⟨nI (blkX (LSUM (h.1.2 l)) (i + 1) n (blkX (LSUM (h.1.2 l)) 0 i (entF (h.1.2 l) 1 i (begX 1 (nI n) (nI i))))).2.2.1, ad1, S1, g1, g4, k + 0, w + 0, _, m, kc, ?_, ?_, t1, t2, t3, by omega, by omega⟩
  · show b_X11_within_0 N S g _ _ _ _ _ = _
    unfold b_X11_within_0
    rw [hC.p3, nn_S, hC.slotAt hs, c2_S, hC.p3, nn_S, hC.logAt hl, c2_S, on_S, on_S, c_reachesT hA hn', c2_S, if_neg z10, if_neg cni, c_showsT hA (by omega) cg, c2_S, if_neg z10, a1, c2_S, show nI i + (1 : Int32) = nI (i + 1) from nI_add i 1, b1, c5_S, ← m3, m4.cnt, tk_S]
  · rw [← d6]
    have p2 : rdR g2 (ad1 20000) 2 = some (ad1 20003) := (hR1.1.fr e2.1).p 2 (by decide)
    have l2 : hpL S1 (ad1 20003) = 2400 := hR1.1.l 2 (by decide) rfl
    have p3 : rdR g2 (ad1 20000) 3 = some (ad1 20004) := (hR1.1.fr e2.1).p 3 (by decide)
    have l3 : hpL S1 (ad1 20004) = 2400 := hR1.1.l 3 (by decide) rfl
    have p4' : rdR g1 (ad1 20000) 4 = some (ad1 20005) := hR1.1.p 4 (by decide)
    have l4' : hpL S1 (ad1 20005) = 2400 := hR1.1.l 4 (by decide) rfl
    have p10 : rdR g2 (ad1 20000) 10 = some (ad1 20011) := (hR1.1.fr e2.1).p 10 (by decide)
    have l10 : hpL S1 (ad1 20011) = 640 := hR1.1.l 10 (by decide) rfl
    have p11 : rdR g2 (ad1 20000) 11 = some (ad1 20012) := (hR1.1.fr e2.1).p 11 (by decide)
    have l11 : hpL S1 (ad1 20012) = 640 := hR1.1.l 11 (by decide) rfl
    have vg1 : g1.1 (ad1 20005) (400 * l + i) = nI 0 := by rw [m1.I (by omega)]; exact vg
    have vk : g2.1 (ad1 20003) (400 * l + i) = lky (h.1.2 l) i := (hL2.2.1 i (by omega)).1
    have vv : g2.2.1 (ad1 20004) (400 * l + i) = lvl (h.1.2 l) i := (hL2.2.1 i (by omega)).2.1
    show b_X12_within_0 N S1 g1 _ _ _ _ _ = _
    unfold b_X12_within_0
    rw [m_isSlotT hs, c2_S, if_neg z10, m_isCountT hR1.nl h6 hl hsz hn' hR1.1 hL1, c2_S, if_neg z10, if_neg ci0, if_neg cni]
    simp (disch := (first | assumption | omega | (apply Inj.ne <;> first | assumption | omega) | fail)) only [nn_S, nm_D, ck_T, c2_S, on_N, on_S, lit, mNEG, nI_add, pk_mul, inb_nI, nI_clamp, wrI_row, wrL_row, rdR_rowI, rdR_rowL, rdI_def, rdL_def, rowI_same, rowI_ne, rowI_rowI, rowL_same, rowL_ne, rowL_1, rowI_21, upd_same, upd_ne, nI_le_T, nI_le_F, nI_lt_T, nI_lt_F, nI_eq_F, nI_NEG, NEG_lt0, nI_p, eq_self, if_true, if_false, p4', l4', vg1]
    rw [show f_X12_begin N S1 g1 (ad1 20000) (nI s) (nI 1) (nI n) (nI i) (nI 0) = _ from e1, c2_S]
    simp (disch := (first | assumption | omega | (apply Inj.ne <;> first | assumption | omega) | fail)) only [nn_S, nm_D, ck_T, c2_S, on_N, on_S, lit, mNEG, nI_add, pk_mul, inb_nI, nI_clamp, wrI_row, wrL_row, rdR_rowI, rdR_rowL, rdI_def, rdL_def, rowI_same, rowI_ne, rowI_rowI, rowL_same, rowL_ne, rowL_1, rowI_21, upd_same, upd_ne, nI_le_T, nI_le_F, nI_lt_T, nI_lt_F, nI_eq_F, nI_NEG, NEG_lt0, nI_p, eq_self, if_true, if_false, p2, l2, p3, l3, p10, l10, p11, l11, vk, vv]
    rw [h1]
    exact j1
