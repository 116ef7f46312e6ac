/-! one SLOT changed -/
theorem CJ.slotAt {B N : Nat} {S : Hs} {g : Hg} {ad : Nat → Nat} {m : Nat × Nat} {h : AHo} {kc : AKp} {s : Nat} (hJ : CJ B S g ad m h kc) (hs : s < 16) : f_X1_slotAt N S g (ad 100) (nI s) = some (some (ad (400 + 4 * s)), g) := c_slotAt hJ.2.2.1.1 hJ.2.2.1.2.2.2.1 hs
theorem CJ.pfo {B : Nat} {S : Hs} {g : Hg} {ad : Nat → Nat} {m : Nat × Nat} {h : AHo} {kc : AKp} {s : Nat} (hJ : CJ B S g ad m h kc) (hs : s < 16) : PfO S g ad (400 + 4 * s) (h.2.1 s) := (hJ.2.2.1.2.2.2.1 s hs).2
theorem RJ.sl {S : Hs} {g : Hg} {ad : Nat → Nat} {h : AHo} {kc : AKp} {s : Nat} (hR : RJ S g ad h kc) (hs : s < 16) : RSl g ad 0 s (h.2.1 s) := hR.2.1.2.1 s hs
theorem m_isSlotT {N : Nat} {S : Hs} {g : Hg} {a s : Nat} (hs : s < 16) : f_X12_isSlot N S g a (nI s) = some (nI 1, g) := by
  show b_X12_isSlot_0 N S g (nI s) = _
  unfold b_X12_isSlot_0
  simp (disch := (first | assumption | omega | (apply Inj.ne <;> first | assumption | omega) | fail)) only [nn_S, nm_D, ck_T, c2_S, on_N, on_S, lit, mNEG, nI_add, pk_mul, inb_nI, nI_clamp, wrI_row, wrL_row, rdR_rowI, rdR_rowL, rdI_def, rdL_def, rowI_same, rowI_ne, rowI_rowI, rowL_same, rowL_ne, rowL_1, rowI_21, upd_same, upd_ne, nI_le_T, nI_le_F, nI_lt_T, nI_lt_F, nI_eq_F, nI_NEG, NEG_lt0, nI_p, eq_self, if_true, if_false]
theorem m_isSlotF {N : Nat} {S : Hs} {g : Hg} {a : Nat} {x : Int32} (hx : x < 0 ∨ nI 16 ≤ x) : f_X12_isSlot N S g a x = some (nI 0, g) := by
  show b_X12_isSlot_0 N S g x = _
  unfold b_X12_isSlot_0
  by_cases c : x < 0
  · rw [if_pos c]; rfl
  · rw [if_neg c, if_pos (show (16 : Int32) ≤ x from hx.resolve_left c)]; rfl
/-- of the reference's SLOTS, only the places of SLOT s are others -/
def SlG (ad : Nat → Nat) (s : Nat) (g g1 : Hg) : Prop := (∀ j, j < 8 * s ∨ 8 * s + 8 ≤ j → g1.1 (ad 20010) j = g.1 (ad 20010) j) ∧ (∀ j, j < 40 * s ∨ 40 * s + 40 ≤ j → g1.1 (ad 20011) j = g.1 (ad 20011) j) ∧ (∀ j, j < 40 * s ∨ 40 * s + 40 ≤ j → g1.2.1 (ad 20012) j = g.2.1 (ad 20012) j) ∧ (∀ j, j < 2048 * s ∨ 2048 * s + 2048 ≤ j → g1.1 (ad 20013) j = g.1 (ad 20013) j)
theorem SlG.tr {ad : Nat → Nat} {s : Nat} {g g1 g2 : Hg} (h : SlG ad s g g1) (h1 : SlG ad s g1 g2) : SlG ad s g g2 := ⟨fun j hj => (h1.1 j hj).trans (h.1 j hj), fun j hj => (h1.2.1 j hj).trans (h.2.1 j hj), fun j hj => (h1.2.2.1 j hj).trans (h.2.2.1 j hj), fun j hj => (h1.2.2.2 j hj).trans (h.2.2.2 j hj)⟩
theorem SlG.fm {ad : Nat → Nat} {s : Nat} {R : Nat → Prop} {g g1 : Hg} (hf : FM ad R g g1) (n : ∀ r, 20010 ≤ r → r ≤ 20013 → ¬ R r) : SlG ad s g g1 := ⟨fun j _ => by rw [hf.I (n _ (by omega) (by omega)) (by omega)], fun j _ => by rw [hf.I (n _ (by omega) (by omega)) (by omega)], fun j _ => by rw [hf.L (n _ (by omega) (by omega)) (by omega)], fun j _ => by rw [hf.I (n _ (by omega) (by omega)) (by omega)]⟩
/-- out of SlF: STEPS told -/
theorem SlG.sf {ad : Nat → Nat} {s : Nat} {R : Nat → Prop} {g g1 : Hg} (h : SlF ad s g g1) (hf : FM ad R g g1) (n : ¬ R 20011 ∧ ¬ R 20012) : SlG ad s g g1 := ⟨fun j hj => h.1 j (by omega), fun j _ => by rw [hf.I n.1 (by omega)], fun j _ => by rw [hf.L n.2 (by omega)], fun j hj => h.2 j hj⟩
theorem RSl.oth {g g1 : Hg} {ad : Nat → Nat} {s i : Nat} {X : ASl} (h : RSl g ad 0 i X) (hw : SlWf X) (hne : i ≠ s) (e : SlG ad s g g1) : RSl g1 ad 0 i X := by
  obtain ⟨e1, e2, e3, e4⟩ := e
  obtain ⟨⟨a1, a2⟩, ⟨b1, b2, b3, b4, b5, b6, b7⟩, c1, d1⟩ := h
  have w1 := hw.1
  have w2 := hw.2.1
  refine ⟨⟨(e1 (8 * i + 1) (by omega)).trans a1, fun j hj z hz => (e4 (8 * (256 * i + j) + z) (by omega)).trans (a2 j hj z hz)⟩, ⟨(e1 (8 * i) (by omega)).trans b1, (e1 (8 * i + 2) (by omega)).trans b2, (e1 (8 * i + 3) (by omega)).trans b3, (e1 (8 * i + 4) (by omega)).trans b4, (e1 (8 * i + 5) (by omega)).trans b5, (e1 (8 * i + 6) (by omega)).trans b6, fun hk => (e1 (8 * i + 7) (by omega)).trans (b7 hk)⟩, fun k hk => ⟨(e2 (40 * i + k) (by omega)).trans (c1 k hk).1, (e3 (40 * i + k) (by omega)).trans (c1 k hk).2⟩, fun hk => (e2 (40 * i) (by omega)).trans (d1 hk)⟩
theorem RJ.slot {S : Hs} {g g1 : Hg} {ad : Nat → Nat} {h : AHo} {kc : AKp} {R : Nat → Prop} {s : Nat} {X : ASl} (hR : RJ S g ad h kc) (hw : HoW h) (hf : FM ad R g g1) (n : ∀ r, R r → 20010 ≤ r ∧ r ≤ 20013 ∨ 20044 ≤ r) (hX : RSl g1 ad 0 s X) (ho : SlG ad s g g1) : RJ S g1 ad (setS h s X) kc := by
  obtain ⟨h1, ⟨⟨a1, a2⟩, b1, c1, d1, e1⟩, h3⟩ := hR
  have e : ∀ r, 20001 ≤ r → r ≤ 20043 → (r < 20010 ∨ 20013 < r) → g1.1 (ad r) = g.1 (ad r) ∧ g1.2.1 (ad r) = g.2.1 (ad r) := fun r r1 r2 r3 => ⟨hf.I (fun q => by have := n r q; omega) (by omega), hf.L (fun q => by have := n r q; omega) (by omega)⟩
  have e0 : ∀ k, k ≠ 49 → k ≠ 57 → k ≠ 62 → k ≠ 63 → g1.1 (ad 20000) k = g.1 (ad 20000) k := hf.2
  refine ⟨h1.fr hf.1.1, ⟨⟨(e0 1 (by omega) (by omega) (by omega) (by omega)).trans a1, fun i hi => (a2 i hi).eq (fun r r1 r2 => e r (by omega) (by omega) (by omega))⟩, fun i hi => ?_, ?_, ?_, ?_⟩, h3.eq (fun r r1 r2 => e r (by omega) (by omega) (by omega)) (fun k hk => e0 k (by omega) (by omega) (by omega) (by omega))⟩
  · show RSl g1 ad 0 i (va_up h.2.1 s X i)
    by_cases c : i = s
    · subst c; rw [va_same]; exact hX
    · rw [va_ne _ _ c]
      exact (b1 i hi).oth (hw.2.1 i hi) c ho
  · show RRd g1 ad 0 h.2.2.1.1 h.2.2.1.2
    unfold RRd RHd
    rw [(e 20014 (by omega) (by omega) (by omega)).1, (e 20015 (by omega) (by omega) (by omega)).1]
    exact c1
  · show RBl g1 ad 0 _ _ _
    unfold RBl RHd
    rw [(e 20016 (by omega) (by omega) (by omega)).1, e0 (16 + 0) (by omega) (by omega) (by omega) (by omega)]
    exact d1
  · show RWt g1 ad 0 _
    unfold RWt
    rw [(e 20018 (by omega) (by omega) (by omega)).1, (e 20019 (by omega) (by omega) (by omega)).1, (e 20020 (by omega) (by omega) (by omega)).1, (e 20021 (by omega) (by omega) (by omega)).1]
    exact e1
theorem HoW.slot {h : AHo} {s : Nat} {X : ASl} (hW : HoW h) (hX : SlWf X) : HoW (setS h s X) := by
  obtain ⟨w1, w2, w3, w4⟩ := hW
  refine ⟨w1, fun i hi => ?_, w3, w4⟩
  show SlWf (va_up h.2.1 s X i)
  by_cases c : i = s
  · subst c; rw [va_same]; exact hX
  · rw [va_ne _ _ c]; exact w2 i hi
theorem CJ.slot {B : Nat} {R : Nat → Prop} {ad ad1 : Nat → Nat} {S S1 : Hs} {g g1 : Hg} {m : Nat × Nat} {h : AHo} {kc : AKp} {s k w : Nat} {X : ASl} (hC : CJ B S g ad m h kc) (hs : s < 16) (hm : Mv R ad S g ad1 S1 g1) (n : ∀ r, R r → 2 ≤ r ∧ r ≤ 15 ∨ 400 + 4 * s ≤ r ∧ r < 404 + 4 * s) (hA : AdOk B ad1 S1) (hp : ad1 (400 + 4 * s) = ad (400 + 4 * s)) (hS : ScP S1 g1 ad1) (hX : PfO S1 g1 ad1 (400 + 4 * s) X) (hg : Gw ad S ad1 S1 (400 + 4 * s) k w) : CJ B S1 g1 ad1 m (setS h s X) kc ∧ 4 * k + phi S1 ad1 m kc ≤ phi S ad m kc ∧ w + phi S1 ad1 m kc ≤ phi S ad m kc ∧ ad1 0 = ad 0 ∧ ad1 20000 = ad 20000 := by
  obtain ⟨⟨c0, c1⟩, ⟨c2, c3, c4⟩, ⟨d1, d2, d3, d4, d5, d6, d7⟩, c6⟩ := hC
  obtain ⟨u1, u2, u3⟩ := hg
  have t1 : w + 2 * hpL S (ad (100 + 300 + 4 * s + 3)) = 2 * hpL S1 (ad1 (100 + 300 + 4 * s + 3)) := u2
  have t2 : hpL S (ad (100 + 300 + 4 * s + 3)) ≤ 2048 := (d4 s hs).2.1.le.2
  have t3 : hpL S1 (ad1 (100 + 300 + 4 * s + 3)) ≤ 2048 := hX.1.le.2
  have hph : phS S1 ad1 100 + (4096 - 2 * hpL S (ad (100 + 300 + 4 * s + 3))) = phS S ad 100 + (4096 - 2 * hpL S1 (ad1 (100 + 300 + 4 * s + 3))) := sumS_ch (f := fun i => 4096 - 2 * hpL S (ad (100 + 300 + 4 * i + 3))) (f1 := fun i => 4096 - 2 * hpL S1 (ad1 (100 + 300 + 4 * i + 3))) (s := s) 16 hs (fun i hi hne => by
    show 4096 - 2 * hpL S1 (ad1 (100 + 300 + 4 * i + 3)) = 4096 - 2 * hpL S (ad (100 + 300 + 4 * i + 3))
    rw [hm.len (fun q => by have := n _ q; omega)])
  have hphi : phi S1 ad1 m kc + w = phi S ad m kc := by
    unfold phi phH
    rw [phK_mv hm (fun r r1 r2 q => by have := n r q; omega), show hpL S1 (ad1 23) = hpL S (ad 23) from hm.len (fun q => by have := n _ q; omega)]
    omega
  refine ⟨⟨⟨hA, by omega⟩, ⟨hS, c3.mv hm (fun r r1 r2 q => by have := n r q; omega), c4.mv hm (fun r r1 r2 q => by have := n r q; omega)⟩, ⟨d1.mv hm (fun r r1 r2 q => by have := n r q; omega), d2.mv hm (fun q => by have := n _ q; omega), d3.mv hm (fun r r1 q => by have := n r q; omega), fun i hi => ?_, d5.mv hm (fun r r1 q => by have := n r q; omega), d6.mv hm (fun r r1 q => by have := n r q; omega), d7.mv hm (fun r r1 q => by have := n r q; omega)⟩, c6.mv hm (fun r r1 q => by have := n r q; omega)⟩, by omega, by omega, hm.ad (fun q => by have := n _ q; omega), hm.ad (fun q => by have := n _ q; omega)⟩
  obtain ⟨f1, f2⟩ := d4 i hi
  by_cases c : i = s
  · subst c
    refine ⟨(hm.R (r := 102) (fun q => by have := n _ q; omega) i).trans (f1.trans (by rw [show ad (100 + 300 + 4 * i) = ad1 (100 + 300 + 4 * i) from hp.symm])), ?_⟩
    show PfO S1 g1 ad1 (100 + 300 + 4 * i) (va_up h.2.1 i X i)
    rw [va_same]; exact hX
  · refine ⟨hm.P (fun q => by have := n _ q; omega) (fun q => by have := n _ q; omega) f1, ?_⟩
    show PfO S1 g1 ad1 (100 + 300 + 4 * i) (va_up h.2.1 s X i)
    rw [va_ne _ _ c]
    exact f2.mv hm (fun r r1 r2 q => by have := n r q; omega)
/-- the same where nothing is made -/
theorem CJ.slotN {B : Nat} {R : Nat → Prop} {ad : Nat → Nat} {S : Hs} {g g1 : Hg} {m : Nat × Nat} {h : AHo} {kc : AKp} {s : Nat} {X : ASl} (hC : CJ B S g ad m h kc) (hs : s < 16) (hf : Fr ad R g g1) (n : ∀ r, R r → 2 ≤ r ∧ r ≤ 15 ∨ 400 + 4 * s ≤ r ∧ r < 404 + 4 * s) (hX : PfO S g1 ad (400 + 4 * s) X) : CJ B S g1 ad m (setS h s X) kc := (hC.slot hs (Mv.fr hf) n hC.1.1 rfl (hC.sc.fr hf.1) hX Gw.rf).1
theorem begX_wf : SlWf (begX 0 0 0) := ⟨by decide, by decide, Or.inl ⟨rfl, rfl, rfl⟩⟩
theorem t_drop {B N : Nat} (hN : 40000 ≤ N) {S : Hs} {g : Hg} {ad : Nat → Nat} {m : Nat × Nat} {h : AHo} {kc : AKp} (hJ : Jn B S g ad m h kc) (x1 : Int32) : StN B S g ad m kc (fun g => f_X11_drop N S g (ad 0) x1) (fun g => f_X12_drop N S g (ad 20000) x1) := by
  obtain ⟨hC, hR, hW, hK⟩ := id hJ
  have h6 := hW.1
  have hI := hC.inj
  have nl := hR.nl
  have bad : x1 < 0 ∨ nI 16 ≤ x1 → StN B S g ad m kc (fun g => f_X11_drop N S g (ad 0) x1) (fun g => f_X12_drop N S g (ad 20000) x1) := fun hx => by
    refine StN.same hJ (r := NEG) ?_ ?_
    · show b_X11_drop_0 N S g _ _ = _
      unfold b_X11_drop_0
      rw [hC.p3, nn_S, c_slotAtF hx, c2_S, on_N]
      rfl
    · show b_X12_drop_0 N S g _ _ = _
      unfold b_X12_drop_0
      rw [m_isSlotF hx, c2_S, if_pos z00]
      rfl
  rcases pk_ix x1 (show 16 < 2 ^ 31 by decide) with c | c | ⟨s, hs, rfl⟩
  · exact bad (Or.inl c)
  · exact bad (Or.inr c)
  · have hO := hC.pfo hs
    have hX := hR.sl hs
    have v5 : g.1 (ad (400 + 4 * s)) 5 = (h.2.1 s).1.1 := hO.2.1.1.2.2.1
    obtain ⟨g1, a1, a2, a3⟩ := c_begin (N := N) hI (0 : Int32) (0 : Int32) (0 : Int32) hO.1
    have hR1 := hR.fr a2 (fun r hr => by omega)
    have hX1 := hR1.sl hs
    obtain ⟨r, b1, b2, ⟨b3, b4, b5, b6⟩, b7⟩ := m_begin hN hI hs (0 : Int32) (0 : Int32) (0 : Int32) (0 : Int32) hR1.1
    have f2 : Fr ad (fun r => r = 20010) g1 (rowI g1 (ad 20010) r) := Fr.row hI rfl
    have e2 : (rowI g1 (ad 20010) r).1 (ad 20010) = r := rowI_same _ _ _
    have hG : SlG ad s g1 (rowI g1 (ad 20010) r) := ⟨fun j hj => by rw [e2]; exact b2 j hj, fun j _ => by rw [f2.I (by omega)], fun j _ => by rw [f2.L (by omega)], fun j _ => by rw [f2.I (by omega)]⟩
    have hX2 : RSl (rowI g1 (ad 20010) r) ad 0 s (begX 0 0 0) := by
      refine ⟨⟨?_, fun i hi => absurd hi (by show ¬ i < 0; omega)⟩, ⟨?_, ?_, ?_, ?_, ?_, ?_, fun hk => absurd hk (by decide)⟩, fun k hk => absurd hk (by show ¬ k < 0; omega), fun hk => absurd hk (by decide)⟩
      · exact (congrFun e2 _).trans (b7 1 (by omega))
      · exact (congrFun e2 _).trans b3
      · exact (congrFun e2 _).trans b4
      · exact (congrFun e2 _).trans b5
      · exact (congrFun e2 _).trans b6
      · exact (congrFun e2 _).trans (b7 5 (by omega))
      · exact (congrFun e2 _).trans (b7 6 (by omega))
    refine ⟨(h.2.1 s).1.1, g1, rowI g1 (ad 20010) r, setS h s (begX 0 0 0), ?_, ?_, (hC.slotN hs a2 (fun r hr => by omega) a3).fr f2 (fun r hr => by omega), hR1.slot hW (FM.fr f2 (by omega)) (fun r hr => by omega) hX2 hG, hW.slot begX_wf, hK⟩
    · show b_X11_drop_0 N S g _ _ = _
      unfold b_X11_drop_0
      rw [hC.p3, nn_S, hC.slotAt hs, c2_S, on_S, nm_D, rdI_def, v5, a1, c2_S]
    · have p9 : rdR _ (ad 20000) 9 = some (ad 20010) := hR1.1.p 9 (by decide)
      have l9 : hpL _ (ad 20010) = 128 := hR1.1.l 9 (by decide) rfl
      have v0 : g1.1 (ad 20010) (8 * s) = (h.2.1 s).1.1 := hX1.2.1.1
      show b_X12_drop_0 N S g1 _ _ = _
      unfold b_X12_drop_0
      rw [m_isSlotT hs, c2_S, if_neg z10]
      simp (disch := (first | assumption | omega | (apply Inj.ne <;> first | assumption | omega) | fail)) only [nn_S, nm_D, ck_T, c2_S, on_N, on_S, lit, mNEG, nI_add, pk_mul, inb_nI, nI_clamp, wrI_row, wrL_row, rdR_rowI, rdR_rowL, rdI_def, rdL_def, rowI_same, rowI_ne, rowI_rowI, rowL_same, rowL_ne, rowL_1, rowI_21, upd_same, upd_ne, nI_le_T, nI_le_F, nI_lt_T, nI_lt_F, nI_eq_F, nI_NEG, NEG_lt0, nI_p, eq_self, if_true, if_false, p9, l9, v0]
      rw [show f_X12_begin N S g1 (ad 20000) (nI s) (nI 0) (nI 0) (nI 0) (nI 0) = _ from b1, c2_S]
/-- a STEP bent -/
def bendX (X : ASl) (t j : Nat) (mask : Int32) : ASl := (X.1, X.2.1, X.2.2.1, va_up X.2.2.2 t (upd (X.2.2.2 t) j (X.2.2.2 t j ^^^ mask)))
theorem m_isStepS {N : Nat} {S : Hs} {g : Hg} {a : Nat} {x y z : Int32} (hx : x < 0 ∨ nI 16 ≤ x) : f_X12_isStep N S g a x y z = some (nI 0, g) := by
  show b_X12_isStep_0 N S g _ _ _ _ = _
  unfold b_X12_isStep_0
  rw [m_isSlotF hx, c2_S, if_pos z00]
  rfl
theorem m_isStepF {N : Nat} {S : Hs} {g : Hg} {ad : Nat → Nat} {s : Nat} {X : ASl} {y z : Int32} (hs : s < 16) (hR : RfP S g ad) (hX : RSt g ad 0 s X) (hy : y < 0 ∨ nI X.2.2.1 ≤ y) : f_X12_isStep N S g (ad 20000) (nI s) y z = some (nI 0, g) := by
  have p9 : rdR _ (ad 20000) 9 = some (ad 20010) := hR.p 9 (by decide)
  have l9 : hpL _ (ad 20010) = 128 := hR.l 9 (by decide) rfl
  have v1 : g.1 (ad 20010) (8 * s + 1) = nI X.2.2.1 := hX.1
  show b_X12_isStep_0 N S g _ _ _ _ = _
  unfold b_X12_isStep_0
  rw [m_isSlotT hs, c2_S, if_neg z10]
  by_cases c : y < 0
  · rw [if_pos c]; rfl
  · rw [if_neg c]
    simp (disch := (first | assumption | omega | (apply Inj.ne <;> first | assumption | omega) | fail)) only [nn_S, nm_D, ck_T, c2_S, on_N, on_S, lit, mNEG, nI_add, pk_mul, inb_nI, nI_clamp, wrI_row, wrL_row, rdR_rowI, rdR_rowL, rdI_def, rdL_def, rowI_same, rowI_ne, rowI_rowI, rowL_same, rowL_ne, rowL_1, rowI_21, upd_same, upd_ne, nI_le_T, nI_le_F, nI_lt_T, nI_lt_F, nI_eq_F, nI_NEG, NEG_lt0, nI_p, eq_self, if_true, if_false, p9, l9, v1]
    rw [if_pos (hy.resolve_left c)]
theorem m_isStepJ {N : Nat} {S : Hs} {g : Hg} {ad : Nat → Nat} {s t : Nat} {X : ASl} {z : Int32} (hs : s < 16) (hR : RfP S g ad) (hX : RSt g ad 0 s X) (ht : t < X.2.2.1) (h2 : X.2.2.1 ≤ 256) (hz : z < 0 ∨ nI 8 ≤ z) : f_X12_isStep N S g (ad 20000) (nI s) (nI t) z = some (nI 0, g) := by
  have p9 : rdR _ (ad 20000) 9 = some (ad 20010) := hR.p 9 (by decide)
  have l9 : hpL _ (ad 20010) = 128 := hR.l 9 (by decide) rfl
  have v1 : g.1 (ad 20010) (8 * s + 1) = nI X.2.2.1 := hX.1
  show b_X12_isStep_0 N S g _ _ _ _ = _
  unfold b_X12_isStep_0
  rw [m_isSlotT hs, c2_S, if_neg z10]
  simp (disch := (first | assumption | omega | (apply Inj.ne <;> first | assumption | omega) | fail)) only [nn_S, nm_D, ck_T, c2_S, on_N, on_S, lit, mNEG, nI_add, pk_mul, inb_nI, nI_clamp, wrI_row, wrL_row, rdR_rowI, rdR_rowL, rdI_def, rdL_def, rowI_same, rowI_ne, rowI_rowI, rowL_same, rowL_ne, rowL_1, rowI_21, upd_same, upd_ne, nI_le_T, nI_le_F, nI_lt_T, nI_lt_F, nI_eq_F, nI_NEG, NEG_lt0, nI_p, eq_self, if_true, if_false, p9, l9, v1]
  have hz' : z < nI 0 ∨ nI 8 ≤ z := hz
  by_cases c : z < nI 0
  · rw [if_pos c]
  · rw [if_neg c, if_pos (hz'.resolve_left c)]
theorem m_isStepT {N : Nat} {S : Hs} {g : Hg} {ad : Nat → Nat} {s t j : Nat} {X : ASl} (hs : s < 16) (hR : RfP S g ad) (hX : RSt g ad 0 s X) (ht : t < X.2.2.1) (h2 : X.2.2.1 ≤ 256) (hj : j < 8) : f_X12_isStep N S g (ad 20000) (nI s) (nI t) (nI j) = some (nI 1, g) := by
  have p9 : rdR _ (ad 20000) 9 = some (ad 20010) := hR.p 9 (by decide)
  have l9 : hpL _ (ad 20010) = 128 := hR.l 9 (by decide) rfl
  have v1 : g.1 (ad 20010) (8 * s + 1) = nI X.2.2.1 := hX.1
  show b_X12_isStep_0 N S g _ _ _ _ = _
  unfold b_X12_isStep_0
  rw [m_isSlotT hs, c2_S, if_neg z10]
  simp (disch := (first | assumption | omega | (apply Inj.ne <;> first | assumption | omega) | fail)) only [nn_S, nm_D, ck_T, c2_S, on_N, on_S, lit, mNEG, nI_add, pk_mul, inb_nI, nI_clamp, wrI_row, wrL_row, rdR_rowI, rdR_rowL, rdI_def, rdL_def, rowI_same, rowI_ne, rowI_rowI, rowL_same, rowL_ne, rowL_1, rowI_21, upd_same, upd_ne, nI_le_T, nI_le_F, nI_lt_T, nI_lt_F, nI_eq_F, nI_NEG, NEG_lt0, nI_p, eq_self, if_true, if_false, p9, l9, v1]
theorem t_step {B N : Nat} (hN : 40000 ≤ N) {S : Hs} {g : Hg} {ad : Nat → Nat} {m : Nat × Nat} {h : AHo} {kc : AKp} (hJ : Jn B S g ad m h kc) (x1 : Int32) (x2 : Int32) (x3 : Int32) : StN B S g ad m kc (fun g => f_X11_step N S g (ad 0) x1 x2 x3) (fun g => f_X12_step_ N S g (ad 20000) x1 x2 x3) := by
  obtain ⟨hC, hR, hW, hK⟩ := id hJ
  have h6 := hW.1
  have hI := hC.inj
  have nl := hR.nl
  have bad : ∀ (y1 y2 y3 : Int32), f_X11_step N S g (ad 0) y1 y2 y3 = some (nI 0, g) → f_X12_isStep N S g (ad 20000) y1 y2 y3 = some (nI 0, g) → StN B S g ad m kc (fun g => f_X11_step N S g (ad 0) y1 y2 y3) (fun g => f_X12_step_ N S g (ad 20000) y1 y2 y3) := fun y1 y2 y3 e1 e2 => by
    refine StN.same hJ (r := nI 0) e1 ?_
    show b_X12_step__0 N S g _ _ _ _ = _
    unfold b_X12_step__0
    rw [e2, c2_S, if_pos z00]
    rfl
  have badS : x1 < 0 ∨ nI 16 ≤ x1 → StN B S g ad m kc (fun g => f_X11_step N S g (ad 0) x1 x2 x3) (fun g => f_X12_step_ N S g (ad 20000) x1 x2 x3) := fun hx => by
    refine bad x1 x2 x3 ?_ (m_isStepS hx)
    show b_X11_step_0 N S g _ _ _ _ = _
    unfold b_X11_step_0
    rw [hC.p3, nn_S, c_slotAtF hx, c2_S, on_N]
    rfl
  rcases pk_ix x1 (show 16 < 2 ^ 31 by decide) with c | c | ⟨s, hs, rfl⟩
  · exact badS (Or.inl c)
  · exact badS (Or.inr c)
  · have hO := hC.pfo hs
    have hX := hR.sl hs
    have h2 : (h.2.1 s).2.2.1 ≤ 256 := (hW.2.1 s hs).2.1
    have badT : x2 < 0 ∨ nI (h.2.1 s).2.2.1 ≤ x2 → StN B S g ad m kc (fun g => f_X11_step N S g (ad 0) (nI s) x2 x3) (fun g => f_X12_step_ N S g (ad 20000) (nI s) x2 x3) := fun hx => by
      refine bad (nI s) x2 x3 ?_ (m_isStepF hs hR.1 hX.1 hx)
      show b_X11_step_0 N S g _ _ _ _ = _
      unfold b_X11_step_0
      rw [hC.p3, nn_S, hC.slotAt hs, c2_S, on_S, c_hasStepF hO hx, c2_S, if_pos z00]
      rfl
    rcases pk_ix x2 (show (h.2.1 s).2.2.1 < 2 ^ 31 by omega) with c | c | ⟨t, ht, rfl⟩
    · exact badT (Or.inl c)
    · exact badT (Or.inr c)
    · have badJ : x3 < 0 ∨ nI 8 ≤ x3 → StN B S g ad m kc (fun g => f_X11_step N S g (ad 0) (nI s) (nI t) x3) (fun g => f_X12_step_ N S g (ad 20000) (nI s) (nI t) x3) := fun hx => by
        refine bad (nI s) (nI t) x3 ?_ (m_isStepJ hs hR.1 hX.1 ht h2 hx)
        show b_X11_step_0 N S g _ _ _ _ = _
        unfold b_X11_step_0
        rw [hC.p3, nn_S, hC.slotAt hs, c2_S, on_S, c_hasStepT hO ht h2, c2_S, if_neg z10, c_placeF hx, c2_S, if_pos z00]
        rfl
      rcases pk_ix x3 (show 8 < 2 ^ 31 by decide) with c | c | ⟨j, hj, rfl⟩
      · exact badJ (Or.inl c)
      · exact badJ (Or.inr c)
      · have hst := m_isStepT (N := N) (S := S) hs hR.1 hX.1 ht h2 hj
        have hp2 : rdR g (ad (400 + 4 * s)) 2 = some (ad (400 + 4 * s + 3)) := hO.1.2.2.1
        have hlen : 8 * (h.2.1 s).2.2.1 ≤ hpL S (ad (400 + 4 * s + 3)) := hO.2.2
        have hle := hO.1.le.2
        have vc : g.1 (ad (400 + 4 * s + 3)) (t * 8 + j) = (h.2.1 s).2.2.2 t j := by
          rw [show t * 8 + j = 8 * t + j by omega]
          exact hO.2.1.2.2 t ht j hj
        have p12 : rdR _ (ad 20000) 12 = some (ad 20013) := hR.1.p 12 (by decide)
        have l12 : hpL _ (ad 20013) = 32768 := hR.1.l 12 (by decide) rfl
        have vr : g.1 (ad 20013) (8 * (256 * s + t) + j) = (h.2.1 s).2.2.2 t j := hX.1.2 t ht j hj
        refine StN.same hJ (r := (h.2.1 s).2.2.2 t j) ?_ ?_
        · show b_X11_step_0 N S g _ _ _ _ = _
          unfold b_X11_step_0
          rw [hC.p3, nn_S, hC.slotAt hs, c2_S, on_S, c_hasStepT hO ht h2, c2_S, if_neg z10, c_place hj, c2_S, if_neg z10, hp2, nn_S]
          simp (disch := (first | assumption | omega | (apply Inj.ne <;> first | assumption | omega) | fail)) only [nn_S, nm_D, ck_T, c2_S, on_N, on_S, lit, mNEG, nI_add, pk_mul, inb_nI, nI_clamp, wrI_row, wrL_row, rdR_rowI, rdR_rowL, rdI_def, rdL_def, rowI_same, rowI_ne, rowI_rowI, rowL_same, rowL_ne, rowL_1, rowI_21, upd_same, upd_ne, nI_le_T, nI_le_F, nI_lt_T, nI_lt_F, nI_eq_F, nI_NEG, NEG_lt0, nI_p, eq_self, if_true, if_false, vc]
        · show b_X12_step__0 N S g _ _ _ _ = _
          unfold b_X12_step__0
          rw [hst, c2_S, if_neg z10]
          simp (disch := (first | assumption | omega | (apply Inj.ne <;> first | assumption | omega) | fail)) only [nn_S, nm_D, ck_T, c2_S, on_N, on_S, lit, mNEG, nI_add, pk_mul, inb_nI, nI_clamp, wrI_row, wrL_row, rdR_rowI, rdR_rowL, rdI_def, rdL_def, rowI_same, rowI_ne, rowI_rowI, rowL_same, rowL_ne, rowL_1, rowI_21, upd_same, upd_ne, nI_le_T, nI_le_F, nI_lt_T, nI_lt_F, nI_eq_F, nI_NEG, NEG_lt0, nI_p, eq_self, if_true, if_false, p12, l12, vr]
theorem t_bend {B N : Nat} (hN : 40000 ≤ N) {S : Hs} {g : Hg} {ad : Nat → Nat} {m : Nat × Nat} {h : AHo} {kc : AKp} (hJ : Jn B S g ad m h kc) (x1 : Int32) (x2 : Int32) (x3 : Int32) (x4 : Int32) : StN B S g ad m kc (fun g => f_X11_bend N S g (ad 0) x1 x2 x3 x4) (fun g => f_X12_bend N S g (ad 20000) x1 x2 x3 x4) := by
  obtain ⟨hC, hR, hW, hK⟩ := id hJ
  have h6 := hW.1
  have hI := hC.inj
  have nl := hR.nl
  have bad : ∀ (y1 y2 y3 : Int32), f_X11_bend N S g (ad 0) y1 y2 y3 x4 = some (nI 0, g) → f_X12_isStep N S g (ad 20000) y1 y2 y3 = some (nI 0, g) → StN B S g ad m kc (fun g => f_X11_bend N S g (ad 0) y1 y2 y3 x4) (fun g => f_X12_bend N S g (ad 20000) y1 y2 y3 x4) := fun y1 y2 y3 e1 e2 => by
    refine StN.same hJ (r := nI 0) e1 ?_
    show b_X12_bend_0 N S g _ _ _ _ _ = _
    unfold b_X12_bend_0
    rw [e2, c2_S, if_pos z00]
    rfl
  have badS : x1 < 0 ∨ nI 16 ≤ x1 → StN B S g ad m kc (fun g => f_X11_bend N S g (ad 0) x1 x2 x3 x4) (fun g => f_X12_bend N S g (ad 20000) x1 x2 x3 x4) := fun hx => by
    refine bad x1 x2 x3 ?_ (m_isStepS hx)
    show b_X11_bend_0 N S g _ _ _ _ _ = _
    unfold b_X11_bend_0
    rw [hC.p3, nn_S, c_slotAtF hx, c2_S, on_N]
    rfl
  rcases pk_ix x1 (show 16 < 2 ^ 31 by decide) with c | c | ⟨s, hs, rfl⟩
  · exact badS (Or.inl c)
  · exact badS (Or.inr c)
  · have hO := hC.pfo hs
    have hX := hR.sl hs
    have h2 : (h.2.1 s).2.2.1 ≤ 256 := (hW.2.1 s hs).2.1
    have badT : x2 < 0 ∨ nI (h.2.1 s).2.2.1 ≤ x2 → StN B S g ad m kc (fun g => f_X11_bend N S g (ad 0) (nI s) x2 x3 x4) (fun g => f_X12_bend N S g (ad 20000) (nI s) x2 x3 x4) := fun hx => by
      refine bad (nI s) x2 x3 ?_ (m_isStepF hs hR.1 hX.1 hx)
      show b_X11_bend_0 N S g _ _ _ _ _ = _
      unfold b_X11_bend_0
      rw [hC.p3, nn_S, hC.slotAt hs, c2_S, on_S, c_hasStepF hO hx, c2_S, if_pos z00]
      rfl
    rcases pk_ix x2 (show (h.2.1 s).2.2.1 < 2 ^ 31 by omega) with c | c | ⟨t, ht, rfl⟩
    · exact badT (Or.inl c)
    · exact badT (Or.inr c)
    · have badJ : x3 < 0 ∨ nI 8 ≤ x3 → StN B S g ad m kc (fun g => f_X11_bend N S g (ad 0) (nI s) (nI t) x3 x4) (fun g => f_X12_bend N S g (ad 20000) (nI s) (nI t) x3 x4) := fun hx => by
        refine bad (nI s) (nI t) x3 ?_ (m_isStepJ hs hR.1 hX.1 ht h2 hx)
        show b_X11_bend_0 N S g _ _ _ _ _ = _
        unfold b_X11_bend_0
        rw [hC.p3, nn_S, hC.slotAt hs, c2_S, on_S, c_hasStepT hO ht h2, c2_S, if_neg z10, c_placeF hx, c2_S, if_pos z00]
        rfl
      rcases pk_ix x3 (show 8 < 2 ^ 31 by decide) with c | c | ⟨j, hj, rfl⟩
      · exact badJ (Or.inl c)
      · exact badJ (Or.inr c)
      · have hst := m_isStepT (N := N) (S := S) hs hR.1 hX.1 ht h2 hj
        have hp2 : rdR g (ad (400 + 4 * s)) 2 = some (ad (400 + 4 * s + 3)) := hO.1.2.2.1
        have hlen : 8 * (h.2.1 s).2.2.1 ≤ hpL S (ad (400 + 4 * s + 3)) := hO.2.2
        have hle := hO.1.le.2
        have vc : g.1 (ad (400 + 4 * s + 3)) (t * 8 + j) = (h.2.1 s).2.2.2 t j := by
          rw [show t * 8 + j = 8 * t + j by omega]
          exact hO.2.1.2.2 t ht j hj
        have p12 : rdR _ (ad 20000) 12 = some (ad 20013) := hR.1.p 12 (by decide)
        have l12 : hpL _ (ad 20013) = 32768 := hR.1.l 12 (by decide) rfl
        have vr : g.1 (ad 20013) (8 * (256 * s + t) + j) = (h.2.1 s).2.2.2 t j := hX.1.2 t ht j hj
        have hI' := hI
        let v := (h.2.1 s).2.2.2 t j ^^^ x4
        let X1 := bendX (h.2.1 s) t j x4
        let g1 : Hg := rowI g (ad (400 + 4 * s + 3)) (upd (g.1 (ad (400 + 4 * s + 3))) (t * 8 + j) v)
        have f1 : Fr ad (fun r => r = 400 + 4 * s + 3) g g1 := Fr.row hI rfl
        have e1 : g1.1 (ad (400 + 4 * s + 3)) = upd (g.1 (ad (400 + 4 * s + 3))) (t * 8 + j) v := rowI_same _ _ _
        have hO1 : PfO S g1 ad (400 + 4 * s) X1 := by
          obtain ⟨o1, ⟨o2, o3, o4⟩, o5⟩ := hO
          refine ⟨o1.fr f1.1, ⟨?_, ?_, fun z hz => ?_⟩, o5⟩
          · rw [f1.I (by omega)]; exact o2
          · rw [f1.I (by omega), f1.L (by omega)]; exact o3
          · rw [e1]
            show eq8 _ (va_up (h.2.1 s).2.2.2 t _ z)
            have hz : z < (h.2.1 s).2.2.1 := hz
            by_cases c : z = t
            · subst c
              rw [va_same]
              intro y hy
              show upd _ (z * 8 + j) v (8 * z + y) = upd _ j v y
              by_cases d : y = j
              · subst d
                rw [show z * 8 + y = 8 * z + y by omega, upd_same, upd_same]
              · rw [upd_ne _ _ (by omega), upd_ne _ _ d]
                exact o4 z hz y hy
            · rw [va_ne _ _ c]
              intro y hy
              show upd _ (t * 8 + j) v (8 * z + y) = _
              rw [upd_ne _ _ (by omega)]
              exact o4 z hz y hy
        have hR1 := hR.fr f1 (fun r hr => by omega)
        have hX1 := hR1.sl hs
        let g2 : Hg := rowI g1 (ad 20013) (upd (g1.1 (ad 20013)) (8 * (256 * s + t) + j) v)
        have f2 : Fr ad (fun r => r = 20013) g1 g2 := Fr.row hI rfl
        have e2 : g2.1 (ad 20013) = upd (g1.1 (ad 20013)) (8 * (256 * s + t) + j) v := rowI_same _ _ _
        have hG : SlG ad s g1 g2 := ⟨fun j _ => by rw [f2.I (by omega)], fun j _ => by rw [f2.I (by omega)], fun j _ => by rw [f2.L (by omega)], fun z hz => by rw [e2, upd_ne _ _ (by omega)]⟩
        have hX2 : RSl g2 ad 0 s X1 := by
          obtain ⟨⟨a1, a2⟩, b1, c1, d1⟩ := hX1
          have i0 : g2.1 (ad (20010 + 0)) = g1.1 (ad (20010 + 0)) := f2.I (by omega)
          have i1 : g2.1 (ad (20011 + 0)) = g1.1 (ad (20011 + 0)) := f2.I (by omega)
          have i2 : g2.2.1 (ad (20012 + 0)) = g1.2.1 (ad (20012 + 0)) := f2.L (by omega)
          refine ⟨⟨?_, fun z hz => ?_⟩, ?_, ?_, ?_⟩
          · rw [i0]; exact a1
          · show eq8 (seg (g2.1 (ad 20013)) _) (va_up (h.2.1 s).2.2.2 t _ z)
            rw [e2]
            have hz : z < (h.2.1 s).2.2.1 := hz
            by_cases c : z = t
            · subst c
              rw [va_same]
              intro y hy
              show upd _ (8 * (256 * s + z) + j) v (8 * (256 * s + z) + y) = upd _ j v y
              by_cases d : y = j
              · subst d
                rw [upd_same, upd_same]
              · rw [upd_ne _ _ (by omega), upd_ne _ _ d]
                exact a2 z hz y hy
            · rw [va_ne _ _ c]
              intro y hy
              show upd _ (8 * (256 * s + t) + j) v (8 * (256 * s + z) + y) = _
              rw [upd_ne _ _ (by omega)]
              exact a2 z hz y hy
          · rw [i0]; exact b1
          · rw [i1, i2]; exact c1
          · rw [i1]; exact d1
        refine ⟨nI 1, g1, g2, setS h s X1, ?_, ?_, (hC.slotN hs f1 (fun r hr => by omega) hO1).fr f2 (fun r hr => by omega), hR1.slot hW (FM.fr f2 (by omega)) (fun r hr => by omega) hX2 hG, hW.slot (hW.2.1 s hs), hK⟩
        · show b_X11_bend_0 N S g _ _ _ _ _ = _
          unfold b_X11_bend_0
          rw [hC.p3, nn_S, hC.slotAt hs, c2_S, on_S, c_hasStepT hO ht h2, c2_S, if_neg z10, c_place hj, c2_S, if_neg z10, hp2, nn_S]
          simp (disch := (first | assumption | omega | (apply Inj.ne <;> first | assumption | omega) | fail)) only [nn_S, nm_D, ck_T, c2_S, on_N, on_S, lit, mNEG, nI_add, pk_mul, inb_nI, nI_clamp, wrI_row, wrL_row, rdR_rowI, rdR_rowL, rdI_def, rdL_def, rowI_same, rowI_ne, rowI_rowI, rowL_same, rowL_ne, rowL_1, rowI_21, upd_same, upd_ne, nI_le_T, nI_le_F, nI_lt_T, nI_lt_F, nI_eq_F, nI_NEG, NEG_lt0, nI_p, eq_self, if_true, if_false, vc]
          rfl
        · have p12 : rdR _ (ad 20000) 12 = some (ad 20013) := hR1.1.p 12 (by decide)
          have vr1 : g1.1 (ad 20013) (8 * (256 * s + t) + j) = (h.2.1 s).2.2.2 t j := hX1.1.2 t ht j hj
          show b_X12_bend_0 N S g1 _ _ _ _ _ = _
          unfold b_X12_bend_0
          rw [m_isStepT hs hR1.1 hX1.1 ht h2 hj, c2_S, if_neg z10]
          simp (disch := (first | assumption | omega | (apply Inj.ne <;> first | assumption | omega) | fail)) only [nn_S, nm_D, ck_T, c2_S, on_N, on_S, lit, mNEG, nI_add, pk_mul, inb_nI, nI_clamp, wrI_row, wrL_row, rdR_rowI, rdR_rowL, rdI_def, rdL_def, rowI_same, rowI_ne, rowI_rowI, rowL_same, rowL_ne, rowL_1, rowI_21, upd_same, upd_ne, nI_le_T, nI_le_F, nI_lt_T, nI_lt_F, nI_eq_F, nI_NEG, NEG_lt0, nI_p, eq_self, if_true, if_false, p12, l12, vr1]
          rfl
