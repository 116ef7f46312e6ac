/-! watchers -/
def RW1 (g : Hg) (ad : Nat → Nat) (w : Nat) (W : AWt) : Prop := g.1 (ad 20019) w = bI W.1 ∧ (W.1 = true → (g.1 (ad 20018) (5 * w) = W.2.1.1 ∧ g.1 (ad 20018) (5 * w + 1) = W.2.1.2.1 ∧ g.1 (ad 20018) (5 * w + 2) = W.2.1.2.2 ∧ g.1 (ad 20018) (5 * w + 3) = nI W.2.2.1.1 ∧ g.1 (ad 20018) (5 * w + 4) = nI W.2.2.1.2) ∧ ∀ k, k < W.2.2.1.2 → g.1 (ad 20020) (400 * w + k) = W.2.2.2.2 k ∧ g.1 (ad 20021) (400 * w + k) = W.2.2.2.1 (W.2.2.2.2 k))
/-- the same without how far it has read -/
def RWx (g : Hg) (ad : Nat → Nat) (w : Nat) (W : AWt) : Prop := g.1 (ad 20019) w = bI W.1 ∧ (g.1 (ad 20018) (5 * w) = W.2.1.1 ∧ g.1 (ad 20018) (5 * w + 1) = W.2.1.2.1 ∧ g.1 (ad 20018) (5 * w + 2) = W.2.1.2.2 ∧ g.1 (ad 20018) (5 * w + 4) = nI W.2.2.1.2) ∧ ∀ k, k < W.2.2.1.2 → g.1 (ad 20020) (400 * w + k) = W.2.2.2.2 k ∧ g.1 (ad 20021) (400 * w + k) = W.2.2.2.1 (W.2.2.2.2 k)
def WtG (ad : Nat → Nat) (w : Nat) (g g1 : Hg) : Prop := (∀ j, j < 5 * w ∨ 5 * w + 5 ≤ j → g1.1 (ad 20018) j = g.1 (ad 20018) j) ∧ (∀ j, j ≠ w → g1.1 (ad 20019) j = g.1 (ad 20019) j) ∧ (∀ j, j < 400 * w ∨ 400 * w + 400 ≤ j → g1.1 (ad 20020) j = g.1 (ad 20020) j ∧ g1.1 (ad 20021) j = g.1 (ad 20021) j)
theorem WtG.rf {ad : Nat → Nat} {w : Nat} {g : Hg} : WtG ad w g g := ⟨fun _ _ => rfl, fun _ _ => rfl, fun _ _ => ⟨rfl, rfl⟩⟩
theorem WtG.tr {ad : Nat → Nat} {w : Nat} {g g1 g2 : Hg} (h : WtG ad w g g1) (h1 : WtG ad w g1 g2) : WtG ad w g g2 := ⟨fun j hj => (h1.1 j hj).trans (h.1 j hj), fun j hj => (h1.2.1 j hj).trans (h.2.1 j hj), fun j hj => ⟨(h1.2.2 j hj).1.trans (h.2.2 j hj).1, (h1.2.2 j hj).2.trans (h.2.2 j hj).2⟩⟩
theorem WtG.fm {ad : Nat → Nat} {w : Nat} {R : Nat → Prop} {g g1 : Hg} (hf : FM ad R g g1) (n : ∀ r, 20018 ≤ r → r ≤ 20021 → ¬ R r) : WtG ad w g g1 := ⟨fun j _ => by rw [hf.I (n _ (by omega) (by omega)) (by omega)], fun j _ => by rw [hf.I (n _ (by omega) (by omega)) (by omega)], fun j _ => ⟨by rw [hf.I (n _ (by omega) (by omega)) (by omega)], by rw [hf.I (n _ (by omega) (by omega)) (by omega)]⟩⟩
theorem RWx.fm {ad : Nat → Nat} {w : Nat} {R : Nat → Prop} {g g1 : Hg} {W : AWt} (h : RWx g ad w W) (hf : FM ad R g g1) (n : ∀ r, 20018 ≤ r → r ≤ 20021 → ¬ R r) : RWx g1 ad w W := by
  unfold RWx
  rw [hf.I (n 20018 (by omega) (by omega)) (by omega), hf.I (n 20019 (by omega) (by omega)) (by omega), hf.I (n 20020 (by omega) (by omega)) (by omega), hf.I (n 20021 (by omega) (by omega)) (by omega)]
  exact h
theorem RW1.oth {g g1 : Hg} {ad : Nat → Nat} {w i : Nat} {W : AWt} (h : RW1 g ad i W) (hc : W.1 = true → W.2.2.1.2 ≤ 400) (hne : i ≠ w) (e : WtG ad w g g1) : RW1 g1 ad i W := by
  obtain ⟨e1, e2, e3⟩ := e
  obtain ⟨a1, a2⟩ := h
  refine ⟨(e2 i hne).trans a1, fun ht => ?_⟩
  have c4 := hc ht
  obtain ⟨⟨b1, b2, b3, b4, b5⟩, b6⟩ := a2 ht
  exact ⟨⟨(e1 (5 * i) (by omega)).trans b1, (e1 (5 * i + 1) (by omega)).trans b2, (e1 (5 * i + 2) (by omega)).trans b3, (e1 (5 * i + 3) (by omega)).trans b4, (e1 (5 * i + 4) (by omega)).trans b5⟩, fun k hk => ⟨(e3 (400 * i + k) (by omega)).1.trans (b6 k hk).1, (e3 (400 * i + k) (by omega)).2.trans (b6 k hk).2⟩⟩
theorem RJ.wat {S : Hs} {g g1 : Hg} {ad : Nat → Nat} {h : AHo} {kc : AKp} {R : Nat → Prop} {w : Nat} {W : AWt} (hR : RJ S g ad h kc) (hc : ∀ i, i < 8 → (h.2.2.2.2 i).1 = true → (h.2.2.2.2 i).2.2.1.2 ≤ 400) (hf : FM ad R g g1) (n : ∀ r, R r → 20018 ≤ r ∧ r ≤ 20021 ∨ 20044 ≤ r) (hX : RW1 g1 ad w W) (ho : WtG ad w g g1) : RJ S g1 ad (setW h w W) kc := by
  obtain ⟨h1, ⟨⟨a1, a2⟩, b1, c1, d1, e1⟩, h3⟩ := hR
  have e : ∀ r, 20001 ≤ r → r ≤ 20043 → (r < 20018 ∨ 20021 < r) → g1.1 (ad r) = g.1 (ad r) ∧ g1.2.1 (ad r) = g.2.1 (ad r) := fun r r1 r2 r3 => ⟨hf.I (fun q => by have := n r q; omega) (by omega), hf.L (fun q => by have := n r q; omega) (by omega)⟩
  have e0 : ∀ k, k ≠ 49 → k ≠ 57 → k ≠ 62 → k ≠ 63 → g1.1 (ad 20000) k = g.1 (ad 20000) k := hf.2
  refine ⟨h1.fr hf.1.1, ⟨⟨(e0 1 (by omega) (by omega) (by omega) (by omega)).trans a1, fun i hi => (a2 i hi).eq (fun r r1 r2 => e r (by omega) (by omega) (by omega))⟩, ?_, ?_, ?_, fun i hi => ?_⟩, h3.eq (fun r r1 r2 => e r (by omega) (by omega) (by omega)) (fun k hk => e0 k (by omega) (by omega) (by omega) (by omega))⟩
  · show RSs g1 ad 0 h.2.1
    unfold RSs RSl RSt
    rw [(e 20010 (by omega) (by omega) (by omega)).1, (e 20011 (by omega) (by omega) (by omega)).1, (e 20012 (by omega) (by omega) (by omega)).2, (e 20013 (by omega) (by omega) (by omega)).1]
    exact b1
  · show RRd g1 ad 0 h.2.2.1.1 h.2.2.1.2
    unfold RRd RHd
    rw [(e 20014 (by omega) (by omega) (by omega)).1, (e 20015 (by omega) (by omega) (by omega)).1]
    exact c1
  · show RBl g1 ad 0 _ _ _
    unfold RBl RHd
    rw [(e 20016 (by omega) (by omega) (by omega)).1, e0 (16 + 0) (by omega) (by omega) (by omega) (by omega)]
    exact d1
  · show RW1 g1 ad i (va_up h.2.2.2.2 w W i)
    by_cases c : i = w
    · subst c; rw [va_same]; exact hX
    · rw [va_ne _ _ c]
      exact RW1.oth (e1 i hi) (hc i hi) c ho
theorem CJ.wat {B : Nat} {R : Nat → Prop} {ad : Nat → Nat} {S : Hs} {g g1 : Hg} {m : Nat × Nat} {h : AHo} {kc : AKp} {w : Nat} {W : AWt} (hC : CJ B S g ad m h kc) (hw : w < 8) (hf : Fr ad R g g1) (n : ∀ r, R r → 2 ≤ r ∧ r ≤ 15 ∨ 600 + 2 * w ≤ r ∧ r < 602 + 2 * w) (hO : WtO S g1 ad (600 + 2 * w) (h.1.2 (wlg W)) W) : CJ B S g1 ad m (setW h w W) kc := by
  obtain ⟨c1, ⟨c2, c3, c4⟩, ⟨d1, d2, d3, d4, d5, d6, d7⟩, c6⟩ := hC
  have hm := Mv.fr (S := S) hf
  refine ⟨c1, ⟨c2.fr hf.1, c3.fr hf.1, c4.fr hf.1⟩, ⟨d1.fr hf.1, d2.fr hf (fun q => by have := n _ q; omega), d3.mv hm (fun r h q => by have := n r q; omega), d4.mv hm (fun r h q => by have := n r q; omega), d5.mv hm (fun r h q => by have := n r q; omega), d6.mv hm (fun r h q => by have := n r q; omega), fun i hi => ?_⟩, c6.fr hf (fun r r1 r2 q => by have := n r q; omega)⟩
  obtain ⟨f1, f2⟩ := d7 i hi
  refine ⟨by rw [hf.P]; exact f1, ?_⟩
  show WtO S g1 ad (100 + 500 + 2 * i) (h.1.2 (wlg (va_up h.2.2.2.2 w W i))) (va_up h.2.2.2.2 w W i)
  by_cases c : i = w
  · subst c; rw [va_same]; exact hO
  · rw [va_ne _ _ c]
    exact f2.fr hf (fun r r1 r2 q => by have := n r q; omega)
theorem HoW.wat {h : AHo} {w : Nat} {W : AWt} (hW : HoW h) (hX : WtW h W) : HoW (setW h w W) := by
  obtain ⟨w1, w2, w3, w4⟩ := hW
  refine ⟨w1, w2, w3, fun i hi => ?_⟩
  show WtW _ (va_up h.2.2.2.2 w W i)
  by_cases c : i = w
  · subst c; rw [va_same]; exact hX
  · rw [va_ne _ _ c]; exact w4 i hi
theorem Jn.wc {B : Nat} {S : Hs} {g : Hg} {ad : Nat → Nat} {m : Nat × Nat} {h : AHo} {kc : AKp} (hJ : Jn B S g ad m h kc) : ∀ i, i < 8 → (h.2.2.2.2 i).1 = true → (h.2.2.2.2 i).2.2.1.2 ≤ 400 := fun i hi ht => by
  obtain ⟨l, l1, l2, l3⟩ := hJ.2.2.1.2.2.2 i hi ht
  have a1 := l3.cnt
  have a2 := l3.1
  have a3 := (hJ.1.wf l l1).1
  omega
theorem m_isWatcherT {N : Nat} {S : Hs} {g : Hg} {a w : Nat} (hw : w < 8) : f_X12_isWatcher N S g a (nI w) = some (nI 1, g) := by
  show b_X12_isWatcher_0 N S g (nI w) = _
  unfold b_X12_isWatcher_0
  simp (disch := (first | assumption | omega | (apply Inj.ne <;> first | assumption | omega) | fail)) only [nn_S, nm_D, ck_T, c2_S, on_N, on_S, lit, mNEG, nI_add, pk_mul, inb_nI, nI_clamp, wrI_row, wrL_row, rdR_rowI, rdR_rowL, rdI_def, rdL_def, rowI_same, rowI_ne, rowI_rowI, rowL_same, rowL_ne, rowL_1, rowI_21, upd_same, upd_ne, nI_le_T, nI_le_F, nI_lt_T, nI_lt_F, nI_eq_F, nI_NEG, NEG_lt0, nI_p, eq_self, if_true, if_false]
theorem m_isWatcherF {N : Nat} {S : Hs} {g : Hg} {a : Nat} {x : Int32} (hx : x < 0 ∨ nI 8 ≤ x) : f_X12_isWatcher N S g a x = some (nI 0, g) := by
  show b_X12_isWatcher_0 N S g x = _
  unfold b_X12_isWatcher_0
  by_cases c : x < 0
  · rw [if_pos c]; rfl
  · rw [if_neg c, if_pos (show (8 : Int32) ≤ x from hx.resolve_left c)]; rfl
theorem CJ.watT {B N : Nat} {S : Hs} {g : Hg} {ad : Nat → Nat} {m : Nat × Nat} {h : AHo} {kc : AKp} {w : Nat} (hJ : CJ B S g ad m h kc) (hw : w < 8) (ht : (h.2.2.2.2 w).1 = true) : f_X1_watcherAt N S g (ad 100) (nI w) = some (some (ad (600 + 2 * w)), g) := c_watcherAtT hJ.2.2.1.1 hJ.2.2.1.2.2.2.2.2.2 hw ht
theorem CJ.watN {B N : Nat} {S : Hs} {g : Hg} {ad : Nat → Nat} {m : Nat × Nat} {h : AHo} {kc : AKp} {w : Nat} (hJ : CJ B S g ad m h kc) (hw : w < 8) (ht : (h.2.2.2.2 w).1 = false) : f_X1_watcherAt N S g (ad 100) (nI w) = some (none, g) := c_watcherAtN hJ.2.2.1.1 hJ.2.2.1.2.2.2.2.2.2 hw ht
theorem CJ.wto {B : Nat} {S : Hs} {g : Hg} {ad : Nat → Nat} {m : Nat × Nat} {h : AHo} {kc : AKp} {w : Nat} (hJ : CJ B S g ad m h kc) (hw : w < 8) : rdR g (ad 107) w = some (ad (600 + 2 * w)) ∧ WtO S g ad (600 + 2 * w) (h.1.2 (wlg (h.2.2.2.2 w))) (h.2.2.2.2 w) := hJ.2.2.1.2.2.2.2.2.2 w hw
theorem RJ.wt {S : Hs} {g : Hg} {ad : Nat → Nat} {h : AHo} {kc : AKp} {w : Nat} (hR : RJ S g ad h kc) (hw : w < 8) : RW1 g ad w (h.2.2.2.2 w) := hR.2.1.2.2.2.2 w hw
theorem wlg_eq {W : AWt} {l : Nat} (hl : l < 2 ^ 31) (e : W.2.1.1 = nI l) : wlg W = l := by
  unfold wlg
  rw [e, nI_clamp hl]
theorem t_watching {B N : Nat} (hN : 40000 ≤ N) {S : Hs} {g : Hg} {ad : Nat → Nat} {m : Nat × Nat} {h : AHo} {kc : AKp} (hJ : Jn B S g ad m h kc) (x1 : Int32) (x2 : Int32) : StN B S g ad m kc (fun g => f_X11_watching N S g (ad 0) x1 x2) (fun g => f_X12_watching N S g (ad 20000) x1 x2) := by
  obtain ⟨hC, hR, hW, hK⟩ := id hJ
  have h6 := hW.1
  have hI := hC.inj
  have nl := hR.nl
  have none_ : ∀ y, f_X1_watcherAt N S g (ad 100) y = some (none, g) → f_X12_watching N S g (ad 20000) y x2 = some (NEG, g) → StN B S g ad m kc (fun g => f_X11_watching N S g (ad 0) y x2) (fun g => f_X12_watching N S g (ad 20000) y x2) := fun y e1 e2 => by
    refine StN.same hJ (r := NEG) ?_ e2
    show b_X11_watching_0 N S g _ _ _ = _
    unfold b_X11_watching_0
    rw [hC.p3, nn_S, e1, c2_S, on_N]
    rfl
  have bad : x1 < 0 ∨ nI 8 ≤ x1 → StN B S g ad m kc (fun g => f_X11_watching N S g (ad 0) x1 x2) (fun g => f_X12_watching N S g (ad 20000) x1 x2) := fun hx => none_ x1 (c_watcherAtF hx) (by
    show b_X12_watching_0 N S g _ _ _ = _
    unfold b_X12_watching_0
    rw [m_isWatcherF hx, c2_S, if_pos z00]
    rfl)
  rcases pk_ix x1 (show 8 < 2 ^ 31 by decide) with c | c | ⟨w, hw, rfl⟩
  · exact bad (Or.inl c)
  · exact bad (Or.inr c)
  have hX := hR.wt hw
  have hO := (hC.wto hw).2
  have p17 : rdR _ (ad 20000) 17 = some (ad 20018) := hR.1.p 17 (by decide)
  have l17 : hpL _ (ad 20018) = 40 := hR.1.l 17 (by decide) rfl
  have p18 : rdR _ (ad 20000) 18 = some (ad 20019) := hR.1.p 18 (by decide)
  have l18 : hpL _ (ad 20019) = 8 := hR.1.l 18 (by decide) rfl
  have vh := hX.1
  cases ht : (h.2.2.2.2 w).1 with
  | false =>
    rw [ht] at vh
    refine none_ (nI w) (hC.watN hw ht) ?_
    show b_X12_watching_0 N S g _ _ _ = _
    unfold b_X12_watching_0
    rw [m_isWatcherT hw, c2_S, if_neg z10, p18, nn_S, l18, inb_nI hw (by decide), ck_T, nI_clamp (by omega), rdI_def, vh, if_pos (show bI false = (0 : Int32) from rfl)]
    rfl
  | true =>
    rw [ht] at vh
    obtain ⟨⟨y0, y1, y2, y3, y4⟩, _⟩ := hX.2 ht
    obtain ⟨⟨u2, u5, u6, u3, u4⟩, _⟩ := hO.2.2 ht
    have hcl : ∀ k, (nm x2 (fun x_5 => if x_5 = 0 then some ((rdI g (ad (600 + 2 * w)) 3), g) else (if x_5 = 1 then some ((rdI g (ad (600 + 2 * w)) 4), g) else (if x_5 = 2 then some ((rdI g (ad (600 + 2 * w)) 2), g) else some ((-1 : Int32), g)))) = k) → f_X11_watching N S g (ad 0) (nI w) x2 = k := fun k hk => by
      show b_X11_watching_0 N S g _ _ _ = _
      unfold b_X11_watching_0
      rw [hC.p3, nn_S, hC.watT hw ht, c2_S, on_S]
      exact hk
    have hrf : ∀ k, (if x2 = 0 then nn (rdR g (ad 20000) 17) (fun a_11 => ck (inb (((5 : Int32) * nI w) + (3 : Int32)) (hpL S a_11)) (some ((rdI g a_11 (((5 : Int32) * nI w) + (3 : Int32)).toNatClampNeg), g))) else (if x2 = (1 : Int32) then nn (rdR g (ad 20000) 17) (fun a_10 => ck (inb (((5 : Int32) * nI w) + (4 : Int32)) (hpL S a_10)) (some ((rdI g a_10 (((5 : Int32) * nI w) + (4 : Int32)).toNatClampNeg), g))) else (if x2 = (2 : Int32) then nn (rdR g (ad 20000) 17) (fun a_9 => ck (inb ((5 : Int32) * nI w) (hpL S a_9)) (some ((rdI g a_9 ((5 : Int32) * nI w).toNatClampNeg), g))) else some ((-1 : Int32), g)))) = k → f_X12_watching N S g (ad 20000) (nI w) x2 = k := fun k hk => by
      show b_X12_watching_0 N S g _ _ _ = _
      unfold b_X12_watching_0
      rw [m_isWatcherT hw, c2_S, if_neg z10, p18, nn_S, l18, inb_nI hw (by decide), ck_T, nI_clamp (by omega), rdI_def, vh, if_neg (show ¬ bI true = (0 : Int32) from z10)]
      exact hk
    by_cases d0 : x2 = 0
    · refine StN.same hJ (r := nI (h.2.2.2.2 w).2.2.1.1) (hcl _ ?_) (hrf _ ?_)
      · rw [nm_D, if_pos d0, rdI_def, u3]
      · rw [if_pos d0]
        simp (disch := (first | assumption | omega | (apply Inj.ne <;> first | assumption | omega) | fail)) only [nn_S, nm_D, ck_T, c2_S, on_N, on_S, lit, mNEG, nI_add, pk_mul, inb_nI, nI_clamp, wrI_row, wrL_row, rdR_rowI, rdR_rowL, rdI_def, rdL_def, rowI_same, rowI_ne, rowI_rowI, rowL_same, rowL_ne, rowL_1, rowI_21, upd_same, upd_ne, nI_le_T, nI_le_F, nI_lt_T, nI_lt_F, nI_eq_F, nI_NEG, NEG_lt0, nI_p, eq_self, if_true, if_false, p17, l17, y3]
    by_cases d1 : x2 = 1
    · refine StN.same hJ (r := nI (h.2.2.2.2 w).2.2.1.2) (hcl _ ?_) (hrf _ ?_)
      · rw [nm_D, if_neg d0, if_pos d1, rdI_def, u4]
      · rw [if_neg d0, if_pos d1]
        simp (disch := (first | assumption | omega | (apply Inj.ne <;> first | assumption | omega) | fail)) only [nn_S, nm_D, ck_T, c2_S, on_N, on_S, lit, mNEG, nI_add, pk_mul, inb_nI, nI_clamp, wrI_row, wrL_row, rdR_rowI, rdR_rowL, rdI_def, rdL_def, rowI_same, rowI_ne, rowI_rowI, rowL_same, rowL_ne, rowL_1, rowI_21, upd_same, upd_ne, nI_le_T, nI_le_F, nI_lt_T, nI_lt_F, nI_eq_F, nI_NEG, NEG_lt0, nI_p, eq_self, if_true, if_false, p17, l17, y4]
    by_cases d2 : x2 = 2
    · refine StN.same hJ (r := (h.2.2.2.2 w).2.1.1) (hcl _ ?_) (hrf _ ?_)
      · rw [nm_D, if_neg d0, if_neg d1, if_pos d2, rdI_def, u2]
      · rw [if_neg d0, if_neg d1, if_pos d2]
        simp (disch := (first | assumption | omega | (apply Inj.ne <;> first | assumption | omega) | fail)) only [nn_S, nm_D, ck_T, c2_S, on_N, on_S, lit, mNEG, nI_add, pk_mul, inb_nI, nI_clamp, wrI_row, wrL_row, rdR_rowI, rdR_rowL, rdI_def, rdL_def, rowI_same, rowI_ne, rowI_rowI, rowL_same, rowL_ne, rowL_1, rowI_21, upd_same, upd_ne, nI_le_T, nI_le_F, nI_lt_T, nI_lt_F, nI_eq_F, nI_NEG, NEG_lt0, nI_p, eq_self, if_true, if_false, p17, l17, y0]
    refine StN.same hJ (r := NEG) (hcl _ ?_) (hrf _ ?_)
    · rw [nm_D, if_neg d0, if_neg d1, if_neg d2]; rfl
    · rw [if_neg d0, if_neg d1, if_neg d2]; rfl
theorem t_watcher {B N : Nat} (hN : 40000 ≤ N) {S : Hs} {g : Hg} {ad : Nat → Nat} {m : Nat × Nat} {h : AHo} {kc : AKp} (hJ : Jn B S g ad m h kc) (x1 : Int32) (x2 : Int32) (x3 : Int32) (x4 : Int32) : StN B S g ad m kc (fun g => f_X11_watcher N S g (ad 0) x1 x2 x3 x4) (fun g => f_X12_watcher N S g (ad 20000) x1 x2 x3 x4) := by
  obtain ⟨hC, hR, hW, hK⟩ := id hJ
  have h6 := hW.1
  have hI := hC.inj
  have nl := hR.nl
  have bad : x1 < 0 ∨ nI 8 ≤ x1 → StN B S g ad m kc (fun g => f_X11_watcher N S g (ad 0) x1 x2 x3 x4) (fun g => f_X12_watcher N S g (ad 20000) x1 x2 x3 x4) := fun hx => by
    refine StN.same hJ (r := nI 0) ?_ ?_
    · show b_X11_watcher_0 N S g _ _ _ _ _ = _
      unfold b_X11_watcher_0
      by_cases c : x1 < 0
      · rw [if_pos c]; rfl
      · rw [if_neg c, if_pos (show (8 : Int32) ≤ x1 from hx.resolve_left c)]; rfl
    · show b_X12_watcher_0 N S g _ _ _ _ _ = _
      unfold b_X12_watcher_0
      rw [m_isWatcherF hx, c2_S, if_pos z00]
      rfl
  rcases pk_ix x1 (show 8 < 2 ^ 31 by decide) with c | c | ⟨w, hw, rfl⟩
  · exact bad (Or.inl c)
  · exact bad (Or.inr c)
  have cw0 : ¬ nI w < (0 : Int32) := nI_pos (by omega)
  have cw8 : ¬ (8 : Int32) ≤ nI w := nI_ge (b := 8) hw (by decide)
  have badL : x2 < 0 ∨ nI h.1.1 ≤ x2 → StN B S g ad m kc (fun g => f_X11_watcher N S g (ad 0) (nI w) x2 x3 x4) (fun g => f_X12_watcher N S g (ad 20000) (nI w) x2 x3 x4) := fun hx => by
    refine StN.same hJ (r := nI 0) ?_ ?_
    · show b_X11_watcher_0 N S g _ _ _ _ _ = _
      unfold b_X11_watcher_0
      rw [if_neg cw0, if_neg cw8, hC.p3, nn_S, hC.logF hx, c2_S, on_N]
      rfl
    · show b_X12_watcher_0 N S g _ _ _ _ _ = _
      unfold b_X12_watcher_0
      rw [m_isWatcherT hw, c2_S, if_neg z10, m_isLogF nl hx, c2_S, if_pos z00]
      rfl
  rcases pk_ix x2 (show h.1.1 < 2 ^ 31 by omega) with c | c | ⟨l, hl, rfl⟩
  · exact badL (Or.inl c)
  · exact badL (Or.inr c)
  obtain ⟨r1, hO⟩ := hC.wto hw
  have p8 : rdR g (ad 100) 8 = some (ad 107) := hC.2.2.1.1.1.2.2.2.2.2.2
  have l8 : hpL S (ad 107) = 8 := hC.2.2.1.1.2.2.2.2.2.2.2
  obtain ⟨g1, a1, a2, a3⟩ := c_wBegin (N := N) hN hI (b := 600 + 2 * w) (h.1.2 l) (nI l) x3 x4 hO.1
  have hR1 := hR.fr a2 (fun r hr => by omega)
  have el : wlg (newW (nI l) x3 x4) = l := wlg_eq (by omega) rfl
  let g2 : Hg := rowI (rowI g1 (ad 20019) (upd (g1.1 (ad 20019)) w (nI 1))) (ad 20018) (upd (upd (upd (upd (upd (g1.1 (ad 20018)) (5 * w) (nI l)) (5 * w + 1) x3) (5 * w + 2) x4) (5 * w + 3) (nI 0)) (5 * w + 4) (nI 0))
  have f2 : Fr ad (fun r => r = 20018 ∨ r = 20019) g1 g2 := Fr.rt hI (Fr.row hI (by omega)) (by omega)
  have e1 : g2.1 (ad 20019) = upd (g1.1 (ad 20019)) w (nI 1) := by
    show (rowI (rowI g1 _ _) _ _).1 _ = _
    rw [rowI_ne _ _ (hI.ne (by decide)), rowI_same]
  have e2 : g2.1 (ad 20018) = upd (upd (upd (upd (upd (g1.1 (ad 20018)) (5 * w) (nI l)) (5 * w + 1) x3) (5 * w + 2) x4) (5 * w + 3) (nI 0)) (5 * w + 4) (nI 0) := rowI_same _ _ _
  have hX2 : RW1 g2 ad w (newW (nI l) x3 x4) := by
    refine ⟨by rw [e1, upd_same]; rfl, fun _ => ⟨⟨?_, ?_, ?_, ?_, ?_⟩, fun k hk => absurd hk (by show ¬ k < 0; omega)⟩⟩
    · rw [e2, upd_ne _ _ (by omega), upd_ne _ _ (by omega), upd_ne _ _ (by omega), upd_ne _ _ (by omega), upd_same]; rfl
    · rw [e2, upd_ne _ _ (by omega), upd_ne _ _ (by omega), upd_ne _ _ (by omega), upd_same]; rfl
    · rw [e2, upd_ne _ _ (by omega), upd_ne _ _ (by omega), upd_same]; rfl
    · rw [e2, upd_ne _ _ (by omega), upd_same]; rfl
    · rw [e2, upd_same]; rfl
  have hG : WtG ad w g1 g2 := ⟨fun j hj => by rw [e2, upd_ne _ _ (by omega), upd_ne _ _ (by omega), upd_ne _ _ (by omega), upd_ne _ _ (by omega), upd_ne _ _ (by omega)], fun j hj => by rw [e1, upd_ne _ _ hj], fun j _ => ⟨by rw [f2.I (by omega)], by rw [f2.I (by omega)]⟩⟩
  have hO1 : WtO S g1 ad (600 + 2 * w) (h.1.2 (wlg (newW (nI l) x3 x4))) (newW (nI l) x3 x4) := by rw [el]; exact a3
  refine ⟨nI 1, g1, g2, setW h w (newW (nI l) x3 x4), ?_, ?_, (hC.wat hw a2 (fun r hr => by omega) hO1).fr f2 (fun r hr => by omega), hR1.wat hJ.wc (FM.fr f2 (by omega)) (fun r hr => by omega) hX2 hG, hW.wat (fun _ => ⟨l, hl, rfl, newW_wf _ _ _ _⟩), hK⟩
  · show b_X11_watcher_0 N S g _ _ _ _ _ = _
    unfold b_X11_watcher_0
    rw [if_neg cw0, if_neg cw8, hC.p3, nn_S, hC.logAt hl, c2_S, on_S, hC.p3, nn_S, p8, nn_S, l8, inb_nI hw (by decide), ck_T, nI_clamp (by omega), r1, nn_S, a1, c2_S]
    rfl
  · have p17 : rdR _ (ad 20000) 17 = some (ad 20018) := hR1.1.p 17 (by decide)
    have l17 : hpL _ (ad 20018) = 40 := hR1.1.l 17 (by decide) rfl
    have p18 : rdR _ (ad 20000) 18 = some (ad 20019) := hR1.1.p 18 (by decide)
    have l18 : hpL _ (ad 20019) = 8 := hR1.1.l 18 (by decide) rfl
    show b_X12_watcher_0 N S g1 _ _ _ _ _ = _
    unfold b_X12_watcher_0
    rw [m_isWatcherT hw, c2_S, if_neg z10, m_isLogT hR1.nl h6 hl, c2_S, if_neg z10]
    simp (disch := (first | assumption | omega | (apply Inj.ne <;> first | assumption | omega) | fail)) only [nn_S, nm_D, ck_T, c2_S, on_N, on_S, lit, mNEG, nI_add, pk_mul, inb_nI, nI_clamp, wrI_row, wrL_row, rdR_rowI, rdR_rowL, rdI_def, rdL_def, rowI_same, rowI_ne, rowI_rowI, rowL_same, rowL_ne, rowL_1, rowI_21, upd_same, upd_ne, nI_le_T, nI_le_F, nI_lt_T, nI_lt_F, nI_eq_F, nI_NEG, NEG_lt0, nI_p, eq_self, if_true, if_false, p17, l17, p18, l18]
    rfl
