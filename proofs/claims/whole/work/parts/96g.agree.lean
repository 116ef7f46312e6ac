/-! do two HEADS agree -/
theorem blkF_keep (sum : Nat → Nat → Nat → Int32) (b : Nat) : ∀ (f p : Nat) (X : ASl) (j : Nat), j < X.2.2.1 → (blkF sum b f p X).2.2.2 j = X.2.2.2 j
  | 0, _, _, _, _ => rfl
  | f + 1, p, X, j, hj => by
    unfold blkF
    split
    · rw [blkF_keep sum b f _ (stepX X (sum p (bl p b))) j (by show j < X.2.2.1 + 1; omega)]
      show va_up X.2.2.2 X.2.2.1 _ j = _
      rw [va_ne _ _ (by omega)]
    · rfl
theorem layS_blk (sum : Nat → Nat → Nat → Int32) (b : Nat) (st : Nat → Nat → Int32) : ∀ (f p : Nat) (X : ASl) (T : T4), (∀ j, X.2.2.1 ≤ j → j < (blkF sum b f p X).2.2.1 → st j = (blkF sum b f p X).2.2.2 j) → layS st b f p X.2.2.1 T = layF sum b f p T
  | 0, _, _, _, _ => rfl
  | f + 1, p, X, T, h => by
    unfold layS layF
    by_cases c : p < b
    · rw [if_pos c, if_pos c]
      have e : blkF sum b (f + 1) p X = blkF sum b f (p + 2 ^ bl p b) (stepX X (sum p (bl p b))) := by
        show (if p < b then _ else _) = _
        rw [if_pos c]
      rw [e] at h
      have hc := (blkF_sc sum b f (p + 2 ^ bl p b) (stepX X (sum p (bl p b)))).1
      have hc : (blkF sum b f (p + 2 ^ bl p b) (stepX X (sum p (bl p b)))).2.2.1 = X.2.2.1 + 1 + nbF b f (p + 2 ^ bl p b) := hc
      have h0 : st X.2.2.1 = sum p (bl p b) := by
        rw [h X.2.2.1 (Nat.le_refl _) (by omega), blkF_keep sum b f _ (stepX X (sum p (bl p b))) X.2.2.1 (by show X.2.2.1 < X.2.2.1 + 1; omega)]
        show va_up X.2.2.2 X.2.2.1 _ X.2.2.1 = _
        rw [va_same]
      rw [h0]
      exact layS_blk sum b st f _ (stepX X (sum p (bl p b))) _ (fun j hj hj2 => h j (by have : X.2.2.1 + 1 ≤ j := hj; omega) hj2)
    · rw [if_neg c, if_neg c]
theorem gro_lay (A : ALog) (m n : Nat) : layX (groX A m n).2.2.2 0 m 0 T40 = layT (LSUM A) 0 m T40 ∧ ∀ T, layX (groX A m n).2.2.2 m n (nb 0 m) T = layT (LSUM A) m n T := by
  have hc := (blkX_sc (LSUM A) 0 m (begX 2 (nI n) (nI m))).1
  have hc : (blkX (LSUM A) 0 m (begX 2 (nI n) (nI m))).2.2.1 = nb 0 m := by rw [hc]; show 0 + nb 0 m = _; omega
  refine ⟨?_, fun T => ?_⟩
  · exact layS_blk (LSUM A) m (groX A m n).2.2.2 (m - 0) 0 (begX 2 (nI n) (nI m)) T40 (fun j _ hj => blkF_keep (LSUM A) n (n - m) m (blkX (LSUM A) 0 m (begX 2 (nI n) (nI m))) j hj)
  · have := layS_blk (LSUM A) n (groX A m n).2.2.2 (n - m) m (blkX (LSUM A) 0 m (begX 2 (nI n) (nI m))) T (fun j _ _ => rfl)
    rw [hc] at this
    exact this
/-- the LOG of the newer HEAD shows that it has grown from m to n -/
def AGO (A : ALog) (m n : Nat) (H1 H2 : AHd) : Bool := sameB (TOPX (layT (LSUM A) 0 m T40)) H1.2.2.1 && sameB (TOPX (layT (LSUM A) m n (layT (LSUM A) 0 m T40))) H2.2.2.1
theorem gro_AGO {A : ALog} {m n : Nat} {H1 H2 : AHd} (h1 : H1.2.1.1 = nI m) (h2 : H2.2.1.1 = nI n) : GROWB (groX A m n) m n H1 H2 = AGO A m n H1 H2 := by
  unfold GROWB AGO
  rw [decide_eq_true h1, decide_eq_true h2, Bool.true_and, Bool.true_and, (gro_lay A m n).1, (gro_lay A m n).2]
def hdl (H : AHd) : Nat := H.2.1.2.1.toNatClampNeg
def hdn (H : AHd) : Nat := H.2.1.1.toNatClampNeg
/-- TO HOLD two HEADS against one another -/
def AGR (h : AHo) (H1 H2 : AHd) : Bool := if H1.2.1.1 = H2.2.1.1 then sameB H1.2.2.1 H2.2.2.1 && sameB H1.2.2.2.1 H2.2.2.2.1 else if H2.2.1.1 ≤ H1.2.1.1 then AGO (h.1.2 (hdl H1)) (hdn H2) (hdn H1) H2 H1 else AGO (h.1.2 (hdl H2)) (hdn H1) (hdn H2) H1 H2
def HdL (h : AHo) (H : AHd) : Prop := hdl H < h.1.1 ∧ hdn H ≤ lsz (h.1.2 (hdl H)) ∧ H.2.1.2.1 = nI (hdl H) ∧ H.2.1.1 = nI (hdn H)
theorem HdW.l {h : AHo} {H : AHd} (hW : HdW h H) (ht : H.1 = true) (h6 : h.1.1 ≤ 6) (hsz : ∀ i, i < h.1.1 → lsz (h.1.2 i) ≤ 400) : HdL h H := by
  obtain ⟨l, n, a1, a2, a3, a4⟩ := hW ht
  have hs := hsz l a1
  have e1 : hdl H = l := by unfold hdl; rw [a3, nI_clamp (by omega)]
  have e2 : hdn H = n := by unfold hdn; rw [a4, nI_clamp (by omega)]
  unfold HdL
  rw [e1, e2]
  exact ⟨a1, a2, a3, a4⟩
/-- the class's PROOF for its own use is another -/
theorem CJ.shown {B : Nat} {R : Nat → Prop} {ad ad1 : Nat → Nat} {S S1 : Hs} {g g1 : Hg} {m : Nat × Nat} {h : AHo} {kc : AKp} {k w : Nat} (hC : CJ B S g ad m h kc) (hm : Mv R ad S g ad1 S1 g1) (n : ∀ r, R r → 2 ≤ r ∧ r ≤ 15 ∨ 20 ≤ r ∧ r < 24) (hA : AdOk B ad1 S1) (hS : ScP S1 g1 ad1) (hX : PfP S1 g1 ad1 20) (hg : Gw ad S ad1 S1 20 k w) : CJ B S1 g1 ad1 m h kc ∧ 4 * k + phi S1 ad1 m kc ≤ phi S ad m kc ∧ w + phi S1 ad1 m kc ≤ phi S ad m kc ∧ ad1 0 = ad 0 ∧ ad1 20000 = ad 20000 := by
  obtain ⟨⟨c0, c1⟩, ⟨c2, c3, c4⟩, c5, c6⟩ := hC
  obtain ⟨u1, u2, u3⟩ := hg
  have t1 : w + 2 * hpL S (ad 23) = 2 * hpL S1 (ad1 23) := u2
  have t2 : hpL S (ad 23) ≤ 2048 := c4.le.2
  have t3 : hpL S1 (ad1 23) ≤ 2048 := hX.le.2
  have hphi : phi S1 ad1 m kc + w = phi S ad m kc := by
    unfold phi phH
    rw [phK_mv hm (fun r r1 r2 q => by have := n r q; omega), phS_mv hm (fun r r1 r2 q => by have := n r q; omega)]
    omega
  exact ⟨⟨⟨hA, by omega⟩, ⟨hS, c3.mv hm (fun r r1 r2 q => by have := n r q; omega), hX⟩, c5.mv hm (fun r r1 r2 q => by have := n r q; omega), c6.mv hm (fun r r1 q => by have := n r q; omega)⟩, by omega, by omega, hm.ad (fun q => by have := n _ q; omega), hm.ad (fun q => by have := n _ q; omega)⟩
theorem CJ.room20 {B : Nat} {S : Hs} {g : Hg} {ad : Nat → Nat} {m : Nat × Nat} {h : AHo} {kc : AKp} (hC : CJ B S g ad m h kc) : Room B ad S 20 := by
  have t2 : hpL S (ad 23) ≤ 2048 := hC.2.1.2.2.le.2
  have t3 := hC.1.2
  unfold phi phH at t3
  show hpN S + 2048 < B + hpL S (ad 23)
  omega
/-- the newer one's LOG shows, the class checks -/
theorem c_agree78 {B N : Nat} (hN : 40000 ≤ N) {S : Hs} {g : Hg} {ad : Nat → Nat} {m : Nat × Nat} {h : AHo} {kc : AKp} {p q : Nat} {H1 H2 : AHd} (hC : CJ B S g ad m h kc) (h6 : h.1.1 ≤ 6) (hp : p = 16 ∨ 500 ≤ p ∧ p < 600) (hq : q = 16 ∨ 500 ≤ q ∧ q < 600) (hH1 : HdO S g ad p H1) (hH2 : HdO S g ad q H2) (hl : HdL h H2) (hn1 : H1.2.1.1 = nI (hdn H1)) (hle : hdn H1 ≤ hdn H2) :
    ∃ ad1 S1 g1 k w, b_X11_agree_78 N S g (ad 0) (ad p) (ad q) = some (bI (AGO (h.1.2 (hdl H2)) (hdn H1) (hdn H2) H1 H2), S1, g1, k, w) ∧ Mv (fun r => 2 ≤ r ∧ r ≤ 15 ∨ 20 ≤ r ∧ r < 24) ad S g ad1 S1 g1 ∧ CJ B S1 g1 ad1 m h kc ∧ 4 * k + phi S1 ad1 m kc ≤ phi S ad m kc ∧ w + phi S1 ad1 m kc ≤ phi S ad m kc := by
  obtain ⟨l1, l2, l3, l4⟩ := hl
  have hA := hC.clo l1
  have hsz := hA.2.2.1
  generalize hdl H2 = l at *
  generalize hdn H2 = n at *
  generalize hdn H1 = k0 at *
  have v5 : g.1 (ad q) 5 = nI l := hH2.2.1.2.2.1.trans l3
  have v4 : g.1 (ad q) 4 = nI n := hH2.2.1.2.1.trans l4
  have w4 : g.1 (ad p) 4 = nI k0 := hH1.2.1.2.1.trans hn1
  have p5 : rdR g (ad 0) 5 = some (ad 20) := hC.sc.2.2.2.2.2.2.2.2.2
  obtain ⟨ad1, S1, g1, k, w, b1, m1, m2, m3, m4, m5⟩ := c_showGrowth (N := N) (B := B) hN (x2 := nI k0) (x3 := nI n) (m := k0) (nn_ := n) (b := 200 + 20 * l) (p := 20) rfl rfl hle l2 (by omega) hC.1.1 hA hC.2.1.2.2 hC.room20
  have hI1 := m2.1
  have hS1 := hC.sc.pf m1 (fun r hr => by omega) (by omega) m3
  have hH1' := hH1.mv m1 (fun r r1 r2 => by omega)
  have hH2' := hH2.mv m1 (fun r r1 r2 => by omega)
  obtain ⟨z1, z2, z3⟩ := blkX_sc (LSUM (h.1.2 l)) 0 k0 (begX 2 (nI n) (nI k0))
  obtain ⟨y1, y2, y3⟩ := blkX_sc (LSUM (h.1.2 l)) k0 n (blkX (LSUM (h.1.2 l)) 0 k0 (begX 2 (nI n) (nI k0)))
  have nb1 := nb_le (a := 0) (b := k0) (by omega)
  have nb2 := nb_le (a := k0) (b := n) (by omega)
  have q0 : (begX 2 (nI n) (nI k0)).2.2.1 = 0 := rfl
  have hst : (groX (h.1.2 l) k0 n).2.2.1 = nb 0 k0 + nb k0 n := by unfold groX; omega
  have hX1 : (groX (h.1.2 l) k0 n).1.2.2.1 = nI k0 ∧ (groX (h.1.2 l) k0 n).1.2.1 = nI n := by
    unfold groX
    rw [y2, z2]
    exact ⟨rfl, rfl⟩
  obtain ⟨g2, c1, c2'⟩ := c_isGrowth (N := N) hN hI1 (p := 20) (h1 := p) (h2 := q) (m := k0) (n := n) (by omega) (by omega) (by omega) hX1 hle (by omega) (by omega) (by omega) hS1 m4 hH1' hH2'
  rw [gro_AGO hn1 l4] at c1
  have mA : Mv (fun r => 2 ≤ r ∧ r ≤ 15 ∨ 20 ≤ r ∧ r < 24) ad S g ad1 S1 g2 := (m1.mono (fun r hr => by omega)).tr (Mv.fr (c2'.mono (fun r hr => by omega)))
  obtain ⟨d1, d2, d3, d4, d5⟩ := hC.shown mA (fun r hr => hr) m2 (hS1.fr c2'.1) (m4.1.fr c2'.1) m5
  refine ⟨ad1, S1, g2, k + 0, w + 0, ?_, mA, d1, by omega, by omega⟩
  have p2' : rdR g1 (ad 0) 2 = some (ad1 9) := by rw [← d4]; exact hS1.2.2.2.2.2.2.1
  have p5' : rdR g1 (ad 0) 5 = some (ad1 20) := by rw [← d4]; exact hS1.2.2.2.2.2.2.2.2.2
  have ep : ad1 p = ad p := m1.ad (by omega)
  have eq' : ad1 q = ad q := m1.ad (by omega)
  rw [ep, eq'] at c1
  unfold b_X11_agree_78
  rw [hC.p3, nn_S, rdI_def, v5, hC.logAt l1, c2_S, on_S, rdI_def, v4, c_reachesT hA l2, c2_S, if_neg z10, p5, nn_S, rdI_def, w4, rdI_def, v4, b1, c5_S, p2', nn_S, p5', nn_S, c1, c2_S, zb_bI, ck_T, tk_S]
theorem hle_of {a b : Nat} (ha : a < 2 ^ 31) (h : nI a ≤ nI b) (hb : b < 2 ^ 31) : a ≤ b := by
  apply Classical.byContradiction
  intro c
  exact nI_ge (by omega) ha h
theorem c_agree {B N : Nat} (hN : 40000 ≤ N) {S : Hs} {g : Hg} {ad : Nat → Nat} {m : Nat × Nat} {h : AHo} {kc : AKp} {p q : Nat} {H1 H2 : AHd} (hC : CJ B S g ad m h kc) (h6 : h.1.1 ≤ 6) (hp : p = 16 ∨ 500 ≤ p ∧ p < 600) (hq : q = 16 ∨ 500 ≤ q ∧ q < 600) (hH1 : HdO S g ad p H1) (hH2 : HdO S g ad q H2) (hl1 : HdL h H1) (hl2 : HdL h H2) :
    ∃ ad1 S1 g1 k w, f_X11_agree N S g (ad 0) (ad p) (ad q) = some (bI (AGR h H1 H2), S1, g1, k, w) ∧ Mv (fun r => 2 ≤ r ∧ r ≤ 15 ∨ 20 ≤ r ∧ r < 24) ad S g ad1 S1 g1 ∧ CJ B S1 g1 ad1 m h kc ∧ 4 * k + phi S1 ad1 m kc ≤ phi S ad m kc ∧ w + phi S1 ad1 m kc ≤ phi S ad m kc := by
  have v1 : g.1 (ad p) 4 = H1.2.1.1 := hH1.2.1.2.1
  have v2 : g.1 (ad q) 4 = H2.2.1.1 := hH2.2.1.2.1
  have s1 := (hC.wf _ hl1.1).1
  have s2 := (hC.wf _ hl2.1).1
  have m1 := hl1.2.1
  have m2 := hl2.2.1
  by_cases c : H1.2.1.1 = H2.2.1.1
  · have hv : AGR h H1 H2 = (sameB H1.2.2.1 H2.2.2.1 && sameB H1.2.2.2.1 H2.2.2.2.1) := if_pos c
    rw [hv]
    refine ⟨ad, S, g, 0, 0, ?_, Mv.rf, hC, by omega, by omega⟩
    have e1 := c_isSameSum (N := N) hN (S := S) (g := g) (a := ad (p + 1)) (b := ad (q + 1)) hH1.1.2.2.2.1 hH2.1.2.2.2.1 hH1.2.2.1 hH2.2.2.1
    have e2 := c_isSameSum (N := N) hN (S := S) (g := g) (a := ad (p + 2)) (b := ad (q + 2)) hH1.1.2.2.2.2.1 hH2.1.2.2.2.2.1 hH1.2.2.2.1 hH2.2.2.2.1
    show b_X11_agree_0 N S g _ _ _ = _
    unfold b_X11_agree_0
    rw [rdI_def, rdI_def, v1, v2, if_pos c, hH1.1.1, nn_S, hH2.1.1, nn_S, e1, c2_S]
    cases sameB H1.2.2.1 H2.2.2.1 with
    | false => rw [if_pos (show bI false = (0 : Int32) from rfl)]; rfl
    | true =>
      rw [if_neg (show ¬ bI true = (0 : Int32) from z10), hH1.1.2.1, nn_S, hH2.1.2.1, nn_S, e2, c2_S]
      cases sameB H1.2.2.2.1 H2.2.2.2.1 with
      | false => rw [if_pos (show bI false = (0 : Int32) from rfl)]; rfl
      | true => rw [if_neg (show ¬ bI true = (0 : Int32) from z10)]; rfl
  · by_cases d : H2.2.1.1 ≤ H1.2.1.1
    · have hv : AGR h H1 H2 = AGO (h.1.2 (hdl H1)) (hdn H2) (hdn H1) H2 H1 := by
        unfold AGR
        rw [if_neg c, if_pos d]
      rw [hv]
      have hle : hdn H2 ≤ hdn H1 := by
        rw [hl1.2.2.2, hl2.2.2.2] at d
        exact hle_of (by omega) d (by omega)
      obtain ⟨ad1, S1, g1, k, w, a1, a2, a3, a4, a5⟩ := c_agree78 (N := N) hN hC h6 hq hp hH2 hH1 hl1 hl2.2.2.2 hle
      refine ⟨ad1, S1, g1, k, w, ?_, a2, a3, a4, a5⟩
      show b_X11_agree_0 N S g _ _ _ = _
      unfold b_X11_agree_0 b_X11_agree_61
      rw [rdI_def, rdI_def, v1, v2, if_neg c, if_pos d, if_pos d]
      exact a1
    · have hv : AGR h H1 H2 = AGO (h.1.2 (hdl H2)) (hdn H1) (hdn H2) H1 H2 := by
        unfold AGR
        rw [if_neg c, if_neg d]
      rw [hv]
      have hle : hdn H1 ≤ hdn H2 := by
        have d' := Int32.not_le.mp d
        rw [hl1.2.2.2, hl2.2.2.2] at d'
        apply Classical.byContradiction
        intro hc
        exact nI_nlt (by omega) (by omega) d'
      obtain ⟨ad1, S1, g1, k, w, a1, a2, a3, a4, a5⟩ := c_agree78 (N := N) hN hC h6 hp hq hH1 hH2 hl2 hl1.2.2.2 hle
      refine ⟨ad1, S1, g1, k, w, ?_, a2, a3, a4, a5⟩
      show b_X11_agree_0 N S g _ _ _ = _
      unfold b_X11_agree_0 b_X11_agree_61
      rw [rdI_def, rdI_def, v1, v2, if_neg c, if_neg d, if_neg d]
      exact a1
def RAG (r : Nat) : Prop := 20044 ≤ r ∧ r ≤ 20052 ∨ r = 20066
/-- the reference likewise -/
theorem m_agree113 {N : Nat} (hN : 40000 ≤ N) {S : Hs} {g : Hg} {ad : Nat → Nat} (hI : Inj ad) {l n k0 ro po ry py : Nat} {A : ALog} {H1 H2 : AHd} (hl : l < 6) (hsz : lsz A ≤ 400) (hk : k0 ≤ n) (hn : n ≤ lsz A) (hro : ro = 20014 ∨ ro = 20060) (hry : ry = 20014 ∨ ry = 20060) (lo : po + 28 ≤ hpL S (ad ro)) (lo2 : hpL S (ad ro) < 2 ^ 31) (ly : py + 28 ≤ hpL S (ad ry)) (ly2 : hpL S (ad ry) < 2 ^ 31) (hR : RfP S g ad) (hL : RLog g ad 0 l A) (hH1 : RHd g ad ro po H1) (hH2 : RHd g ad ry py H2) (h1n : H1.2.1.1 = nI k0) (h2l : H2.2.1.2.1 = nI l) (h2n : H2.2.1.1 = nI n) :
    ∃ g1, b_X12_agree_113 N S g (ad 20000) (ad ro) (nI po) (ad ry) (nI py) = some (bI (AGO A k0 n H1 H2), g1) ∧ FM ad RAG g g1 := by
  let g0 : Hg := rowI g (ad 20000) (upd (g.1 (ad 20000)) 49 (nI 0))
  have f0 : FM ad RAG g g0 := FM.set hI (by omega)
  have t0 : TmS g0 ad T40 := m_clear hI
  have hR0 : RfP S g0 ad := hR.fr f0.1.1
  have hL0 : RLog g0 ad 0 l A := hL.fm f0 (fun r r1 r2 => by unfold RAG; omega)
  obtain ⟨g1, a1, a2, a3⟩ := m_layLogR (N := N) hN hI (l := l) (a := 0) (b := k0) hl (Nat.zero_le _) (by omega) hsz hR0 hL0 t0 bin40
  have f1 : FM ad RAG g g1 := f0.tr (a2.fm.mono (fun r hr => by unfold RAG; omega))
  have hR1 : RfP S g1 ad := hR.fr f1.1.1
  have B1 := layT_bin (LSUM A) (Nat.zero_le k0) bin40
  have nro : ¬ RAG ro := by unfold RAG; omega
  have nry : ¬ RAG ry := by unfold RAG; omega
  have hH1a := hH1.fm f1 nro (by omega)
  have l65 : hpL _ (ad 20066) = 8 := hR.l 65 (by decide) rfl
  obtain ⟨g2, b1, b2, b3, b4⟩ := m_topLike (N := N) hN hI (fd := 20066) (rr := ro) (q := po + 4) (Or.inr rfl) l65 hro (by omega) lo2 hR1 a3 B1 (by omega) hH1a.2.1
  have f2 : FM ad RAG g g2 := f1.tr (FM.fr (b2.mono (fun r hr => by unfold RAG; omega)) (by unfold RAG; omega))
  have hR2 : RfP S g2 ad := hR.fr f2.1.1
  have hL2 : RLog g2 ad 0 l A := hL.fm f2 (fun r r1 r2 => by unfold RAG; omega)
  obtain ⟨g3, c1, c2', c3⟩ := m_layLogR (N := N) hN hI (l := l) (a := k0) (b := n) hl hk hn hsz hR2 hL2 b4 B1
  have f3 : FM ad RAG g g3 := f2.tr (c2'.fm.mono (fun r hr => by unfold RAG; omega))
  have hR3 : RfP S g3 ad := hR.fr f3.1.1
  have hH2a := hH2.fm f3 nry (by omega)
  have B2 := layT_bin (LSUM A) hk B1
  obtain ⟨g4, d1, d2, d3, d4⟩ := m_topLike (N := N) hN hI (fd := 20066) (rr := ry) (q := py + 4) (Or.inr rfl) l65 hry (by omega) ly2 hR3 c3 B2 (by omega) hH2a.2.1
  have f4 : FM ad RAG g g4 := f3.tr (FM.fr (d2.mono (fun r hr => by unfold RAG; omega)) (by unfold RAG; omega))
  have hR4 : RfP S g4 ad := hR.fr f4.1.1
  have p65 : rdR _ (ad 20000) 65 = some (ad 20066) := hR1.p 65 (by decide)
  have p65b : rdR _ (ad 20000) 65 = some (ad 20066) := hR2.p 65 (by decide)
  have p65c : rdR _ (ad 20000) 65 = some (ad 20066) := hR3.p 65 (by decide)
  have p65d : rdR _ (ad 20000) 65 = some (ad 20066) := hR4.p 65 (by decide)
  have y0 : g0.1 (ad ry) (py + 1) = nI l := by rw [f0.I nry (by omega), hH2.1.2.1, h2l]
  have y1 : g0.1 (ad ro) po = nI k0 := by rw [f0.I nro (by omega), hH1.1.1, h1n]
  have y2 : g2.1 (ad ry) (py + 1) = nI l := by rw [f2.I nry (by omega), hH2.1.2.1, h2l]
  have y3 : g2.1 (ad ro) po = nI k0 := by rw [f2.I nro (by omega), hH1.1.1, h1n]
  have y4 : g2.1 (ad ry) py = nI n := by rw [f2.I nry (by omega), hH2.1.1, h2n]
  have a1 : f_X12_layLog N S g0 (ad 20000) (nI l) (nI 0) (nI k0) = some ((), g1) := a1
  unfold AGO
  refine ⟨if sameB (TOPX (layT (LSUM A) 0 k0 T40)) H1.2.2.1 = true then g4 else g2, ?_, ?_⟩
  · unfold b_X12_agree_113
    rw [nm_D, wrI_row, show rowI g (ad 20000) (upd (g.1 (ad 20000)) 49 (0 : Int32)) = g0 from rfl, show nI py + (1 : Int32) = nI (py + 1) from nI_add py 1, inb_nI (show py + 1 < hpL S (ad ry) by omega) ly2, ck_T, inb_nI (show po < hpL S (ad ro) by omega) lo2, ck_T, nI_clamp (show py + 1 < 2 ^ 31 by omega), nI_clamp (show po < 2 ^ 31 by omega), rdI_def, rdI_def, y0, y1, show f_X12_layLog N S g0 (ad 20000) (nI l) (0 : Int32) (nI k0) = _ from a1, c2_S, p65, nn_S, show f_X12_top N S g1 (ad 20000) (ad 20066) (0 : Int32) = _ from b1, c2_S, p65b, nn_S, nI_clamp (show py < 2 ^ 31 by omega), show nI po + (4 : Int32) = nI (po + 4) from nI_add po 4, show nI py + (4 : Int32) = nI (py + 4) from nI_add py 4, show f_X12_areLike N S g2 (ad 20066) (0 : Int32) (ad ro) (nI (po + 4)) = _ from b3, c2_S]
    cases hb : sameB (TOPX (layT (LSUM A) 0 k0 T40)) H1.2.2.1 with
    | false => rw [if_pos (show bI false = (0 : Int32) from rfl), if_neg (by decide)]; rfl
    | true =>
      rw [if_neg (show ¬ bI true = (0 : Int32) from z10), if_pos rfl, ck_T, ck_T, inb_nI (show py < hpL S (ad ry) by omega) ly2, ck_T, rdI_def, y2, rdI_def, y3, rdI_def, y4, c1, c2_S, p65c, nn_S, show f_X12_top N S g3 (ad 20000) (ad 20066) (0 : Int32) = _ from d1, c2_S, p65d, nn_S, show f_X12_areLike N S g4 (ad 20066) (0 : Int32) (ad ry) (nI (py + 4)) = _ from d3, c2_S, zb_bI, ck_T, Bool.true_and]
  · split
    · exact f4
    · exact f2
theorem m_agree {N : Nat} (hN : 40000 ≤ N) {S : Hs} {g : Hg} {ad : Nat → Nat} (hI : Inj ad) {h : AHo} {ro po ry py : Nat} {H1 H2 : AHd} (h6 : h.1.1 ≤ 6) (hsz : ∀ i, i < h.1.1 → lsz (h.1.2 i) ≤ 400) (hro : ro = 20014 ∨ ro = 20060) (hry : ry = 20014 ∨ ry = 20060) (lo : po + 28 ≤ hpL S (ad ro)) (lo2 : hpL S (ad ro) < 2 ^ 31) (ly : py + 28 ≤ hpL S (ad ry)) (ly2 : hpL S (ad ry) < 2 ^ 31) (hR : RfP S g ad) (hL : ∀ l, l < h.1.1 → RLog g ad 0 l (h.1.2 l)) (hH1 : RHd g ad ro po H1) (hH2 : RHd g ad ry py H2) (hl1 : HdL h H1) (hl2 : HdL h H2) :
    ∃ g1, f_X12_agree N S g (ad 20000) (ad ro) (nI po) (ad ry) (nI py) = some (bI (AGR h H1 H2), g1) ∧ FM ad RAG g g1 := by
  have v1 : g.1 (ad ro) po = H1.2.1.1 := hH1.1.1
  have v2 : g.1 (ad ry) py = H2.2.1.1 := hH2.1.1
  have s1 := hsz _ hl1.1
  have s2 := hsz _ hl2.1
  have m1 := hl1.2.1
  have m2 := hl2.2.1
  have hl1' : hdl H1 < 6 := by have := hl1.1; omega
  have hl2' : hdl H2 < 6 := by have := hl2.1; omega
  by_cases c : H1.2.1.1 = H2.2.1.1
  · have hv : AGR h H1 H2 = (sameB H1.2.2.1 H2.2.2.1 && sameB H1.2.2.2.1 H2.2.2.2.1) := if_pos c
    rw [hv]
    refine ⟨g, ?_, FM.rf⟩
    have e1 := m_areLike (N := N) hN (S := S) (g := g) (a := ad ro) (p := po + 4) (b := ad ry) (q := py + 4) (by omega) lo2 (by omega) ly2 hH1.2.1 hH2.2.1
    have e2 := m_areLike (N := N) hN (S := S) (g := g) (a := ad ro) (p := po + 12) (b := ad ry) (q := py + 12) (by omega) lo2 (by omega) ly2 hH1.2.2.1 hH2.2.2.1
    show b_X12_agree_0 N S g _ _ _ _ _ = _
    unfold b_X12_agree_0
    rw [inb_nI (show po < hpL S (ad ro) by omega) lo2, ck_T, inb_nI (show py < hpL S (ad ry) by omega) ly2, ck_T, nI_clamp (show po < 2 ^ 31 by omega), nI_clamp (show py < 2 ^ 31 by omega), rdI_def, rdI_def, v1, v2, if_pos c, show nI po + (4 : Int32) = nI (po + 4) from nI_add po 4, show nI py + (4 : Int32) = nI (py + 4) from nI_add py 4, e1, c2_S]
    cases sameB H1.2.2.1 H2.2.2.1 with
    | false => rw [if_pos (show bI false = (0 : Int32) from rfl)]; rfl
    | true =>
      rw [if_neg (show ¬ bI true = (0 : Int32) from z10), show nI po + (12 : Int32) = nI (po + 12) from nI_add po 12, show nI py + (12 : Int32) = nI (py + 12) from nI_add py 12, e2, c2_S]
      exact c_if _ _
  · by_cases d : H2.2.1.1 ≤ H1.2.1.1
    · have hv : AGR h H1 H2 = AGO (h.1.2 (hdl H1)) (hdn H2) (hdn H1) H2 H1 := by
        unfold AGR
        rw [if_neg c, if_pos d]
      rw [hv]
      have hle : hdn H2 ≤ hdn H1 := by
        rw [hl1.2.2.2, hl2.2.2.2] at d
        exact hle_of (by omega) d (by omega)
      obtain ⟨g1, a1, a2⟩ := m_agree113 (N := N) hN hI (l := hdl H1) (n := hdn H1) (k0 := hdn H2) hl1' s1 hle m1 hry hro ly ly2 lo lo2 hR (hL _ hl1.1) hH2 hH1 hl2.2.2.2 hl1.2.2.1 hl1.2.2.2
      refine ⟨g1, ?_, a2⟩
      show b_X12_agree_0 N S g _ _ _ _ _ = _
      unfold b_X12_agree_0
      rw [inb_nI (show po < hpL S (ad ro) by omega) lo2, ck_T, inb_nI (show py < hpL S (ad ry) by omega) ly2, ck_T, nI_clamp (show po < 2 ^ 31 by omega), nI_clamp (show py < 2 ^ 31 by omega), rdI_def, rdI_def, v1, v2, if_neg c, ck_T, ck_T, if_pos d]
      unfold b_X12_agree_63
      rw [if_pos rfl]
      unfold b_X12_agree_75
      rw [if_pos rfl]
      unfold b_X12_agree_88
      rw [if_pos rfl]
      unfold b_X12_agree_100
      rw [if_pos rfl]
      exact a1
    · have hv : AGR h H1 H2 = AGO (h.1.2 (hdl H2)) (hdn H1) (hdn H2) H1 H2 := by
        unfold AGR
        rw [if_neg c, if_neg d]
      rw [hv]
      have hle : hdn H1 ≤ hdn H2 := by
        have d' := Int32.not_le.mp d
        rw [hl1.2.2.2, hl2.2.2.2] at d'
        apply Classical.byContradiction
        intro hc
        exact nI_nlt (by omega) (by omega) d'
      obtain ⟨g1, a1, a2⟩ := m_agree113 (N := N) hN hI (l := hdl H2) (n := hdn H2) (k0 := hdn H1) hl2' s2 hle m2 hro hry lo lo2 ly ly2 hR (hL _ hl2.1) hH1 hH2 hl1.2.2.2 hl2.2.2.1 hl2.2.2.2
      refine ⟨g1, ?_, a2⟩
      show b_X12_agree_0 N S g _ _ _ _ _ = _
      unfold b_X12_agree_0
      rw [inb_nI (show po < hpL S (ad ro) by omega) lo2, ck_T, inb_nI (show py < hpL S (ad ry) by omega) ly2, ck_T, nI_clamp (show po < 2 ^ 31 by omega), nI_clamp (show py < 2 ^ 31 by omega), rdI_def, rdI_def, v1, v2, if_neg c, ck_T, ck_T, if_neg d]
      unfold b_X12_agree_63
      rw [if_neg (show ¬ (1 : Int32) = 0 by decide)]
      unfold b_X12_agree_75
      rw [if_neg (show ¬ (1 : Int32) = 0 by decide)]
      unfold b_X12_agree_88
      rw [if_neg (show ¬ (1 : Int32) = 0 by decide)]
      unfold b_X12_agree_100
      rw [if_neg (show ¬ (1 : Int32) = 0 by decide)]
      exact a1
