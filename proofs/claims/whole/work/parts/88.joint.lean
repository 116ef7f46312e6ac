/-! both programs hold one state -/
def RLs (g : Hg) (ad : Nat → Nat) (o nl : Nat) (lg : Nat → ALog) : Prop := g.1 (ad 20000) (1 + o) = nI nl ∧ ∀ l, l < nl → RLog g ad o l (lg l)
def RSs (g : Hg) (ad : Nat → Nat) (o : Nat) (sl : Nat → ASl) : Prop := ∀ s, s < 16 → RSl g ad o s (sl s)
def RRd (g : Hg) (ad : Nat → Nat) (o : Nat) (hd : Nat → AHd) (tm : Nat → Int32) : Prop := ∀ r, r < 12 → RHd g ad (20014 + o) (28 * r) (hd r) ∧ g.1 (ad (20014 + o)) (28 * r + 3) = tm r ∧ g.1 (ad (20015 + o)) r = bI (hd r).1
def RBl (g : Hg) (ad : Nat → Nat) (o nbm : Nat) (h1 h2 : Nat → AHd) : Prop := g.1 (ad 20000) (16 + o) = nI nbm ∧ ∀ k, k < nbm → RHd g ad (20016 + o) (56 * k) (h1 k) ∧ RHd g ad (20016 + o) (56 * k + 28) (h2 k)
def RWt (g : Hg) (ad : Nat → Nat) (o : Nat) (wt : Nat → AWt) : Prop := ∀ w, w < 8 → g.1 (ad (20019 + o)) w = bI (wt w).1 ∧ ((wt w).1 = true → (g.1 (ad (20018 + o)) (5 * w) = (wt w).2.1.1 ∧ g.1 (ad (20018 + o)) (5 * w + 1) = (wt w).2.1.2.1 ∧ g.1 (ad (20018 + o)) (5 * w + 2) = (wt w).2.1.2.2 ∧ g.1 (ad (20018 + o)) (5 * w + 3) = nI (wt w).2.2.1.1 ∧ g.1 (ad (20018 + o)) (5 * w + 4) = nI (wt w).2.2.1.2) ∧ ∀ k, k < (wt w).2.2.1.2 → g.1 (ad (20020 + o)) (400 * w + k) = (wt w).2.2.2.2 k ∧ g.1 (ad (20021 + o)) (400 * w + k) = (wt w).2.2.2.1 ((wt w).2.2.2.2 k))
def RHo (g : Hg) (ad : Nat → Nat) (o : Nat) (h : AHo) : Prop := RLs g ad o h.1.1 h.1.2 ∧ RSs g ad o h.2.1 ∧ RRd g ad o h.2.2.1.1 h.2.2.1.2 ∧ RBl g ad o h.2.2.2.1.1 h.2.2.2.1.2.1 h.2.2.2.1.2.2 ∧ RWt g ad o h.2.2.2.2
/-- what is so of a SLOT -/
def SlWf (X : ASl) : Prop := X.2.1.1 ≤ 40 ∧ X.2.2.1 ≤ 256 ∧
  ((X.1.1 = nI 0 ∧ X.2.1.1 = 0 ∧ X.1.2.2.2.2.1 = 0) ∨
   (X.1.1 = nI 1 ∧ X.2.1.1 = 1 ∧ ∃ a n, a < n ∧ n ≤ 400 ∧ X.1.2.1 = nI n ∧ X.1.2.2.1 = nI a ∧ X.2.2.1 = nb 0 a + nb (a + 1) n) ∨
   (X.1.1 = nI 2 ∧ X.2.1.1 = 0 ∧ X.1.2.2.2.2.1 = 0 ∧ ∃ m n, m ≤ n ∧ n ≤ 400 ∧ X.1.2.1 = nI n ∧ X.1.2.2.1 = nI m ∧ X.2.2.1 = nb 0 m + nb m n) ∨
   (X.1.1 = nI 3 ∧ X.2.1.1 = 0 ∧ X.1.2.2.2.2.2.1 ≠ NEG) ∨
   (X.1.1 = nI 4 ∧ X.2.1.1 = 0) ∨
   (X.1.1 = nI 5 ∧ X.1.2.2.2.2.1 = 0 ∧ ∃ a n, a + X.2.1.1 ≤ n ∧ n ≤ 400 ∧ X.1.2.1 = nI n ∧ X.1.2.2.1 = nI a ∧ X.1.2.2.2.1 = nI (a + X.2.1.1) ∧ X.2.2.1 = nb 0 a + nb (a + X.2.1.1) n))
def HdW (h : AHo) (H : AHd) : Prop := H.1 = true → ∃ l n, l < h.1.1 ∧ n ≤ lsz (h.1.2 l) ∧ H.2.1.2.1 = nI l ∧ H.2.1.1 = nI n
def WtW (h : AHo) (W : AWt) : Prop := W.1 = true → ∃ l, l < h.1.1 ∧ W.2.1.1 = nI l ∧ WtWf (h.1.2 l) W
def HoW (h : AHo) : Prop := h.1.1 ≤ 6 ∧ (∀ s, s < 16 → SlWf (h.2.1 s)) ∧ (∀ r, r < 12 → HdW h (h.2.2.1.1 r)) ∧ (∀ w, w < 8 → WtW h (h.2.2.2.2 w))
abbrev AKp : Type := Option ((Nat × Nat) × AHo)
def KC (S : Hs) (g : Hg) (ad : Nat → Nat) : AKp → Prop
  | none => rdR g (ad 0) 6 = none
  | some k => rdR g (ad 0) 6 = some (ad 5100) ∧ CHo S g ad 5100 k.1 k.2
def KR (g : Hg) (ad : Nat → Nat) : AKp → Prop
  | none => g.1 (ad 20000) 21 = nI 0
  | some k => g.1 (ad 20000) 21 = nI 1 ∧ RHo g ad 22 k.2
def KW : AKp → Prop
  | none => True
  | some k => HoW k.2
/-- what may still be made -/
def phK (S : Hs) (ad : Nat → Nat) : AKp → Nat
  | none => 160000
  | some k => phH S ad 5100 k.1
def phi (S : Hs) (ad : Nat → Nat) (m : Nat × Nat) (kc : AKp) : Nat := phH S ad 100 m + (4096 - 2 * hpL S (ad 23)) + phK S ad kc
def CJ (B : Nat) (S : Hs) (g : Hg) (ad : Nat → Nat) (m : Nat × Nat) (h : AHo) (kc : AKp) : Prop := (AdOk B ad S ∧ hpN S + phi S ad m kc < B) ∧ (ScP S g ad ∧ HdP S g ad 16 ∧ PfP S g ad 20) ∧ CHo S g ad 100 m h ∧ KC S g ad kc
def RJ (S : Hs) (g : Hg) (ad : Nat → Nat) (h : AHo) (kc : AKp) : Prop := RfP S g ad ∧ RHo g ad 0 h ∧ KR g ad kc
def Jn (B : Nat) (S : Hs) (g : Hg) (ad : Nat → Nat) (m : Nat × Nat) (h : AHo) (kc : AKp) : Prop := CJ B S g ad m h kc ∧ RJ S g ad h kc ∧ HoW h ∧ KW kc
/-! frames -/
theorem HoC.fr {R : Nat → Prop} {ad : Nat → Nat} {g g1 : Hg} {b nl nbm : Nat} (h : HoC g ad b nl nbm) (hf : Fr ad R g g1) (n : ¬ R b) : HoC g1 ad b nl nbm := by
  unfold HoC
  rw [hf.I n]
  exact h
theorem CHo.fr {R : Nat → Prop} {ad : Nat → Nat} {S : Hs} {g g1 : Hg} {b : Nat} {m : Nat × Nat} {h : AHo} (hC : CHo S g ad b m h) (hf : Fr ad R g g1) (n : ∀ r, b ≤ r → r < b + 1200 → ¬ R r) : CHo S g1 ad b m h := hC.mv (Mv.fr hf) n
theorem KC.fr {R : Nat → Prop} {ad : Nat → Nat} {S : Hs} {g g1 : Hg} {kc : AKp} (h : KC S g ad kc) (hf : Fr ad R g g1) (n : ∀ r, 5100 ≤ r → r < 6300 → ¬ R r) : KC S g1 ad kc := by
  match kc, h with
  | none, h => show rdR g1 _ _ = _; rw [hf.P]; exact h
  | some k, h => exact ⟨by rw [hf.P]; exact h.1, h.2.fr hf (fun r r1 r2 => n r r1 (by omega))⟩
theorem KC.mv {R : Nat → Prop} {ad ad1 : Nat → Nat} {S S1 : Hs} {g g1 : Hg} {kc : AKp} (h : KC S g ad kc) (hm : Mv R ad S g ad1 S1 g1) (n : ∀ r, r = 0 ∨ 5100 ≤ r ∧ r < 6300 → ¬ R r) : KC S1 g1 ad1 kc := by
  match kc, h with
  | none, h => show rdR g1 _ _ = _; rw [hm.R (n 0 (by omega))]; exact h
  | some k, h => exact ⟨hm.P (n 0 (by omega)) (n 5100 (by omega)) h.1, h.2.mv hm (fun r r1 r2 => n r (by omega))⟩
theorem phS_mv {R : Nat → Prop} {ad ad1 : Nat → Nat} {S S1 : Hs} {g g1 : Hg} {b : Nat} (hm : Mv R ad S g ad1 S1 g1) (n : ∀ r, b + 300 ≤ r → r < b + 364 → ¬ R r) : phS S1 ad1 b = phS S ad b := sumS_congr 16 (fun i hi => by
  show 4096 - 2 * hpL S1 (ad1 (b + 300 + 4 * i + 3)) = 4096 - 2 * hpL S (ad (b + 300 + 4 * i + 3))
  rw [hm.len (n _ (by omega) (by omega))])
theorem phK_mv {R : Nat → Prop} {ad ad1 : Nat → Nat} {S S1 : Hs} {g g1 : Hg} {kc : AKp} (hm : Mv R ad S g ad1 S1 g1) (n : ∀ r, 5400 ≤ r → r < 5464 → ¬ R r) : phK S1 ad1 kc = phK S ad kc := by
  match kc with
  | none => rfl
  | some k =>
    show phH S1 ad1 5100 k.1 = phH S ad 5100 k.1
    unfold phH
    rw [phS_mv hm (fun r r1 r2 => n r (by omega) (by omega))]
theorem CJ.fr {B : Nat} {R : Nat → Prop} {ad : Nat → Nat} {S : Hs} {g g1 : Hg} {m : Nat × Nat} {h : AHo} {kc : AKp} (hC : CJ B S g ad m h kc) (hf : Fr ad R g g1) (n : ∀ r, R r → r < 100 ∨ 20000 ≤ r) : CJ B S g1 ad m h kc := by
  obtain ⟨c1, ⟨c2, c3, c4⟩, c5, c6⟩ := hC
  exact ⟨c1, ⟨c2.fr hf.1, c3.fr hf.1, c4.fr hf.1⟩, c5.fr hf (fun r r1 r2 q => by have := n r q; omega), c6.fr hf (fun r r1 r2 q => by have := n r q; omega)⟩
theorem RHo.eq {g g1 : Hg} {ad ad1 : Nat → Nat} {o : Nat} {h : AHo} (hR : RHo g ad o h) (e : ∀ r, 20001 + o ≤ r → r ≤ 20021 + o → g1.1 (ad1 r) = g.1 (ad r) ∧ g1.2.1 (ad1 r) = g.2.1 (ad r)) (e1 : g1.1 (ad1 20000) (1 + o) = g.1 (ad 20000) (1 + o)) (e2 : g1.1 (ad1 20000) (16 + o) = g.1 (ad 20000) (16 + o)) : RHo g1 ad1 o h := by
  obtain ⟨h1, h2, h3, h4, h5⟩ := hR
  have i : ∀ r, 20001 + o ≤ r → r ≤ 20021 + o → g1.1 (ad1 r) = g.1 (ad r) := fun r r1 r2 => (e r r1 r2).1
  refine ⟨⟨by rw [e1]; exact h1.1, fun l hl => (h1.2 l hl).eq (fun r r1 r2 => e r r1 (by omega))⟩, ?_, ?_, ?_, ?_⟩
  · unfold RSs RSl RSt
    rw [i (20010 + o) (by omega) (by omega), i (20011 + o) (by omega) (by omega), (e (20012 + o) (by omega) (by omega)).2, i (20013 + o) (by omega) (by omega)]
    exact h2
  · unfold RRd RHd
    rw [i (20014 + o) (by omega) (by omega), i (20015 + o) (by omega) (by omega)]
    exact h3
  · unfold RBl RHd
    rw [i (20016 + o) (by omega) (by omega), e2]
    exact h4
  · unfold RWt
    rw [i (20018 + o) (by omega) (by omega), i (20019 + o) (by omega) (by omega), i (20020 + o) (by omega) (by omega), i (20021 + o) (by omega) (by omega)]
    exact h5
theorem KR.eq {g g1 : Hg} {ad ad1 : Nat → Nat} {kc : AKp} (hR : KR g ad kc) (e : ∀ r, 20023 ≤ r → r ≤ 20043 → g1.1 (ad1 r) = g.1 (ad r) ∧ g1.2.1 (ad1 r) = g.2.1 (ad r)) (e1 : ∀ k, k = 21 ∨ k = 23 ∨ k = 38 → g1.1 (ad1 20000) k = g.1 (ad 20000) k) : KR g1 ad1 kc := by
  match kc, hR with
  | none, h => show g1.1 _ _ = _; rw [e1 21 (by omega)]; exact h
  | some k, h => exact ⟨by rw [e1 21 (by omega)]; exact h.1, h.2.eq (fun r r1 r2 => e r (by omega) (by omega)) (e1 23 (by omega)) (e1 38 (by omega))⟩
theorem RJ.fm {S : Hs} {g g1 : Hg} {ad : Nat → Nat} {h : AHo} {kc : AKp} {R : Nat → Prop} (hR : RJ S g ad h kc) (hf : FM ad R g g1) (n : ∀ r, R r → r < 20000 ∨ 20044 ≤ r) : RJ S g1 ad h kc := by
  obtain ⟨h1, h2, h3⟩ := hR
  have e : ∀ r, 20001 ≤ r → r ≤ 20043 → g1.1 (ad r) = g.1 (ad r) ∧ g1.2.1 (ad r) = g.2.1 (ad r) := fun r r1 r2 => ⟨hf.I (fun q => by have := n r q; omega) (by omega), hf.L (fun q => by have := n r q; omega) (by omega)⟩
  exact ⟨h1.fr hf.1.1, h2.eq (fun r r1 r2 => e r (by omega) (by omega)) (hf.2 1 (by omega) (by omega) (by omega) (by omega)) (hf.2 16 (by omega) (by omega) (by omega) (by omega)), h3.eq (fun r r1 r2 => e r (by omega) (by omega)) (fun k hk => hf.2 k (by omega) (by omega) (by omega) (by omega))⟩
theorem RJ.fr {S : Hs} {g g1 : Hg} {ad : Nat → Nat} {h : AHo} {kc : AKp} {R : Nat → Prop} (hR : RJ S g ad h kc) (hf : Fr ad R g g1) (n : ∀ r, R r → r < 20000 ∨ 20044 ≤ r) : RJ S g1 ad h kc := hR.fm (FM.fr hf (fun q => by have := n _ q; omega)) n
theorem RJ.mv {S S1 : Hs} {g g1 : Hg} {ad ad1 : Nat → Nat} {h : AHo} {kc : AKp} {R : Nat → Prop} (hR : RJ S g ad h kc) (hm : Mv R ad S g ad1 S1 g1) (n : ∀ r, R r → r < 20000) : RJ S1 g1 ad1 h kc := by
  obtain ⟨h1, h2, h3⟩ := hR
  have nr : ∀ r, 20000 ≤ r → ¬ R r := fun r hr q => by have := n r q; omega
  have e : ∀ r, 20001 ≤ r → r ≤ 20043 → g1.1 (ad1 r) = g.1 (ad r) ∧ g1.2.1 (ad1 r) = g.2.1 (ad r) := fun r r1 r2 => ⟨hm.I (nr r (by omega)), hm.L (nr r (by omega))⟩
  have e0 : g1.1 (ad1 20000) = g.1 (ad 20000) := hm.I (nr _ (by omega))
  exact ⟨h1.mv hm nr, h2.eq (fun r r1 r2 => e r (by omega) (by omega)) (by rw [e0]) (by rw [e0]), h3.eq (fun r r1 r2 => e r (by omega) (by omega)) (fun k hk => by rw [e0])⟩
/-! one call of both -/
def StN (B : Nat) (S : Hs) (g : Hg) (ad : Nat → Nat) (m : Nat × Nat) (kc : AKp) (F G : Hg → Option (Int32 × Hg)) : Prop := ∃ r g1 g2 h1, F g = some (r, g1) ∧ G g1 = some (r, g2) ∧ Jn B S g2 ad m h1 kc
def StM (B : Nat) (S : Hs) (g : Hg) (ad : Nat → Nat) (m : Nat × Nat) (kc : AKp) (F : Hs → Hg → Option (Int32 × Hs × Hg × Nat × Nat)) (G : Hs → Hg → Option (Int32 × Hg)) : Prop := ∃ r ad1 S1 g1 g2 k w h1 m1 kc1, F S g = some (r, S1, g1, k, w) ∧ G S1 g1 = some (r, g2) ∧ Jn B S1 g2 ad1 m1 h1 kc1 ∧ ad1 0 = ad 0 ∧ ad1 20000 = ad 20000 ∧ 4 * k + phi S1 ad1 m1 kc1 ≤ phi S ad m kc ∧ w + phi S1 ad1 m1 kc1 ≤ phi S ad m kc
/-- nothing but scratch changes -/
theorem StN.same {B : Nat} {S : Hs} {g : Hg} {ad : Nat → Nat} {m : Nat × Nat} {h : AHo} {kc : AKp} {F G : Hg → Option (Int32 × Hg)} (hJ : Jn B S g ad m h kc) {r : Int32} (hF : F g = some (r, g)) (hG : G g = some (r, g)) : StN B S g ad m kc F G := ⟨r, g, g, h, hF, hG, hJ⟩
theorem StN.scr {B : Nat} {S : Hs} {g g1 g2 : Hg} {ad : Nat → Nat} {m : Nat × Nat} {h : AHo} {kc : AKp} {F G : Hg → Option (Int32 × Hg)} {R Q : Nat → Prop} (hJ : Jn B S g ad m h kc) {r : Int32} (hF : F g = some (r, g1)) (hf : Fr ad R g g1) (n : ∀ q, R q → q < 100) (hG : G g1 = some (r, g2)) (hq : FM ad Q g1 g2) (n2 : ∀ q, Q q → 20044 ≤ q) : StN B S g ad m kc F G := by
  obtain ⟨h1, h2, h3, h4⟩ := hJ
  exact ⟨r, g1, g2, h, hF, hG, (h1.fr hf (fun q hq => Or.inl (n q hq))).fr hq.1 (fun q h => Or.inr (h.elim (fun h => by have := n2 q h; omega) (fun h => by omega))), (h2.fr hf (fun q hq => Or.inl (by have := n q hq; omega))).fm hq (fun q h => Or.inr (n2 q h)), h3, h4⟩
theorem StM.same {B : Nat} {S : Hs} {g : Hg} {ad : Nat → Nat} {m : Nat × Nat} {h : AHo} {kc : AKp} {F : Hs → Hg → Option (Int32 × Hs × Hg × Nat × Nat)} {G : Hs → Hg → Option (Int32 × Hg)} (hJ : Jn B S g ad m h kc) {r : Int32} (hF : F S g = some (r, S, g, 0, 0)) (hG : G S g = some (r, g)) : StM B S g ad m kc F G := ⟨r, ad, S, g, g, 0, 0, h, m, kc, hF, hG, hJ, rfl, rfl, by omega, by omega⟩
/-! the house with one LOG, SLOT, HEAD or watcher changed -/
def setL (h : AHo) (l : Nat) (A : ALog) : AHo := ((h.1.1, va_up h.1.2 l A), h.2)
def setS (h : AHo) (s : Nat) (X : ASl) : AHo := (h.1, va_up h.2.1 s X, h.2.2)
def setH (h : AHo) (r : Nat) (H : AHd) : AHo := (h.1, h.2.1, (va_up h.2.2.1.1 r H, h.2.2.1.2), h.2.2.2)
def setT (h : AHo) (tm : Nat → Int32) : AHo := (h.1, h.2.1, (h.2.2.1.1, tm), h.2.2.2)
def setW (h : AHo) (w : Nat) (W : AWt) : AHo := (h.1, h.2.1, h.2.2.1, h.2.2.2.1, va_up h.2.2.2.2 w W)
theorem CJ.log {B : Nat} {R : Nat → Prop} {ad : Nat → Nat} {S : Hs} {g g1 : Hg} {m : Nat × Nat} {h : AHo} {kc : AKp} {l : Nat} {A1 : ALog} (hC : CJ B S g ad m h kc) (hW : HoW h) (hl : l < h.1.1) (hf : Fr ad R g g1) (n : ∀ r, R r → r < 100 ∨ 200 + 20 * l ≤ r ∧ r < 214 + 20 * l) (hA : CLO S g1 ad (200 + 20 * l) A1) (hw : ∀ b W, W.1 = true → WtWf (h.1.2 l) W → WtO S g1 ad b (h.1.2 l) W → WtO S g1 ad b A1 W) : CJ B S g1 ad m (setL h l A1) kc := by
  obtain ⟨c1, ⟨c2, c3, c4⟩, ⟨d1, d2, d3, d4, d5, d6, d7⟩, c6⟩ := hC
  have hm := Mv.fr (S := S) hf
  have h6 := hW.1
  refine ⟨c1, ⟨c2.fr hf.1, c3.fr hf.1, c4.fr hf.1⟩, ⟨d1.fr hf.1, d2.fr hf (fun q => by have := n _ q; omega), ?_, d4.mv hm (fun r h q => by have := n r q; omega), d5.mv hm (fun r h q => by have := n r q; omega), d6.mv hm (fun r h q => by have := n r q; omega), fun w hw8 => ?_⟩, c6.fr hf (fun r r1 r2 q => by have := n r q; omega)⟩
  · obtain ⟨e1, e2, e3, e4, e5⟩ := d3
    refine ⟨e1, e2, fun i hi => by rw [hf.P]; exact e3 i hi, fun i hi => (e4 i hi).fr hf.1, fun i hi => ?_⟩
    show CLO S g1 ad (100 + 100 + 20 * i) (va_up h.1.2 l A1 i)
    by_cases c : i = l
    · subst c
      rw [va_same]; exact hA
    · rw [va_ne _ _ c]
      exact (e5 i hi).fr hf (fun r r1 r2 q => by have := n r q; omega)
  · obtain ⟨f1, f2⟩ := d7 w hw8
    have f2' := f2.fr hf (fun r r1 r2 q => by have := n r q; omega)
    refine ⟨by rw [hf.P]; exact f1, ?_⟩
    show WtO S g1 ad (100 + 500 + 2 * w) (va_up h.1.2 l A1 (wlg (h.2.2.2.2 w))) (h.2.2.2.2 w)
    by_cases c : wlg (h.2.2.2.2 w) = l
    · rw [c, va_same]
      rw [c] at f2'
      cases ht : (h.2.2.2.2 w).1 with
      | false => exact ⟨f2'.1, f2'.2.1, fun e => absurd e (by rw [ht]; decide)⟩
      | true =>
        obtain ⟨l1, l2, l3, l4⟩ := hW.2.2.2 w hw8 ht
        have el : wlg (h.2.2.2.2 w) = l1 := by
          unfold wlg
          rw [l3, nI_clamp (by omega)]
        have : l1 = l := el.symm.trans c
        subst this
        exact hw _ _ ht l4 f2'
    · rw [va_ne _ _ c]; exact f2'
theorem wt_cong {S : Hs} {g : Hg} {ad : Nat → Nat} {A A1 : ALog} (e1 : lks A1 = lks A) (e2 : lK A1 = lK A) : ∀ b W, W.1 = true → WtWf A W → WtO S g ad b A W → WtO S g ad b A1 W := fun b W _ _ h => h.cong (fun _ => ⟨e1, e2⟩)
theorem HoW.log {h : AHo} {l : Nat} {A1 : ALog} (hW : HoW h) (hs : lsz (h.1.2 l) ≤ lsz A1) (hk : ∀ i, i < lsz (h.1.2 l) → lky A1 i = lky (h.1.2 l) i) : HoW (setL h l A1) := by
  obtain ⟨w1, w2, w3, w4⟩ := hW
  refine ⟨w1, w2, fun r hr ht => ?_, fun w hw ht => ?_⟩
  · obtain ⟨l1, n, a1, a2, a3⟩ := w3 r hr ht
    refine ⟨l1, n, a1, ?_, a3⟩
    show n ≤ lsz (va_up h.1.2 l A1 l1)
    by_cases c : l1 = l
    · subst c; rw [va_same]; omega
    · rw [va_ne _ _ c]; exact a2
  · obtain ⟨l1, a1, a2, a3⟩ := w4 w hw ht
    refine ⟨l1, a1, a2, ?_⟩
    show WtWf (va_up h.1.2 l A1 l1) (h.2.2.2.2 w)
    by_cases c : l1 = l
    · subst c
      rw [va_same]
      obtain ⟨b1, b2, b3, b4, b5⟩ := a3
      refine ⟨by omega, b2, b3, b4, fun key hk2 => ?_⟩
      obtain ⟨i, i1, i2⟩ := b5 key hk2
      exact ⟨i, i1, by rw [hk i (by omega)]; exact i2⟩
    · rw [va_ne _ _ c]; exact a3
