/-! HEADS taken, BLAME told: the house with one HEAD, one time, one BLAME more -/
theorem m_copy3 {N : Nat} {S : Hs} {ad : Nat → Nat} (hI : Inj ad) {ra p rb q : Nat} (al : Bool) (la : p + 28 ≤ hpL S (ad ra)) (la2 : hpL S (ad ra) < 2 ^ 31) (lb : q + 28 ≤ hpL S (ad rb)) (lb2 : hpL S (ad rb) < 2 ^ 31) (hd : ra ≠ rb ∨ p + 28 ≤ q ∨ q + 28 ≤ p) : ∀ (i n : Nat) (g : Hg), i ≤ 28 → i < n →
    ∃ g1, n_X12_copy_3 N S n g (ad ra) (nI p) (ad rb) (nI q) (bI al) (nI (28 - i)) = some ((), g1) ∧ Fr ad (fun r => r = rb) g g1 ∧ (∀ j, 28 - i ≤ j → j < 28 → (al = true ∨ j ≠ 3) → g1.1 (ad rb) (q + j) = g.1 (ad ra) (p + j)) ∧ (∀ j, j < q + (28 - i) ∨ q + 28 ≤ j → g1.1 (ad rb) j = g.1 (ad rb) j) ∧ (al = false → g1.1 (ad rb) (q + 3) = g.1 (ad rb) (q + 3)) := by
  intro i
  induction i with
  | zero =>
    intro n g h1 h2
    obtain ⟨n, rfl⟩ : ∃ z, n = z + 1 := ⟨n - 1, by omega⟩
    refine ⟨g, ?_, Fr.rf, fun j j1 j2 => absurd j2 (by omega), fun j _ => rfl, fun _ => rfl⟩
    show b_X12_copy_3 N S _ g _ _ _ _ _ _ = _
    unfold b_X12_copy_3
    rw [if_pos (show (28 : Int32) ≤ nI (28 - 0) by decide)]
  | succ i ih =>
    intro n g h1 h2
    obtain ⟨n, rfl⟩ : ∃ z, n = z + 1 := ⟨n - 1, by omega⟩
    obtain ⟨k, hk⟩ : ∃ k, 28 - (i + 1) = k := ⟨_, rfl⟩
    have hk1 : 28 - i = k + 1 := by omega
    have hk28 : k < 28 := by omega
    rw [hk]
    have c28 : ¬ (28 : Int32) ≤ nI k := nI_ge (b := 28) hk28 (by decide)
    let g2 : Hg := rowI g (ad rb) (upd (g.1 (ad rb)) (q + k) (g.1 (ad ra) (p + k)))
    have f2 : Fr ad (fun r => r = rb) g g2 := Fr.row hI rfl
    have e2 : g2.1 (ad rb) = upd (g.1 (ad rb)) (q + k) (g.1 (ad ra) (p + k)) := rowI_same _ _ _
    have hcp : b_X12_copy_21 N S (n_X12_copy_3 N S n) g (ad ra) (nI p) (ad rb) (nI q) (bI al) (nI k) = n_X12_copy_3 N S n g2 (ad ra) (nI p) (ad rb) (nI q) (bI al) (nI (k + 1)) := by
      unfold b_X12_copy_21
      rw [nI_add, nI_add, inb_nI (show p + k < hpL S (ad ra) by omega) la2, ck_T, inb_nI (show q + k < hpL S (ad rb) by omega) lb2, ck_T, nI_clamp (show p + k < 2 ^ 31 by omega), nI_clamp (show q + k < 2 ^ 31 by omega), nm_D, wrI_row, rdI_def, nm_D, show nI k + 1 = nI (k + 1) from nI_add k 1]
    have go : n_X12_copy_3 N S (n + 1) g (ad ra) (nI p) (ad rb) (nI q) (bI al) (nI k) = n_X12_copy_3 N S n g2 (ad ra) (nI p) (ad rb) (nI q) (bI al) (nI (k + 1)) → (al = true ∨ k ≠ 3) → ∃ g1, n_X12_copy_3 N S (n + 1) g (ad ra) (nI p) (ad rb) (nI q) (bI al) (nI k) = some ((), g1) ∧ Fr ad (fun r => r = rb) g g1 ∧ (∀ j, k ≤ j → j < 28 → (al = true ∨ j ≠ 3) → g1.1 (ad rb) (q + j) = g.1 (ad ra) (p + j)) ∧ (∀ j, j < q + k ∨ q + 28 ≤ j → g1.1 (ad rb) j = g.1 (ad rb) j) ∧ (al = false → g1.1 (ad rb) (q + 3) = g.1 (ad rb) (q + 3)) := fun hs hal => by
      obtain ⟨g1, a1, a2, a3, a4, a5⟩ := ih n g2 (by omega) (by omega)
      rw [hk1] at a1 a3 a4
      refine ⟨g1, hs.trans a1, f2.tr a2, fun j j1 j2 j3 => ?_, fun j hj => ?_, fun hf => ?_⟩
      · by_cases c : j = k
        · subst c
          rw [a4 (q + j) (by omega), e2, upd_same]
        · rw [a3 j (by omega) j2 j3]
          by_cases d : ra = rb
          · subst d
            rw [e2, upd_ne _ _ (by omega)]
          · rw [f2.I d]
      · rw [a4 j (by omega), e2, upd_ne _ _ (by omega)]
      · rw [a5 hf, e2]
        rcases hal with h | h
        · rw [hf] at h; exact absurd h (by decide)
        · rw [upd_ne _ _ (by omega)]
    have hb : n_X12_copy_3 N S (n + 1) g (ad ra) (nI p) (ad rb) (nI q) (bI al) (nI k) = if bI al = (0 : Int32) then (if nI k = (3 : Int32) then n_X12_copy_3 N S n g (ad ra) (nI p) (ad rb) (nI q) (bI al) (nI (k + 1)) else n_X12_copy_3 N S n g2 (ad ra) (nI p) (ad rb) (nI q) (bI al) (nI (k + 1))) else n_X12_copy_3 N S n g2 (ad ra) (nI p) (ad rb) (nI q) (bI al) (nI (k + 1)) := by
      show b_X12_copy_3 N S (n_X12_copy_3 N S n) g _ _ _ _ _ _ = _
      unfold b_X12_copy_3
      rw [if_neg c28, hcp, nm_D, show nI k + 1 = nI (k + 1) from nI_add k 1]
    cases al with
    | true =>
      rw [if_neg (show ¬ bI true = (0 : Int32) from z10)] at hb
      exact go hb (Or.inl rfl)
    | false =>
      rw [if_pos (show bI false = (0 : Int32) from rfl)] at hb
      by_cases c : k = 3
      · rw [if_pos (by rw [c]; rfl)] at hb
        obtain ⟨g1, a1, a2, a3, a4, a5⟩ := ih n g (by omega) (by omega)
        rw [hk1] at a1 a3 a4
        refine ⟨g1, hb.trans a1, a2, fun j j1 j2 j3 => a3 j (by rcases j3 with h | h; exact absurd h (by decide); omega) j2 j3, fun j hj => a4 j (by omega), a5⟩
      · rw [if_neg (fun e : nI k = (3 : Int32) => c ((nI_eq (by omega) (by decide)).mp e))] at hb
        exact go hb (Or.inr c)
theorem m_copy {N : Nat} (hN : 40000 ≤ N) {S : Hs} {g : Hg} {ad : Nat → Nat} (hI : Inj ad) {ra p rb q : Nat} {H : AHd} (al : Bool) (la : p + 28 ≤ hpL S (ad ra)) (la2 : hpL S (ad ra) < 2 ^ 31) (lb : q + 28 ≤ hpL S (ad rb)) (lb2 : hpL S (ad rb) < 2 ^ 31) (hd : ra ≠ rb ∨ p + 28 ≤ q ∨ q + 28 ≤ p) (hH : RHd g ad ra p H) :
    ∃ g1, f_X12_copy N S g (ad ra) (nI p) (ad rb) (nI q) (bI al) = some ((), g1) ∧ Fr ad (fun r => r = rb) g g1 ∧ RHd g1 ad rb q H ∧ (∀ j, j < q ∨ q + 28 ≤ j → g1.1 (ad rb) j = g.1 (ad rb) j) ∧ (al = false → g1.1 (ad rb) (q + 3) = g.1 (ad rb) (q + 3)) := by
  obtain ⟨g1, a1, a2, a3, a4, a5⟩ := m_copy3 (N := N) hI al la la2 lb lb2 hd 28 N g (by omega) (by omega)
  refine ⟨g1, a1, a2, ?_, fun j hj => a4 j (by omega), a5⟩
  have cp : ∀ j, j < 28 → j ≠ 3 → g1.1 (ad rb) (q + j) = g.1 (ad ra) (p + j) := fun j h1 h2 => a3 j (by omega) h1 (Or.inr h2)
  obtain ⟨⟨b1, b2, b3⟩, b4, b5, b6⟩ := hH
  refine ⟨⟨(cp 0 (by omega) (by omega)).trans b1, (cp 1 (by omega) (by omega)).trans b2, (cp 2 (by omega) (by omega)).trans b3⟩, fun z hz => ?_, fun z hz => ?_, fun z hz => ?_⟩
  · have := cp (4 + z) (by omega) (by omega)
    rw [← Nat.add_assoc, ← Nat.add_assoc] at this
    exact this.trans (b4 z hz)
  · have := cp (12 + z) (by omega) (by omega)
    rw [← Nat.add_assoc, ← Nat.add_assoc] at this
    exact this.trans (b5 z hz)
  · have := cp (20 + z) (by omega) (by omega)
    rw [← Nat.add_assoc, ← Nat.add_assoc] at this
    exact this.trans (b6 z hz)
theorem CJ.hd {B : Nat} {R : Nat → Prop} {ad : Nat → Nat} {S : Hs} {g g1 : Hg} {m : Nat × Nat} {h : AHo} {kc : AKp} {r : Nat} {H : AHd} (hC : CJ B S g ad m h kc) (hr : r < 12) (hf : Fr ad R g g1) (n : ∀ q, R q → 500 + 4 * r ≤ q ∧ q < 504 + 4 * r) (hH : HdO S g1 ad (500 + 4 * r) H) : CJ B S g1 ad m (setH h r H) kc := by
  obtain ⟨c1, ⟨c2, c3, c4⟩, ⟨d1, d2, d3, d4, d5, d6, d7⟩, c6⟩ := hC
  have hm := Mv.fr (S := S) hf
  refine ⟨c1, ⟨c2.fr hf.1, c3.fr hf.1, c4.fr hf.1⟩, ⟨d1.fr hf.1, d2.fr hf (fun q => by have := n _ q; omega), d3.mv hm (fun r h q => by have := n r q; omega), d4.mv hm (fun r h q => by have := n r q; omega), fun i hi => ?_, d6.mv hm (fun r h q => by have := n r q; omega), d7.mv hm (fun r h q => by have := n r q; omega)⟩, c6.fr hf (fun r r1 r2 q => by have := n r q; omega)⟩
  obtain ⟨f1, f2, f3⟩ := d5 i hi
  refine ⟨by rw [hf.P]; exact f1, ?_, by rw [hf.I (fun q => by have := n _ q; omega)]; exact f3⟩
  show HdO S g1 ad (100 + 400 + 4 * i) (va_up h.2.2.1.1 r H i)
  by_cases c : i = r
  · subst c; rw [va_same]; exact hH
  · rw [va_ne _ _ c]
    exact f2.fr hf (fun r r1 r2 q => by have := n r q; omega)
theorem CJ.tm {B : Nat} {ad : Nat → Nat} {S : Hs} {g : Hg} {m : Nat × Nat} {h : AHo} {kc : AKp} {r : Nat} (v : Int32) (hC : CJ B S g ad m h kc) (hr : r < 12) : CJ B S (rowI g (ad 104) (upd (g.1 (ad 104)) r v)) ad m (setT h (upd h.2.2.1.2 r v)) kc := by
  have hf : Fr ad (fun q => q = 104) g (rowI g (ad 104) (upd (g.1 (ad 104)) r v)) := Fr.row hC.inj rfl
  have e : (rowI g (ad 104) (upd (g.1 (ad 104)) r v)).1 (ad 104) = upd (g.1 (ad 104)) r v := rowI_same _ _ _
  obtain ⟨c1, ⟨c2, c3, c4⟩, ⟨d1, d2, d3, d4, d5, d6, d7⟩, c6⟩ := hC
  have hm := Mv.fr (S := S) hf
  refine ⟨c1, ⟨c2.fr hf.1, c3.fr hf.1, c4.fr hf.1⟩, ⟨d1.fr hf.1, d2.fr hf (by omega), d3.mv hm (fun r h q => by omega), d4.mv hm (fun r h q => by omega), fun i hi => ?_, d6.mv hm (fun r h q => by omega), d7.mv hm (fun r h q => by omega)⟩, c6.fr hf (fun r r1 r2 q => by omega)⟩
  obtain ⟨f1, f2, f3⟩ := d5 i hi
  refine ⟨by rw [hf.P]; exact f1, f2.fr hf (fun r r1 r2 q => by omega), ?_⟩
  show (rowI g (ad 104) (upd (g.1 (ad 104)) r v)).1 (ad 104) i = upd h.2.2.1.2 r v i
  rw [e]
  by_cases c : i = r
  · subst c; rw [upd_same, upd_same]
  · rw [upd_ne _ _ c, upd_ne _ _ c]; exact f3
/-- what is not of the readers stays -/
theorem RJ.rds {S : Hs} {g g1 : Hg} {ad : Nat → Nat} {h : AHo} {kc : AKp} {R : Nat → Prop} {hd : Nat → AHd} {tm : Nat → Int32} (hR : RJ S g ad h kc) (hf : FM ad R g g1) (n : ∀ r, R r → r = 20014 ∨ r = 20015 ∨ 20044 ≤ r) (hX : RRd g1 ad 0 hd tm) : RJ S g1 ad (h.1, h.2.1, (hd, tm), h.2.2.2) kc := by
  obtain ⟨h1, ⟨⟨a1, a2⟩, b1, c1, d1, e1⟩, h3⟩ := hR
  have e : ∀ r, 20001 ≤ r → r ≤ 20043 → r ≠ 20014 → r ≠ 20015 → g1.1 (ad r) = g.1 (ad r) ∧ g1.2.1 (ad r) = g.2.1 (ad r) := fun r r1 r2 r3 r4 => ⟨hf.I (fun q => by have := n r q; omega) (by omega), hf.L (fun q => by have := n r q; omega) (by omega)⟩
  have e0 : ∀ k, k ≠ 49 → k ≠ 57 → k ≠ 62 → k ≠ 63 → g1.1 (ad 20000) k = g.1 (ad 20000) k := hf.2
  refine ⟨h1.fr hf.1.1, ⟨⟨(e0 1 (by omega) (by omega) (by omega) (by omega)).trans a1, fun i hi => (a2 i hi).eq (fun r r1 r2 => e r (by omega) (by omega) (by omega) (by omega))⟩, ?_, hX, ?_, ?_⟩, h3.eq (fun r r1 r2 => e r (by omega) (by omega) (by omega) (by omega)) (fun k hk => e0 k (by omega) (by omega) (by omega) (by omega))⟩
  · show RSs g1 ad 0 h.2.1
    unfold RSs RSl RSt
    rw [(e 20010 (by omega) (by omega) (by omega) (by omega)).1, (e 20011 (by omega) (by omega) (by omega) (by omega)).1, (e 20012 (by omega) (by omega) (by omega) (by omega)).2, (e 20013 (by omega) (by omega) (by omega) (by omega)).1]
    exact b1
  · show RBl g1 ad 0 _ _ _
    unfold RBl RHd
    rw [(e 20016 (by omega) (by omega) (by omega) (by omega)).1, e0 (16 + 0) (by omega) (by omega) (by omega) (by omega)]
    exact d1
  · show RWt g1 ad 0 _
    unfold RWt
    rw [(e 20018 (by omega) (by omega) (by omega) (by omega)).1, (e 20019 (by omega) (by omega) (by omega) (by omega)).1, (e 20020 (by omega) (by omega) (by omega) (by omega)).1, (e 20021 (by omega) (by omega) (by omega) (by omega)).1]
    exact e1
theorem RJ.hd {S : Hs} {g g1 : Hg} {ad : Nat → Nat} {h : AHo} {kc : AKp} {R : Nat → Prop} {r : Nat} {H : AHd} (hR : RJ S g ad h kc) (hr : r < 12) (hf : FM ad R g g1) (n : ∀ r, R r → r = 20014 ∨ r = 20015 ∨ 20044 ≤ r) (hX : RHd g1 ad 20014 (28 * r) H) (h3 : g1.1 (ad 20014) (28 * r + 3) = g.1 (ad 20014) (28 * r + 3)) (ho : ∀ j, j < 28 * r ∨ 28 * r + 28 ≤ j → g1.1 (ad 20014) j = g.1 (ad 20014) j) (hh : g1.1 (ad 20015) r = bI H.1) (hho : ∀ j, j ≠ r → g1.1 (ad 20015) j = g.1 (ad 20015) j) : RJ S g1 ad (setH h r H) kc := by
  refine hR.rds hf n (fun i hi => ?_)
  have hi' := hR.2.1.2.2.1 i hi
  show RHd g1 ad 20014 (28 * i) (va_up h.2.2.1.1 r H i) ∧ g1.1 (ad 20014) (28 * i + 3) = h.2.2.1.2 i ∧ g1.1 (ad 20015) i = bI (va_up h.2.2.1.1 r H i).1
  by_cases c : i = r
  · subst c
    rw [va_same]
    exact ⟨hX, h3.trans hi'.2.1, hh⟩
  · rw [va_ne _ _ c]
    exact ⟨RHd.row (ad1 := ad) hi'.1 (fun j hj => ho _ (by omega)), (ho _ (by omega)).trans hi'.2.1, (hho i c).trans hi'.2.2⟩
theorem RJ.tm' {S : Hs} {g : Hg} {ad : Nat → Nat} (hI : Inj ad) {h : AHo} {kc : AKp} {r : Nat} (v : Int32) (hR : RJ S g ad h kc) (hr : r < 12) : RJ S (rowI g (ad 20014) (upd (g.1 (ad 20014)) (28 * r + 3) v)) ad (setT h (upd h.2.2.1.2 r v)) kc := by
  have hf : Fr ad (fun q => q = 20014) g (rowI g (ad 20014) (upd (g.1 (ad 20014)) (28 * r + 3) v)) := Fr.row hI rfl
  have e : (rowI g (ad 20014) (upd (g.1 (ad 20014)) (28 * r + 3) v)).1 (ad 20014) = upd (g.1 (ad 20014)) (28 * r + 3) v := rowI_same _ _ _
  refine hR.rds (FM.fr hf (by omega)) (fun r hr => by omega) (fun i hi => ?_)
  have hi' := hR.2.1.2.2.1 i hi
  refine ⟨?_, ?_, by rw [hf.I (show ¬ 20015 + 0 = 20014 by omega)]; exact hi'.2.2⟩
  · obtain ⟨⟨b1, b2, b3⟩, b4, b5, b6⟩ := hi'.1
    refine ⟨⟨?_, ?_, ?_⟩, fun z hz => ?_, fun z hz => ?_, fun z hz => ?_⟩
    · refine (congrFun e _).trans ?_; rw [upd_ne _ _ (by omega)]; exact b1
    · refine (congrFun e _).trans ?_; rw [upd_ne _ _ (by omega)]; exact b2
    · refine (congrFun e _).trans ?_; rw [upd_ne _ _ (by omega)]; exact b3
    · refine (congrFun e _).trans ?_; rw [upd_ne _ _ (by omega)]; exact b4 z hz
    · refine (congrFun e _).trans ?_; rw [upd_ne _ _ (by omega)]; exact b5 z hz
    · refine (congrFun e _).trans ?_; rw [upd_ne _ _ (by omega)]; exact b6 z hz
  · refine (congrFun e _).trans ?_
    by_cases c : i = r
    · subst c; rw [upd_same, upd_same]
    · rw [upd_ne _ _ (by omega), upd_ne _ _ c]; exact hi'.2.1
theorem HoW.hd {h : AHo} {r : Nat} {H : AHd} (hW : HoW h) (hX : HdW h H) : HoW (setH h r H) := by
  obtain ⟨w1, w2, w3, w4⟩ := hW
  refine ⟨w1, w2, fun i hi => ?_, w4⟩
  show HdW h (va_up h.2.2.1.1 r H i)
  by_cases c : i = r
  · subst c; rw [va_same]; exact hX
  · rw [va_ne _ _ c]; exact w3 i hi
/-- one BLAME more, if there is room -/
def addB (h : AHo) (H1 H2 : AHd) : AHo := (h.1, h.2.1, h.2.2.1, (h.2.2.2.1.1 + 1, va_up h.2.2.2.1.2.1 h.2.2.2.1.1 H1, va_up h.2.2.2.1.2.2 h.2.2.2.1.1 H2), h.2.2.2.2)
def blmH (h : AHo) (H1 H2 : AHd) : AHo := if h.2.2.2.1.1 < 60 then addB h H1 H2 else h
theorem blmH_rd (h : AHo) (H1 H2 : AHd) : (blmH h H1 H2).2.2.1 = h.2.2.1 := by
  unfold blmH
  split <;> rfl
theorem HoW.bl {h : AHo} (hW : HoW h) (H1 H2 : AHd) : HoW (blmH h H1 H2) := by
  unfold blmH
  split
  · exact hW
  · exact hW
theorem HoW.tm {h : AHo} (hW : HoW h) (tm : Nat → Int32) : HoW (setT h tm) := hW
theorem c_tell {B N : Nat} {S : Hs} {g : Hg} {ad : Nat → Nat} {m : Nat × Nat} {h : AHo} {kc : AKp} {p q : Nat} {H1 H2 : AHd} (hC : CJ B S g ad m h kc) (hp : p = 16 ∨ 500 ≤ p ∧ p + 4 ≤ 600) (hq : q = 16 ∨ 500 ≤ q ∧ q + 4 ≤ 600) (hH1 : HdO S g ad p H1) (hH2 : HdO S g ad q H2) :
    ∃ ad1 S1 g1 k w m1, f_X1_tellBlame N S g (ad 100) (some (ad p)) (some (ad q)) = some ((), S1, g1, k, w) ∧ Mv (fun r => 100 ≤ r ∧ r < 1300) ad S g ad1 S1 g1 ∧ ad1 100 = ad 100 ∧ CJ B S1 g1 ad1 m1 (blmH h H1 H2) kc ∧ 4 * k + phi S1 ad1 m1 kc ≤ phi S ad m kc ∧ w + phi S1 ad1 m1 kc ≤ phi S ad m kc := by
  have n60 := hC.nb60
  by_cases c : h.2.2.2.1.1 < 60
  · have hroom := hC.1.2
    obtain ⟨ad1, S1, g1, k, w, mb1, a1, a2, a3, a4, a5, a6, a7, a8, a9⟩ := c_tellBlame (N := N) (b := 100) c (by omega) (by omega) hC.1.1 (by unfold phi phH at hroom; omega) hC.2.2.1.1 hC.2.2.1.2.1 hC.2.2.1.2.2.2.2.2.1 hH1 hH2
    obtain ⟨⟨c0, c1⟩, ⟨c2, c3, c4⟩, ⟨d1, d2, d3, d4, d5, d6, d7⟩, c6⟩ := hC
    have hph : phi S1 ad1 (m.1, mb1) kc + 100 * (60 - m.2) = phi S ad m kc + 100 * (60 - mb1) := by
      unfold phi phH
      rw [phS_mv a2 (fun r r1 r2 => by omega), phK_mv a2 (fun r r1 r2 => by omega), show hpL S1 (ad1 23) = hpL S (ad 23) from a2.len (by omega)]
      show 12000 * (6 - m.1) + 100 * (60 - mb1) + phS S ad 100 + (4096 - 2 * hpL S (ad 23)) + phK S ad kc + 100 * (60 - m.2) = 12000 * (6 - m.1) + 100 * (60 - m.2) + phS S ad 100 + (4096 - 2 * hpL S (ad 23)) + phK S ad kc + 100 * (60 - mb1)
      omega
    obtain ⟨e1, e2, e3⟩ := a9
    have hb : blmH h H1 H2 = addB h H1 H2 := if_pos c
    rw [hb]
    refine ⟨ad1, S1, g1, k, w, (m.1, mb1), a1, a2.mono (fun r hr => by omega), a4, ⟨⟨a3, by omega⟩, ⟨?_, c3.mv a2 (fun r r1 r2 => by omega), c4.mv a2 (fun r r1 r2 => by omega)⟩, ⟨a5, a6, d3.mv a2 (fun r h => by omega), d4.mv a2 (fun r h => by omega), d5.mv a2 (fun r h => by omega), a8, d7.mv a2 (fun r h => by omega)⟩, c6.mv a2 (fun r h => by omega)⟩, by omega, by omega⟩
    exact c2.mv a2 (fun r h => by omega) ⟨a2.ad (by omega), a2.ad (by omega), a4⟩
  · have hb : blmH h H1 H2 = h := if_neg c
    rw [hb]
    have e60 : h.2.2.2.1.1 = 60 := by omega
    have hc := hC.2.2.1.2.1
    rw [e60] at hc
    exact ⟨ad, S, g, 0, 0, m, c_tellBlameF hc, Mv.rf, rfl, hC, by omega, by omega⟩
theorem e56 (w : Nat) : (56 : Int32) * nI w = nI (56 * w) := pk_mul 56 w
theorem m_tell {N : Nat} (hN : 40000 ≤ N) {S : Hs} {g : Hg} {ad : Nat → Nat} (hI : Inj ad) {h : AHo} {kc : AKp} {ra p rb q : Nat} {H1 H2 : AHd} (hR : RJ S g ad h kc) (n60 : h.2.2.2.1.1 ≤ 60) (hra : ra = 20014 ∨ ra = 20060) (hrb : rb = 20014 ∨ rb = 20060) (la : p + 28 ≤ hpL S (ad ra)) (la2 : hpL S (ad ra) < 2 ^ 31) (lb : q + 28 ≤ hpL S (ad rb)) (lb2 : hpL S (ad rb) < 2 ^ 31) (hH1 : RHd g ad ra p H1) (hH2 : RHd g ad rb q H2) :
    ∃ g1, f_X12_blame N S g (ad 20000) (ad ra) (nI p) (ad rb) (nI q) = some ((), g1) ∧ Fr ad (fun r => r = 20000 ∨ r = 20016) g g1 ∧ RJ S g1 ad (blmH h H1 H2) kc := by
  have nb' := hR.nb
  have p15 : rdR _ (ad 20000) 15 = some (ad 20016) := hR.1.p 15 (by decide)
  have l15 : hpL _ (ad 20016) = 3360 := hR.1.l 15 (by decide) rfl
  by_cases c : h.2.2.2.1.1 < 60
  · have hb : blmH h H1 H2 = addB h H1 H2 := if_pos c
    rw [hb]
    generalize hk : h.2.2.2.1.1 = k at *
    obtain ⟨g1, a1, a2, a3, a4, _⟩ := m_copy (N := N) hN hI (rb := 20016) (q := 56 * k) true la la2 (by omega) (by omega) (by omega) hH1
    have hH2a := hH2.fr a2 (by omega)
    obtain ⟨g2, b1, b2, b3, b4, _⟩ := m_copy (N := N) hN hI (rb := 20016) (q := 56 * k + 28) true lb lb2 (by omega) (by omega) (by omega) hH2a
    let g3 : Hg := rowI g2 (ad 20000) (upd (g2.1 (ad 20000)) 16 (nI (k + 1)))
    have f3 : Fr ad (fun r => r = 20000) g2 g3 := Fr.row hI rfl
    have fA : Fr ad (fun r => r = 20000 ∨ r = 20016) g g3 := ((a2.mono (fun r hr => by omega)).tr (b2.mono (fun r hr => by omega))).tr (f3.mono (fun r hr => by omega))
    have e0 : g3.1 (ad 20000) = upd (g.1 (ad 20000)) 16 (nI (k + 1)) := by
      rw [show g3.1 (ad 20000) = upd (g2.1 (ad 20000)) 16 (nI (k + 1)) from rowI_same _ _ _, b2.I (by omega), a2.I (by omega)]
    have e16 : g3.1 (ad 20016) = g2.1 (ad 20016) := f3.I (by omega)
    refine ⟨g3, ?_, fA, ?_⟩
    · have v1 : g1.1 (ad 20000) 16 = nI k := by rw [a2.I (by omega)]; exact nb'
      have v2 : g2.1 (ad 20000) 16 = nI k := by rw [b2.I (by omega)]; exact v1
      have p15' : rdR _ (ad 20000) 15 = some (ad 20016) := (hR.1.fr a2.1).p 15 (by decide)
      show b_X12_blame_0 N S g _ _ _ _ _ = _
      unfold b_X12_blame_0
      rw [rdI_def, nb', if_neg (show ¬ nI k = (60 : Int32) from fun e => by have := (nI_eq (b := 60) (by omega) (by decide)).mp e; omega), p15, nn_S, e56, show f_X12_copy N S g (ad ra) (nI p) (ad 20016) (nI (56 * k)) (1 : Int32) = _ from a1, c2_S, p15', nn_S, rdI_def, v1, e56, show nI (56 * k) + (28 : Int32) = nI (56 * k + 28) from nI_add _ 28, show f_X12_copy N S g1 (ad rb) (nI q) (ad 20016) (nI (56 * k + 28)) (1 : Int32) = _ from b1, c2_S, nm_D, wrI_row, rdI_def, v2, show nI k + (1 : Int32) = nI (k + 1) from nI_add k 1]
    · obtain ⟨h1, ⟨⟨x1, x2⟩, y1, z1, ⟨d1, d2⟩, e1⟩, h3⟩ := hR
      have e : ∀ r, 20001 ≤ r → r ≤ 20043 → r ≠ 20016 → g3.1 (ad r) = g.1 (ad r) ∧ g3.2.1 (ad r) = g.2.1 (ad r) := fun r r1 r2 r3 => ⟨fA.I (by omega), fA.L (by omega)⟩
      refine ⟨h1.fr fA.1, ⟨⟨by rw [e0, upd_ne _ _ (by omega)]; exact x1, fun i hi => (x2 i hi).eq (fun r r1 r2 => e r (by omega) (by omega) (by omega))⟩, ?_, ?_, ⟨?_, fun i hi => ?_⟩, ?_⟩, h3.eq (fun r r1 r2 => e r (by omega) (by omega) (by omega)) (fun k hk => by rw [e0, upd_ne _ _ (by omega)])⟩
      · show RSs g3 ad 0 h.2.1
        unfold RSs RSl RSt
        rw [(e 20010 (by omega) (by omega) (by omega)).1, (e 20011 (by omega) (by omega) (by omega)).1, (e 20012 (by omega) (by omega) (by omega)).2, (e 20013 (by omega) (by omega) (by omega)).1]
        exact y1
      · show RRd g3 ad 0 h.2.2.1.1 h.2.2.1.2
        unfold RRd RHd
        rw [(e 20014 (by omega) (by omega) (by omega)).1, (e 20015 (by omega) (by omega) (by omega)).1]
        exact z1
      · show g3.1 (ad 20000) 16 = nI (h.2.2.2.1.1 + 1)
        rw [e0, upd_same, hk]
      · have hi : i < h.2.2.2.1.1 + 1 := hi
        show RHd g3 ad 20016 (56 * i) (va_up h.2.2.2.1.2.1 h.2.2.2.1.1 H1 i) ∧ RHd g3 ad 20016 (56 * i + 28) (va_up h.2.2.2.1.2.2 h.2.2.2.1.1 H2 i)
        rw [hk] at hi ⊢
        by_cases ci : i = k
        · subst ci
          rw [va_same, va_same]
          refine ⟨RHd.row (ad1 := ad) a3 (fun j hj => ?_), RHd.row (ad1 := ad) b3 (fun j hj => ?_)⟩
          · rw [e16]; exact b4 _ (by omega)
          · rw [e16]
        · rw [va_ne _ _ ci, va_ne _ _ ci]
          have hd : RHd g ad 20016 (56 * i) (h.2.2.2.1.2.1 i) ∧ RHd g ad 20016 (56 * i + 28) (h.2.2.2.1.2.2 i) := d2 i (by omega)
          have hs : ∀ j, j < 56 * k → g3.1 (ad 20016) j = g.1 (ad 20016) j := fun j hj => by rw [e16, b4 j (by omega), a4 j (by omega)]
          exact ⟨RHd.row (ad1 := ad) hd.1 (fun j hj => hs _ (by omega)), RHd.row (ad1 := ad) hd.2 (fun j hj => hs _ (by omega))⟩
      · show RWt g3 ad 0 _
        unfold RWt
        rw [(e 20018 (by omega) (by omega) (by omega)).1, (e 20019 (by omega) (by omega) (by omega)).1, (e 20020 (by omega) (by omega) (by omega)).1, (e 20021 (by omega) (by omega) (by omega)).1]
        exact e1
  · have hb : blmH h H1 H2 = h := if_neg c
    rw [hb]
    refine ⟨g, ?_, Fr.rf, hR⟩
    have e60 : h.2.2.2.1.1 = 60 := by omega
    show b_X12_blame_0 N S g _ _ _ _ _ = _
    unfold b_X12_blame_0
    rw [rdI_def, nb', e60, if_pos (show nI 60 = (60 : Int32) from rfl)]
