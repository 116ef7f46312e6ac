/-! making: roles may get new addresses -/
def AdOk (B : Nat) (ad : Nat → Nat) (S : Hs) : Prop := Inj ad ∧ ∀ r, ad r < hpN S ∨ B ≤ ad r
/-- only the roles R change, their addresses, lengths and references too -/
def Mv (R : Nat → Prop) (ad : Nat → Nat) (S : Hs) (g : Hg) (ad1 : Nat → Nat) (S1 : Hs) (g1 : Hg) : Prop := ∀ r, ¬ R r → ad1 r = ad r ∧ hpL S1 (ad r) = hpL S (ad r) ∧ g1.1 (ad r) = g.1 (ad r) ∧ g1.2.1 (ad r) = g.2.1 (ad r) ∧ g1.2.2 (ad r) = g.2.2 (ad r)
theorem Mv.rf {R : Nat → Prop} {ad : Nat → Nat} {S : Hs} {g : Hg} : Mv R ad S g ad S g := fun _ _ => ⟨rfl, rfl, rfl, rfl, rfl⟩
theorem Mv.mono {R Q : Nat → Prop} {ad ad1 : Nat → Nat} {S S1 : Hs} {g g1 : Hg} (h : Mv R ad S g ad1 S1 g1) (hq : ∀ r, R r → Q r) : Mv Q ad S g ad1 S1 g1 := fun r hr => h r (fun q => hr (hq r q))
theorem Mv.tr {R : Nat → Prop} {ad ad1 ad2 : Nat → Nat} {S S1 S2 : Hs} {g g1 g2 : Hg} (h : Mv R ad S g ad1 S1 g1) (h1 : Mv R ad1 S1 g1 ad2 S2 g2) : Mv R ad S g ad2 S2 g2 := fun r hr => by
  obtain ⟨a1, a2, a3, a4, a5⟩ := h r hr
  obtain ⟨b1, b2, b3, b4, b5⟩ := h1 r hr
  rw [a1] at b1 b2 b3 b4 b5
  exact ⟨b1, b2.trans a2, b3.trans a3, b4.trans a4, b5.trans a5⟩
theorem Mv.fr {R : Nat → Prop} {ad : Nat → Nat} {S : Hs} {g g1 : Hg} (h : Fr ad R g g1) : Mv R ad S g ad S g1 := fun r hr => ⟨rfl, rfl, (h.2 r hr).1, (h.2 r hr).2, by rw [h.1]⟩
theorem Mv.I {R : Nat → Prop} {ad ad1 : Nat → Nat} {S S1 : Hs} {g g1 : Hg} (h : Mv R ad S g ad1 S1 g1) {r : Nat} (hr : ¬ R r) : g1.1 (ad1 r) = g.1 (ad r) := by
  obtain ⟨a1, a2, a3, a4, a5⟩ := h r hr
  rw [a1, a3]
theorem Mv.L {R : Nat → Prop} {ad ad1 : Nat → Nat} {S S1 : Hs} {g g1 : Hg} (h : Mv R ad S g ad1 S1 g1) {r : Nat} (hr : ¬ R r) : g1.2.1 (ad1 r) = g.2.1 (ad r) := by
  obtain ⟨a1, a2, a3, a4, a5⟩ := h r hr
  rw [a1, a4]
theorem Mv.len {R : Nat → Prop} {ad ad1 : Nat → Nat} {S S1 : Hs} {g g1 : Hg} (h : Mv R ad S g ad1 S1 g1) {r : Nat} (hr : ¬ R r) : hpL S1 (ad1 r) = hpL S (ad r) := by
  obtain ⟨a1, a2, a3, a4, a5⟩ := h r hr
  rw [a1, a2]
theorem Mv.P {R : Nat → Prop} {ad ad1 : Nat → Nat} {S S1 : Hs} {g g1 : Hg} (h : Mv R ad S g ad1 S1 g1) {r q k : Nat} (hr : ¬ R r) (hq : ¬ R q) (hp : rdR g (ad r) k = some (ad q)) : rdR g1 (ad1 r) k = some (ad1 q) := by
  obtain ⟨a1, a2, a3, a4, a5⟩ := h r hr
  obtain ⟨b1, -⟩ := h q hq
  show g1.2.2 (ad1 r) k = _
  rw [a1, a5, b1]
  exact hp
theorem Mv.ad {R : Nat → Prop} {ad ad1 : Nat → Nat} {S S1 : Hs} {g g1 : Hg} (h : Mv R ad S g ad1 S1 g1) {r : Nat} (hr : ¬ R r) : ad1 r = ad r := (h r hr).1
theorem ScP.mv {R : Nat → Prop} {ad ad1 : Nat → Nat} {S S1 : Hs} {g g1 : Hg} (h : ScP S g ad) (hm : Mv R ad S g ad1 S1 g1) (hr : ∀ r, R r → 16 ≤ r ∧ r ≠ 16 ∧ r ≠ 20 ∧ r ≠ 100 ∨ r = 16 ∨ r = 20 ∨ r = 100) (h0 : ad1 16 = ad 16 ∧ ad1 20 = ad 20 ∧ ad1 100 = ad 100) : ScP S1 g1 ad1 := by
  have n : ∀ r, r < 16 → ¬ R r := fun r h q => by
    have := hr r q
    omega
  obtain ⟨⟨a1, a2, a3, a4⟩, ⟨b1, b2, b3, b4, b5, b6, b7, b8, b9⟩, ⟨c1, c2, c3, c4, c5, c6, c7⟩, ⟨d1, d2, d3, d4, d5, d6, d7⟩, ⟨e1, e2, e3, e4, e5, e6⟩⟩ := h
  have p0 : ∀ k z, z = 16 ∨ z = 20 ∨ z = 100 → rdR g (ad 0) k = some (ad z) → rdR g1 (ad1 0) k = some (ad1 z) := fun k z hz hp => by
    obtain ⟨q1, -, -, -, q5⟩ := hm 0 (n 0 (by omega))
    show g1.2.2 (ad1 0) k = _
    rw [q1, q5]
    refine Eq.trans hp ?_
    rcases hz with rfl | rfl | rfl
    · rw [h0.1]
    · rw [h0.2.1]
    · rw [h0.2.2]
  refine ⟨⟨hm.P (n _ (by omega)) (n _ (by omega)) a1, hm.P (n _ (by omega)) (n _ (by omega)) a2, (hm.len (n _ (by omega))).trans a3, (hm.len (n _ (by omega))).trans a4⟩, ⟨hm.P (n _ (by omega)) (n _ (by omega)) b1, hm.P (n _ (by omega)) (n _ (by omega)) b2, hm.P (n _ (by omega)) (n _ (by omega)) b3, hm.P (n _ (by omega)) (n _ (by omega)) b4, hm.P (n _ (by omega)) (n _ (by omega)) b5, (hm.len (n _ (by omega))).trans b6, (hm.len (n _ (by omega))).trans b7, (hm.len (n _ (by omega))).trans b8, (hm.len (n _ (by omega))).trans b9⟩, ⟨hm.P (n _ (by omega)) (n _ (by omega)) c1, hm.P (n _ (by omega)) (n _ (by omega)) c2, hm.P (n _ (by omega)) (n _ (by omega)) c3, hm.P (n _ (by omega)) (n _ (by omega)) c4, hm.P (n _ (by omega)) (n _ (by omega)) c5, (hm.len (n _ (by omega))).trans c6, (hm.len (n _ (by omega))).trans c7⟩, ⟨hm.P (n _ (by omega)) (n _ (by omega)) d1, hm.P (n _ (by omega)) (n _ (by omega)) d2, hm.P (n _ (by omega)) (n _ (by omega)) d3, hm.P (n _ (by omega)) (n _ (by omega)) d4, (hm.len (n _ (by omega))).trans d5, (hm.len (n _ (by omega))).trans d6, (hm.len (n _ (by omega))).trans d7⟩, ⟨hm.P (n _ (by omega)) (n _ (by omega)) e1, hm.P (n _ (by omega)) (n _ (by omega)) e2, hm.P (n _ (by omega)) (n _ (by omega)) e3, p0 3 100 (by omega) e4, p0 4 16 (by omega) e5, p0 5 20 (by omega) e6⟩⟩
theorem LgP.mv {R : Nat → Prop} {ad ad1 : Nat → Nat} {S S1 : Hs} {g g1 : Hg} {b : Nat} (h : LgP S g ad b) (hm : Mv R ad S g ad1 S1 g1) (n : ∀ r, b ≤ r → r < b + 14 → ¬ R r) : LgP S1 g1 ad1 b := by
  obtain ⟨⟨a1, a2, a3, a4, a5, a6, a7⟩, ⟨b1, b2, b3⟩, ⟨c1, c2, c3⟩, ⟨d1, d2, d3, d4, d5⟩, ⟨e1, e2, e3, e4, e5, e6⟩⟩ := h
  refine ⟨⟨?_, ?_, ?_, ?_, ?_, ?_, ?_⟩, ⟨?_, ?_, ?_⟩, ⟨?_, ?_, ?_⟩, ⟨?_, ?_, ?_, ?_, ?_⟩, ⟨?_, ?_, ?_, ?_, ?_, ?_⟩⟩ <;> first | (refine hm.P (n _ (by omega) (by omega)) (n _ (by omega) (by omega)) ?_; assumption) | (rw [hm.len (n _ (by omega) (by omega))]; assumption)
theorem HdP.mv {R : Nat → Prop} {ad ad1 : Nat → Nat} {S S1 : Hs} {g g1 : Hg} {b : Nat} (h : HdP S g ad b) (hm : Mv R ad S g ad1 S1 g1) (n : ∀ r, b ≤ r → r < b + 4 → ¬ R r) : HdP S1 g1 ad1 b := by
  obtain ⟨a1, a2, a3, a4, a5, a6⟩ := h
  refine ⟨?_, ?_, ?_, ?_, ?_, ?_⟩ <;> first | (refine hm.P (n _ (by omega) (by omega)) (n _ (by omega) (by omega)) ?_; assumption) | (rw [hm.len (n _ (by omega) (by omega))]; assumption)
theorem PfP.mv {R : Nat → Prop} {ad ad1 : Nat → Nat} {S S1 : Hs} {g g1 : Hg} {b : Nat} (h : PfP S g ad b) (hm : Mv R ad S g ad1 S1 g1) (n : ∀ r, b ≤ r → r < b + 4 → ¬ R r) : PfP S1 g1 ad1 b := by
  obtain ⟨a1, a2, a3, a4, a5, j, j1, j2⟩ := h
  refine ⟨?_, ?_, ?_, ?_, ?_, j, j1, ?_⟩ <;> first | (refine hm.P (n _ (by omega) (by omega)) (n _ (by omega) (by omega)) ?_; assumption) | (rw [hm.len (n _ (by omega) (by omega))]; assumption)
theorem WtP.mv {R : Nat → Prop} {ad ad1 : Nat → Nat} {S S1 : Hs} {g g1 : Hg} {b : Nat} (h : WtP S g ad b) (hm : Mv R ad S g ad1 S1 g1) (n : ∀ r, b ≤ r → r < b + 2 → ¬ R r) : WtP S1 g1 ad1 b := by
  obtain ⟨a1, a2⟩ := h
  exact ⟨hm.P (n _ (by omega) (by omega)) (n _ (by omega) (by omega)) a1, by rw [hm.len (n _ (by omega) (by omega))]; exact a2⟩
theorem RfP.mv {R : Nat → Prop} {ad ad1 : Nat → Nat} {S S1 : Hs} {g g1 : Hg} (h : RfP S g ad) (hm : Mv R ad S g ad1 S1 g1) (n : ∀ r, 20000 ≤ r → ¬ R r) : RfP S1 g1 ad1 := fun k h1 h2 => by
  obtain ⟨a1, a2⟩ := h k h1 h2
  exact ⟨hm.P (n _ (by omega)) (n _ (by omega)) a1, by rw [hm.len (n _ (by omega))]; exact a2⟩
/-! what lies in a SLOT: (kind, n, first, end, key, latest, other), entries, STEPS -/
abbrev ASl : Type := (Int32 × Int32 × Int32 × Int32 × Int32 × Int32 × Int32) × (Nat × (Nat → Int32) × (Nat → Int64)) × (Nat × (Nat → Nat → Int32))
def PfV (g : Hg) (ad : Nat → Nat) (b : Nat) (X : ASl) : Prop :=
  (g.1 (ad b) 3 = nI X.2.1.1 ∧ g.1 (ad b) 4 = nI X.2.2.1 ∧ g.1 (ad b) 5 = X.1.1 ∧ g.1 (ad b) 6 = X.1.2.1 ∧ g.1 (ad b) 7 = X.1.2.2.1 ∧ g.1 (ad b) 8 = X.1.2.2.2.1 ∧ g.1 (ad b) 9 = X.1.2.2.2.2.1 ∧ g.1 (ad b) 10 = X.1.2.2.2.2.2.1 ∧ g.1 (ad b) 11 = X.1.2.2.2.2.2.2) ∧
  (∀ i, i < X.2.1.1 → g.1 (ad (b + 1)) i = X.2.1.2.1 i ∧ g.2.1 (ad (b + 2)) i = X.2.1.2.2 i) ∧ (∀ s, s < X.2.2.1 → eq8 (seg (g.1 (ad (b + 3))) (8 * s)) (X.2.2.2 s))
/-- a PROOF at role b that holds X -/
def PfO (S : Hs) (g : Hg) (ad : Nat → Nat) (b : Nat) (X : ASl) : Prop := PfP S g ad b ∧ PfV g ad b X ∧ 8 * X.2.2.1 ≤ hpL S (ad (b + 3))
def stepX (X : ASl) (v : Nat → Int32) : ASl := (X.1, X.2.1, X.2.2.1 + 1, va_up X.2.2.2 X.2.2.1 v)
def entX (X : ASl) (k : Int32) (v : Int64) : ASl := (X.1, (X.2.1.1 + 1, upd X.2.1.2.1 X.2.1.1 k, fun i => if i = X.2.1.1 then v else X.2.1.2.2 i), X.2.2)
def begX (kind n first : Int32) : ASl := ((kind, n, first, 0, 0, 0, 0), (0, fun _ => 0, fun _ => 0), (0, fun _ _ => 0))
/-- what making a row of STEPS anew costs -/
def Gw (ad : Nat → Nat) (S : Hs) (ad1 : Nat → Nat) (S1 : Hs) (b k w : Nat) : Prop := hpN S1 = hpN S + k ∧ w + 2 * hpL S (ad (b + 3)) = 2 * hpL S1 (ad1 (b + 3)) ∧ 128 * k ≤ w
theorem Gw.rf {ad : Nat → Nat} {S : Hs} {b : Nat} : Gw ad S ad S b 0 0 := ⟨rfl, by omega, by omega⟩
theorem Gw.tr {ad ad1 ad2 : Nat → Nat} {S S1 S2 : Hs} {b k w k1 w1 : Nat} (h : Gw ad S ad1 S1 b k w) (h1 : Gw ad1 S1 ad2 S2 b k1 w1) : Gw ad S ad2 S2 b (k + k1) (w + w1) := by
  obtain ⟨a1, a2, a3⟩ := h
  obtain ⟨b1, b2, b3⟩ := h1
  exact ⟨by omega, by omega, by omega⟩
theorem PfP.le {S : Hs} {g : Hg} {ad : Nat → Nat} {b : Nat} (h : PfP S g ad b) : 128 ≤ hpL S (ad (b + 3)) ∧ hpL S (ad (b + 3)) ≤ 2048 := by
  obtain ⟨-, -, -, -, -, j, j1, j2⟩ := h
  have : j = 0 ∨ j = 1 ∨ j = 2 ∨ j = 3 ∨ j = 4 := by omega
  rcases this with rfl | rfl | rfl | rfl | rfl <;> omega
/-- room is left for the rows of a PROOF -/
def Room (B : Nat) (ad : Nat → Nat) (S : Hs) (b : Nat) : Prop := hpN S + 2048 < B + hpL S (ad (b + 3))
theorem Room.gw {B : Nat} {ad ad1 : Nat → Nat} {S S1 : Hs} {b k w : Nat} (h : Room B ad S b) (hg : Gw ad S ad1 S1 b k w) : Room B ad1 S1 b := by
  obtain ⟨a1, a2, a3⟩ := hg
  unfold Room at h ⊢
  omega
theorem c5_S {α ρ : Type} {r : α} {S : Hs} {g : Hg} {k w : Nat} {f : α → Hs → Hg → Option (ρ × Hs × Hg × Nat × Nat)} : c5 (some (r, S, g, k, w)) f = tk k w (f r S g) := rfl
theorem tk_S {ρ : Type} {r : ρ} {S : Hs} {g : Hg} {k w k1 w1 : Nat} : tk k w (some (r, S, g, k1, w1)) = some (r, S, g, k + k1, w + w1) := rfl
theorem c_tellStep46 {N : Nat} {S : Hs} {g : Hg} {ad : Nat → Nat} (hI : Inj ad) {b rs p : Nat} {X : ASl} {v : Nat → Int32} (hP : PfP S g ad b) (hV : PfV g ad b X) (hl : 8 * X.2.2.1 + 8 ≤ hpL S (ad (b + 3))) (hp : 8 * p + 8 ≤ hpL S (ad rs)) (hp2 : hpL S (ad rs) < 2 ^ 31) (hv : eq8 (seg (g.1 (ad rs)) (8 * p)) v) :
    ∃ g1, b_X7_tellStep_46 N S g (ad b) (ad rs) (nI p) = some ((), S, g1, 0, 0) ∧ Fr ad (fun r => r = b ∨ r = b + 3) g g1 ∧ PfV g1 ad b (stepX X v) := by
  have hle := hP.le
  obtain ⟨⟨v3, v4, v5, v6, v7, v8, v9, v10, v11⟩, ve, vs⟩ := hV
  have hc := c_copySum (N := N) (S := S) (g := g) (a := ad rs) (p := p) (b := ad (b + 3)) (q := X.2.2.1) (x1 := nI p) (x3 := nI X.2.2.1) rfl rfl hp hp2 hl (by omega)
  refine ⟨rowI (rowI g (ad (b + 3)) (putA (g.1 (ad (b + 3))) (8 * X.2.2.1) (seg (g.1 (ad rs)) (8 * p)))) (ad b) (upd (g.1 (ad b)) 4 (nI (X.2.2.1 + 1))), ?_, Fr.rt hI (Fr.row hI (Or.inl rfl)) (Or.inr rfl), ?_⟩
  · unfold b_X7_tellStep_46
    rw [hP.2.2.1, nn_S, show rdI g (ad b) 4 = _ from v4, hc, c2_S]
    simp (disch := (first | assumption | omega | (apply Inj.ne <;> first | assumption | omega) | fail)) only [nn_S, nm_D, ck_T, c2_S, on_N, on_S, lit, mNEG, nI_add, pk_mul, inb_nI, nI_clamp, wrI_row, wrL_row, rdR_rowI, rdR_rowL, rdI_def, rdL_def, rowI_same, rowI_ne, rowI_rowI, rowL_same, rowL_ne, rowL_1, rowI_21, upd_same, upd_ne, nI_le_T, nI_le_F, nI_lt_T, nI_lt_F, nI_eq_F, nI_NEG, NEG_lt0, nI_p, eq_self, if_true, if_false, v4]
  · refine ⟨⟨?_, ?_, ?_, ?_, ?_, ?_, ?_, ?_, ?_⟩, fun i hi => ?_, fun s hs => ?_⟩
    all_goals try (simp (disch := (first | assumption | omega | (apply Inj.ne <;> first | assumption | omega) | fail)) only [nn_S, nm_D, ck_T, c2_S, on_N, on_S, lit, mNEG, nI_add, pk_mul, inb_nI, nI_clamp, wrI_row, wrL_row, rdR_rowI, rdR_rowL, rdI_def, rdL_def, rowI_same, rowI_ne, rowI_rowI, rowL_same, rowL_ne, rowL_1, rowI_21, upd_same, upd_ne, nI_le_T, nI_le_F, nI_lt_T, nI_lt_F, nI_eq_F, nI_NEG, NEG_lt0, nI_p, eq_self, if_true, if_false]; first | assumption | rfl)
    · simp (disch := (first | assumption | omega | (apply Inj.ne <;> first | assumption | omega) | fail)) only [nn_S, nm_D, ck_T, c2_S, on_N, on_S, lit, mNEG, nI_add, pk_mul, inb_nI, nI_clamp, wrI_row, wrL_row, rdR_rowI, rdR_rowL, rdI_def, rdL_def, rowI_same, rowI_ne, rowI_rowI, rowL_same, rowL_ne, rowL_1, rowI_21, upd_same, upd_ne, nI_le_T, nI_le_F, nI_lt_T, nI_lt_F, nI_eq_F, nI_NEG, NEG_lt0, nI_p, eq_self, if_true, if_false]
      exact ve i hi
    · have hs : s < X.2.2.1 + 1 := hs
      simp (disch := (first | assumption | omega | (apply Inj.ne <;> first | assumption | omega) | fail)) only [nn_S, nm_D, ck_T, c2_S, on_N, on_S, lit, mNEG, nI_add, pk_mul, inb_nI, nI_clamp, wrI_row, wrL_row, rdR_rowI, rdR_rowL, rdI_def, rdL_def, rowI_same, rowI_ne, rowI_rowI, rowL_same, rowL_ne, rowL_1, rowI_21, upd_same, upd_ne, nI_le_T, nI_le_F, nI_lt_T, nI_lt_F, nI_eq_F, nI_NEG, NEG_lt0, nI_p, eq_self, if_true, if_false]
      by_cases e : s = X.2.2.1
      · rw [e]
        show eq8 _ (va_up X.2.2.2 X.2.2.1 v X.2.2.1)
        simp only [va_up, if_true]
        exact seg_putA.tr hv
      · show eq8 _ (va_up X.2.2.2 X.2.2.1 v s)
        simp only [va_up, if_neg e]
        intro j hj
        show putA _ _ _ (8 * s + j) = _
        rw [putA_out (by omega)]
        exact vs s (by omega) j hj
theorem nw_adok {B : Nat} {ad : Nat → Nat} {S : Hs} (h : AdOk B ad S) (hB : hpN S < B) (K n r : Nat) : AdOk B (va_up ad r (hpN S)) (nwS S K n) := by
  have hn : hpN (nwS S K n) = hpN S + 1 := rfl
  refine ⟨fun a b e => ?_, fun q => ?_⟩
  · by_cases ha : a = r
    · by_cases hb : b = r
      · rw [ha, hb]
      · simp only [va_up, ha, hb, if_true, if_false] at e
        have := h.2 b
        omega
    · by_cases hb : b = r
      · simp only [va_up, ha, hb, if_true, if_false] at e
        have := h.2 a
        omega
      · simp only [va_up, ha, hb, if_false] at e
        exact h.1 a b e
  · by_cases hq : q = r
    · left
      simp only [va_up, hq, if_true]
      omega
    · simp only [va_up, hq, if_false]
      have := h.2 q
      omega
theorem c_tellStep {N B : Nat} {S : Hs} {g : Hg} {ad : Nat → Nat} (hA : AdOk B ad S) {b rs p : Nat} {x : Int32} {X : ASl} {v : Nat → Int32} (e : x = nI p) (hO : PfO S g ad b X) (hB : Room B ad S b) (hc : X.2.2.1 < 256) (hrs : rs ≠ b + 3) (hp : 8 * p + 8 ≤ hpL S (ad rs)) (hp2 : hpL S (ad rs) < 2 ^ 31) (hv : eq8 (seg (g.1 (ad rs)) (8 * p)) v) :
    ∃ ad1 S1 g1 k w, f_X7_tellStep N S g (ad b) (ad rs) x = some ((), S1, g1, k, w) ∧ Mv (fun r => r = b ∨ r = b + 3) ad S g ad1 S1 g1 ∧ AdOk B ad1 S1 ∧ ad1 b = ad b ∧ PfO S1 g1 ad1 b (stepX X v) ∧ Gw ad S ad1 S1 b k w := by
  subst e
  obtain ⟨hP, hV, hfit⟩ := hO
  have hle := hP.le
  have v4 := hV.1.2.1
  by_cases c1 : 8 * X.2.2.1 + 8 ≤ hpL S (ad (b + 3))
  · obtain ⟨g1, a1, a2, a3⟩ := c_tellStep46 (N := N) hA.1 hP hV c1 hp hp2 hv
    refine ⟨ad, S, g1, 0, 0, ?_, Mv.fr a2, hA, rfl, ⟨hP.fr a2.1, a3, by show 8 * (X.2.2.1 + 1) ≤ _; omega⟩, Gw.rf⟩
    show b_X7_tellStep_0 N S g _ _ _ = _
    unfold b_X7_tellStep_0
    simp (disch := (first | assumption | omega | (apply Inj.ne <;> first | assumption | omega) | fail)) only [nn_S, nm_D, ck_T, c2_S, on_N, on_S, lit, mNEG, nI_add, pk_mul, inb_nI, nI_clamp, wrI_row, wrL_row, rdR_rowI, rdR_rowL, rdI_def, rdL_def, rowI_same, rowI_ne, rowI_rowI, rowL_same, rowL_ne, rowL_1, rowI_21, upd_same, upd_ne, nI_le_T, nI_le_F, nI_lt_T, nI_lt_F, nI_eq_F, nI_NEG, NEG_lt0, nI_p, eq_self, if_true, if_false, v4, hP.2.2.1]
    exact a1
  · -- a longer row
    obtain ⟨p1, p2, p3, p4, p5, j, j1, j2⟩ := id hP
    have hj : j < 4 := by
      have : j = 4 ∨ j < 4 := by omega
      rcases this with rfl | h
      · omega
      · exact h
    have hpw : 2 ^ (j + 1) = 2 * 2 ^ j := by rw [Nat.pow_succ]; omega
    generalize hL : hpL S (ad (b + 3)) = L at *
    have hnB : hpN S < B := by unfold Room at hB; omega
    let ad1 := va_up ad (b + 3) (hpN S)
    let S1 := nwS S 20 (2 * L)
    have hA1 : AdOk B ad1 S1 := nw_adok hA hnB 20 (2 * L) (b + 3)
    have ne : ∀ r, ad r ≠ hpN S := fun r => by have := hA.2 r; omega
    have e1 : ∀ r, r ≠ b + 3 → ad1 r = ad r := fun r hr => by show va_up ad (b + 3) (hpN S) r = _; simp [va_up, hr]
    have e2 : ad1 (b + 3) = hpN S := by show va_up ad (b + 3) (hpN S) (b + 3) = _; simp [va_up]
    have l1 : ∀ r, hpL S1 (ad r) = hpL S (ad r) := fun r => by
      show va_up S.2.2 S.1 (2 * L) (ad r) = _
      have : ad r ≠ S.1 := ne r
      simp [va_up, this, hpL]
    have l2 : hpL S1 (hpN S) = 2 * L := by
      show va_up S.2.2 S.1 (2 * L) S.1 = _
      simp [va_up]
    let g1 : Hg := cpI (nwG S g) (ad (b + 3)) 0 (hpN S) 0 L
    have r1 : ∀ r, g1.1 (ad r) = g.1 (ad r) := fun r => by
      have : ad r ≠ S.1 := ne r
      show va_up (va_up g.1 S.1 (fun _ => 0)) S.1 _ (ad r) = _
      simp [va_up, this]
    have r2 : ∀ r, g1.2.1 (ad r) = g.2.1 (ad r) := fun r => by
      have : ad r ≠ S.1 := ne r
      show va_up g.2.1 S.1 (fun _ => 0) (ad r) = _
      simp [va_up, this]
    have r3 : ∀ r, g1.2.2 (ad r) = g.2.2 (ad r) := fun r => by
      have : ad r ≠ S.1 := ne r
      show va_up g.2.2 S.1 (fun _ => none) (ad r) = _
      simp [va_up, this]
    have r4 : ∀ i, i < L → g1.1 (hpN S) i = g.1 (ad (b + 3)) i := fun i hi => by
      show va_up (va_up g.1 S.1 (fun _ => 0)) S.1 (va_cpy (va_up g.1 S.1 (fun _ => 0) (ad (b + 3))) _ 0 0 L) S.1 i = _
      have : ad (b + 3) ≠ S.1 := ne _
      simp [va_up, this, va_cpy, hi]
    let g2 : Hg := wrR g1 (ad b) 2 (some (hpN S))
    have q1 : ∀ a, g2.1 a = g1.1 a := fun a => rfl
    have q2 : ∀ a, g2.2.1 a = g1.2.1 a := fun a => rfl
    have q3 : ∀ r k, (r ≠ b ∨ k ≠ 2) → rdR g2 (ad r) k = rdR g (ad r) k := fun r k h => by
      show up2 g1.2.2 (ad b) 2 (some (hpN S)) (ad r) k = g.2.2 (ad r) k
      rw [← r3]
      unfold up2
      rw [if_neg (fun z => by
        rcases h with h | h
        · exact h (hA.1 _ _ z.1)
        · exact h z.2)]
    have q4 : rdR g2 (ad b) 2 = some (hpN S) := by
      show up2 g1.2.2 (ad b) 2 (some (hpN S)) (ad b) 2 = _
      simp [up2]
    have hP2 : PfP S1 g2 ad1 b := by
      refine ⟨?_, ?_, ?_, ?_, ?_, j + 1, by omega, ?_⟩
      · rw [e1 b (by omega), e1 (b + 1) (by omega), q3 b 0 (Or.inr (by decide))]; exact p1
      · rw [e1 b (by omega), e1 (b + 2) (by omega), q3 b 1 (Or.inr (by decide))]; exact p2
      · rw [e1 b (by omega), e2]; exact q4
      · rw [e1 (b + 1) (by omega), l1]; exact p4
      · rw [e1 (b + 2) (by omega), l1]; exact p5
      · rw [e2, l2, j2, hpw]; omega
    have hV2 : PfV g2 ad1 b X := by
      obtain ⟨w1, w2, w3⟩ := hV
      refine ⟨?_, fun i hi => ?_, fun s hs => ?_⟩
      · rw [e1 b (by omega), q1, r1]; exact w1
      · rw [e1 (b + 1) (by omega), e1 (b + 2) (by omega), q1, q2, r1, r2]; exact w2 i hi
      · rw [e2, q1]
        intro z hz
        show g1.1 (hpN S) (8 * s + z) = _
        rw [r4 _ (by omega)]
        exact w3 s hs z hz
    have hrs1 : ad1 rs = ad rs := e1 rs hrs
    obtain ⟨g3, a1, a2, a3⟩ := c_tellStep46 (N := N) (S := S1) (g := g2) (ad := ad1) (rs := rs) (p := p) hA1.1 hP2 hV2 (by rw [e2, l2]; omega) (by rw [hrs1, l1]; exact hp) (by rw [hrs1, l1]; exact hp2) (by rw [hrs1, q1, r1]; exact hv)
    refine ⟨ad1, S1, g3, 1, 2 * L, ?_, fun r hr => ?_, hA1, e1 b (by omega), ⟨hP2.fr a2.1, a3, by show 8 * (X.2.2.1 + 1) ≤ _; rw [e2, l2]; omega⟩, ⟨rfl, by rw [e2, l2, hL]; omega, by omega⟩⟩
    · show b_X7_tellStep_0 N S g _ _ _ = _
      unfold b_X7_tellStep_0
      have hcp : f_J7_copyOf_59c91 N S g (ad (b + 3)) (nI (2 * L)) = some (some (hpN S), S1, g1, 1, 2 * L) := by
        show b_J7_copyOf_59c91_0 N S g _ _ = _
        unfold b_J7_copyOf_59c91_0
        rw [hL, if_neg (fun e => by
          have := (nI_eq (a := 2 * L) (b := L) (by omega) (by omega)).mp e
          omega), show lenok (nI (2 * L)) = true by
            unfold lenok
            have h0 : ¬ nI (2 * L) < 0 := nI_pos (by omega)
            rw [nI_clamp (by omega)]
            simp [h0]
            omega, ck_T]
        unfold al
        rw [nI_clamp (show 2 * L < 2 ^ 31 by omega)]
        dsimp only
        have hl3 : hpL (nwS S 20 (2 * L)) (ad (b + 3)) = L := (l1 (b + 3)).trans hL
        rw [hl3, if_neg (nI_nlt (by omega) (by omega)), show hpL (nwS S 20 (2 * L)) (hpN S) = 2 * L from l2]
        rw [show cpok (0 : Int32) (0 : Int32) (nI L) L (2 * L) = true from cpok_nI (a := 0) (b := 0) (by omega) (by omega) (by omega) (by omega), ck_T, nm_D, nI_clamp (show L < 2 ^ 31 by omega)]
        rfl
      rw [if_pos (show rdI g (ad b) 4 < (256 : Int32) by rw [show rdI g (ad b) 4 = _ from v4]; exact nI_lt (b := 256) hc (by decide)), p3, nn_S, show rdI g (ad b) 4 = _ from v4, hL, if_neg (show ¬ ((nI X.2.2.1 + (1 : Int32)) * (8 : Int32)) ≤ nI L by
        rw [nI_1, show (8 : Int32) = nI 8 from rfl, pk_mul]
        exact nI_ge (by omega) (by omega)), nn_S, nn_S, hL, show (2 : Int32) * nI L = nI (2 * L) from pk_mul 2 L, hcp, c5_S, nn_S, nm_D]
      rw [e1 b (by omega), hrs1] at a1
      rw [show b_X7_tellStep_46 N S1 (wrR g1 (ad b) 2 (some (hpN S))) (ad b) (ad rs) (nI p) = _ from a1, tk_S, Nat.add_zero, Nat.add_zero]
    · have hrb : r ≠ b := fun z => hr (Or.inl z)
      have hr3 : r ≠ b + 3 := fun z => hr (Or.inr z)
      obtain ⟨b1, b2⟩ := a2.2 r hr
      rw [e1 r hr3] at b1 b2
      refine ⟨e1 r hr3, l1 r, by rw [b1, q1, r1], by rw [b2, q2, r2], ?_⟩
      funext k
      show g3.2.2 (ad r) k = _
      rw [a2.1]
      exact q3 r k (Or.inl hrb)
