theorem PfR.frl {B : Nat} {R : Nat → Prop} {ad ad1 : Nat → Nat} {S S1 : Hs} {g g0 g1 : Hg} {p : Nat} {X : ASl} {k w : Nat} (hf : Fr ad R g g0) (h : PfR B R ad S g0 p X ad1 S1 g1 k w) : PfR B R ad S g p X ad1 S1 g1 k w := ⟨(Mv.fr hf).tr h.1, h.2⟩
theorem PfR.rf {B : Nat} {R : Nat → Prop} {ad : Nat → Nat} {S : Hs} {g : Hg} {p : Nat} {X : ASl} (hA : AdOk B ad S) (hO : PfO S g ad p X) : PfR B R ad S g p X ad S g 0 0 := ⟨Mv.rf, hA, rfl, hO, Gw.rf⟩
theorem PfO.fr {R : Nat → Prop} {ad : Nat → Nat} {S : Hs} {g g1 : Hg} {p : Nat} {X : ASl} (h : PfO S g ad p X) (hf : Fr ad R g g1) (n : ∀ r, p ≤ r → r < p + 4 → ¬ R r) : PfO S g1 ad p X := by
  refine ⟨h.1.fr hf.1, ?_, h.2.2⟩
  have h2 := h.2.1
  unfold PfV at h2 ⊢
  rw [hf.I (n p (by omega) (by omega)), hf.I (n (p + 1) (by omega) (by omega)), hf.L (n (p + 2) (by omega) (by omega)), hf.I (n (p + 3) (by omega) (by omega))]
  exact h2
theorem PfO.mv {R : Nat → Prop} {ad ad1 : Nat → Nat} {S S1 : Hs} {g g1 : Hg} {p : Nat} {X : ASl} (h : PfO S g ad p X) (hm : Mv R ad S g ad1 S1 g1) (n : ∀ r, p ≤ r → r < p + 4 → ¬ R r) : PfO S1 g1 ad1 p X := by
  refine ⟨h.1.mv hm n, ?_, ?_⟩
  · have h2 := h.2.1
    unfold PfV at h2 ⊢
    rw [hm.I (n p (by omega) (by omega)), hm.I (n (p + 1) (by omega) (by omega)), hm.L (n (p + 2) (by omega) (by omega)), hm.I (n (p + 3) (by omega) (by omega))]
    exact h2
  · rw [hm.len (n (p + 3) (by omega) (by omega))]
    exact h.2.2
theorem ScP.pf {ad ad1 : Nat → Nat} {S S1 : Hs} {g g1 : Hg} {p : Nat} {R : Nat → Prop} (h : ScP S g ad) (hm : Mv R ad S g ad1 S1 g1) (hR : ∀ r, R r → p ≤ r ∧ r < p + 4) (hp : p = 20 ∨ 400 ≤ p) (h1 : ad1 p = ad p) : ScP S1 g1 ad1 := h.mv hm (fun r hr => by have := hR r hr; omega) ⟨hm.ad (fun q => by have := hR _ q; omega), by
  by_cases e : p = 20
  · rw [← e]; exact h1
  · exact hm.ad (fun q => by have := hR _ q; omega), hm.ad (fun q => by have := hR _ q; omega)⟩
theorem MapR.mv {R : Nat → Prop} {ad ad1 : Nat → Nat} {S S1 : Hs} {g g1 : Hg} {A : ALog} {n m : Nat} {ins : Nat → Nat} (h : MapR g ad A n m ins) (hm : Mv R ad S g ad1 S1 g1) (hr : ¬ R 4 ∧ ¬ R 5 ∧ ¬ R 6) : MapR g1 ad1 A n m ins := by
  unfold MapR
  rw [hm.I hr.1, hm.I hr.2.1, hm.I hr.2.2]
  exact h
theorem CLO.keyAt {N : Nat} {S : Hs} {g : Hg} {ad : Nat → Nat} {b i : Nat} {A : ALog} {x : Int32} (e : x = nI i) (h : CLO S g ad b A) (hi : i < lsz A) : f_X3_keyAt N S g (ad b) x = some (lky A i, g) := by
  subst e
  obtain ⟨hP, hC, hW⟩ := h
  have hsz := hW.1
  obtain ⟨k1, k2⟩ := hW.2.2.2.2.1.2.1 i hi
  show b_X3_keyAt_0 N S g _ _ = _
  unfold b_X3_keyAt_0
  simp (disch := (first | assumption | omega | (apply Inj.ne <;> first | assumption | omega) | fail)) only [nn_S, nm_D, ck_T, c2_S, on_N, on_S, lit, mNEG, nI_add, pk_mul, inb_nI, nI_clamp, wrI_row, wrL_row, rdR_rowI, rdR_rowL, rdI_def, rdL_def, rowI_same, rowI_ne, rowI_rowI, rowL_same, rowL_ne, rowL_1, rowI_21, upd_same, upd_ne, nI_le_T, nI_le_F, nI_lt_T, nI_lt_F, nI_eq_F, nI_NEG, NEG_lt0, nI_p, eq_self, if_true, if_false, hP.1.1, hP.1.2.2.1, hP.2.2.2.1.1, hC.2.1 i hi]
  rw [c_keyOf (b := b) rfl hP hC.2.2.2.2.2.1.1 hC.2.2.2.2.2.1.2.1 hW.2.2.2.2.1.1.1 k1, c2_S, k2]
/-- entries told one behind the other -/
def entF (A : ALog) : Nat → Nat → ASl → ASl
  | 0, _, X => X
  | f + 1, i, X => entF A f (i + 1) (entX X (lky A i) (lvl A i))
theorem entF_sc (A : ALog) : ∀ (f i : Nat) (X : ASl), (entF A f i X).2.2 = X.2.2 ∧ (entF A f i X).1 = X.1 ∧ (entF A f i X).2.1.1 = X.2.1.1 + f
  | 0, _, _ => ⟨rfl, rfl, rfl⟩
  | f + 1, i, X => by
    obtain ⟨h1, h2, h3⟩ := entF_sc A f (i + 1) (entX X (lky A i) (lvl A i))
    refine ⟨h1, h2, ?_⟩
    show (entF A f (i + 1) (entX X (lky A i) (lvl A i))).2.1.1 = _
    rw [h3]
    show X.2.1.1 + 1 + f = _
    omega
theorem c_showEntries3 {N B : Nat} (hN : 40000 ≤ N) {b p nn_ fr to : Nat} {A : ALog} (hft : fr ≤ to) (hto : to ≤ nn_) (hnn : nn_ ≤ lsz A) (hpb : b + 14 ≤ p ∨ p + 4 ≤ b) (hsh : ∀ i, fr ≤ i → i < to → lft A i ≠ 2) : ∀ (f n i : Nat) (ad : Nat → Nat) (S : Hs) (g : Hg) (X : ASl), i + f = to → fr ≤ i → f < n → AdOk B ad S → CLO S g ad b A → PfO S g ad p X → Room B ad S p → X.2.1.1 + f ≤ 40 → X.2.2.1 = 0 →
    ∃ ad1 S1 g1 k w, n_X3_showEntries_3 N n S g (ad b) (ad p) (nI nn_) (nI fr) (nI to) (nI i) = some ((), S1, g1, k, w) ∧ PfR B (fun r => p ≤ r ∧ r < p + 4) ad S g p (blkX (LSUM A) to nn_ (blkX (LSUM A) 0 fr (entF A f i X))) ad1 S1 g1 k w := by
  intro f
  induction f with
  | zero =>
    intro n i ad S g X h1 h2 h3 hA hC hO hB he hs
    obtain ⟨n, rfl⟩ : ∃ z, n = z + 1 := ⟨n - 1, by omega⟩
    obtain rfl : i = to := by omega
    have hsz := hC.2.2.1
    have hnb : nb 0 fr ≤ 18 := nb_le (by omega)
    obtain ⟨ad1, S1, g1, k, w, t1, t2⟩ := c_showBlocks hN (a := 0) (x2 := (0 : Int32)) (x3 := nI fr) rfl rfl (Nat.zero_le _) (by omega) hpb hA hC hO hB (by omega)
    obtain ⟨ad2, S2, g2, k2, w2, u1, u2⟩ := c_showBlocks hN (x2 := nI i) (x3 := nI nn_) rfl rfl hto hnn hpb t2.2.1 (hC.mv t2.1 (fun r r1 r2 => by omega)) t2.2.2.2.1 (hB.gw t2.2.2.2.2) (by rw [(blkX_sc _ _ _ _).1]; omega)
    refine ⟨ad2, S2, g2, k + k2, w + w2, ?_, (PfR.tr t2 u2).mono (fun r h => by omega)⟩
    show b_X3_showEntries_3 N (n_X3_showEntries_3 N n) S g _ _ _ _ _ _ = _
    unfold b_X3_showEntries_3
    rw [if_pos (Int32.le_refl _), t1, c5_S]
    rw [t2.1.ad (show ¬ (b = p ∨ b = p + 3) by omega), t2.2.2.1] at u1
    rw [u1, c5_S, tk_S, tk_S, Nat.add_zero, Nat.add_zero]
  | succ f ih =>
    intro n i ad S g X h1 h2 h3 hA hC hO hB he hs
    obtain ⟨n, rfl⟩ : ∃ z, n = z + 1 := ⟨n - 1, by omega⟩
    have hsz := hC.2.2.1
    obtain ⟨g1, a1, a2, a3⟩ := c_tellEntry (N := N) hA.1 (lky A i) (lvl A i) hO (by omega)
    obtain ⟨ad1, S1, g2, k, w, t1, t2⟩ := ih n (i + 1) ad S g1 (entX X (lky A i) (lvl A i)) (by omega) (by omega) (by omega) hA (hC.fr a2 (fun r r1 r2 => by omega)) a3 hB (by show X.2.1.1 + 1 + f ≤ 40; omega) hs
    refine ⟨ad1, S1, g2, k, w, ?_, PfR.frl (a2.mono (fun r h => by omega)) t2⟩
    show b_X3_showEntries_3 N (n_X3_showEntries_3 N n) S g _ _ _ _ _ _ = _
    unfold b_X3_showEntries_3
    rw [if_neg (nI_ge (by omega) (by omega)), hC.keyAt rfl (by omega), c2_S, hC.1.1.2.2.2.2.1, nn_S, hC.1.2.2.2.1.2.2.1, inb_nI (by omega) (by decide), ck_T, nI_clamp (by omega), show rdL g (ad (b + 5)) i = lvl A i from hC.2.1.2.2.2.1 i (by omega) (hsh i h2 (by omega)), a1, c2_S, nm_D, nI_1]
    exact t1
theorem c_showEntries {N B : Nat} (hN : 40000 ≤ N) {S : Hs} {g : Hg} {ad : Nat → Nat} {b p nn_ fr to : Nat} {A : ALog} {X : ASl} {x2 x3 x4 : Int32} (e2 : x2 = nI nn_) (e3 : x3 = nI fr) (e4 : x4 = nI to) (hft : fr ≤ to) (hto : to ≤ nn_) (hnn : nn_ ≤ lsz A) (hpb : b + 14 ≤ p ∨ p + 4 ≤ b) (hsh : ∀ i, fr ≤ i → i < to → lft A i ≠ 2) (hA : AdOk B ad S) (hC : CLO S g ad b A) (hO : PfO S g ad p X) (hB : Room B ad S p) (he : X.2.1.1 + (to - fr) ≤ 40) (hs : X.2.2.1 = 0) :
    ∃ ad1 S1 g1 k w, f_X3_showEntries N S g (ad b) (ad p) x2 x3 x4 = some ((), S1, g1, k, w) ∧ PfR B (fun r => p ≤ r ∧ r < p + 4) ad S g p (blkX (LSUM A) to nn_ (blkX (LSUM A) 0 fr (entF A (to - fr) fr X))) ad1 S1 g1 k w := by
  subst e2; subst e3; subst e4
  have hsz := hC.2.2.1
  exact c_showEntries3 hN hft hto hnn hpb hsh (to - fr) N fr ad S g X (by omega) (Nat.le_refl _) (by omega) hA hC hO hB he hs
def groX (A : ALog) (m n : Nat) : ASl := blkX (LSUM A) m n (blkX (LSUM A) 0 m (begX 2 (nI n) (nI m)))
theorem c_showGrowth {N B : Nat} (hN : 40000 ≤ N) {S : Hs} {g : Hg} {ad : Nat → Nat} {b p m nn_ : Nat} {A : ALog} {x2 x3 : Int32} (e2 : x2 = nI m) (e3 : x3 = nI nn_) (hmn : m ≤ nn_) (hnn : nn_ ≤ lsz A) (hpb : b + 14 ≤ p ∨ p + 4 ≤ b) (hA : AdOk B ad S) (hC : CLO S g ad b A) (hP : PfP S g ad p) (hB : Room B ad S p) :
    ∃ ad1 S1 g1 k w, f_X3_showGrowth N S g (ad b) (ad p) x2 x3 = some ((), S1, g1, k, w) ∧ PfR B (fun r => p ≤ r ∧ r < p + 4) ad S g p (groX A m nn_) ad1 S1 g1 k w := by
  subst e2; subst e3
  have hsz := hC.2.2.1
  obtain ⟨g0, z1, z2, z3⟩ := c_begin (N := N) hA.1 2 (nI nn_) (nI m) hP
  have hnb : nb 0 m ≤ 18 := nb_le (by omega)
  have hC0 := hC.fr z2 (fun r r1 r2 => by omega)
  obtain ⟨ad1, S1, g1, k, w, t1, t2⟩ := c_showBlocks hN (a := 0) (x2 := (0 : Int32)) (x3 := nI m) rfl rfl (Nat.zero_le _) (by omega) hpb hA hC0 z3 hB (by show 0 ≤ 200; omega)
  obtain ⟨ad2, S2, g2, k2, w2, u1, u2⟩ := c_showBlocks hN (x2 := nI m) (x3 := nI nn_) rfl rfl hmn hnn hpb t2.2.1 (hC0.mv t2.1 (fun r r1 r2 => by omega)) t2.2.2.2.1 (hB.gw t2.2.2.2.2) (by rw [(blkX_sc _ _ _ _).1]; show 0 + _ ≤ _; omega)
  refine ⟨ad2, S2, g2, k + k2, w + w2, ?_, PfR.frl (z2.mono (fun r h => by omega)) ((PfR.tr t2 u2).mono (fun r h => by omega))⟩
  show b_X3_showGrowth_0 N S g _ _ _ _ = _
  unfold b_X3_showGrowth_0
  rw [z1, c2_S, t1, c5_S]
  rw [t2.1.ad (show ¬ (b = p ∨ b = p + 3) by omega), t2.2.2.1] at u1
  rw [u1, c5_S, tk_S, tk_S, Nat.add_zero, Nat.add_zero]
/-- STEPS told one behind the other -/
def stepsX (X : ASl) : List (Nat → Int32) → ASl
  | [] => X
  | v :: l => stepsX (stepX X v) l
theorem stepsX_sc : ∀ (l : List (Nat → Int32)) (X : ASl), (stepsX X l).2.2.1 = X.2.2.1 + l.length ∧ (stepsX X l).1 = X.1 ∧ (stepsX X l).2.1 = X.2.1
  | [], _ => ⟨rfl, rfl, rfl⟩
  | v :: l, X => by
    obtain ⟨h1, h2, h3⟩ := stepsX_sc l (stepX X v)
    refine ⟨?_, h2, h3⟩
    show (stepsX (stepX X v) l).2.2.1 = _
    rw [h1, List.length_cons]
    show X.2.2.1 + 1 + _ = _
    omega
theorem c_showWay27 {N B : Nat} (hN : 40000 ≤ N) {b p : Nat} (hb : 100 ≤ b) (hpb : b + 14 ≤ p ∨ p + 4 ≤ b) (hp : p = 20 ∨ 400 ≤ p) {A : ALog} {nn_ m : Nat} {ins : Nat → Nat} (hIns : InsOk A nn_ m ins) {key : Int32} : ∀ (f n fr to : Nat) (ad : Nat → Nat) (S : Hs) (g : Hg) (X : ASl), f ≤ 256 → f < n → fr ≤ to → to ≤ m → (∀ i j, fr ≤ i → i < to → fr ≤ j → j < to → ∀ e, e < 256 - f → wbit (WAY (lK A (ins i))) e = wbit (WAY (lK A (ins j))) e) → AdOk B ad S → ScP S g ad → CLO S g ad b A → MapR g ad A nn_ m ins → eq8 (g.1 (ad 8)) (WAY key) → PfO S g ad p X → Room B ad S p → X.2.2.1 + f ≤ 256 →
    ∃ ad1 S1 g1 k w r, n_X4_showWay_27 N n S g (ad 4) (ad (b + 1)) (ad p) (nI fr) (nI to) (nI (256 - f)) = some (r, S1, g1, k, w) ∧ PfR B (fun r => r = 2 ∨ r = 3 ∨ r = 7 ∨ r = p ∨ r = p + 3) ad S g p (stepsX X (FOLS (LAT A nn_) (WAY key) f (lst (fun k => lK A (ins k)) fr to))) ad1 S1 g1 k w ∧ ScP S1 g1 ad1 ∧
      ((∃ q, q < lks A ∧ r = nI q ∧ FOLE (WAY key) f (lst (fun k => lK A (ins k)) fr to) = [lK A q]) ∨ (r = NEG ∧ FOLE (WAY key) f (lst (fun k => lK A (ins k)) fr to) = [])) := by
  have hm := hIns.1
  have d4 : ¬ (4 = p ∨ 4 = p + 3) := by omega
  have d8 : ¬ (8 = p ∨ 8 = p + 3) := by omega
  have d5 : ¬ (5 = p ∨ 5 = p + 3) ∧ ¬ (6 = p ∨ 6 = p + 3) := by omega
  have db : ¬ (b + 1 = p ∨ b + 1 = p + 3) := by omega
  have dlog : ∀ r, b ≤ r → r < b + 14 → ¬ (r = p ∨ r = p + 3) := fun r r1 r2 => by omega
  have dlog2 : ∀ r, b ≤ r → r < b + 14 → ¬ (r = 2 ∨ r = 3 ∨ r = 7) := fun r r1 r2 => by omega
  have dpf : ∀ r, p ≤ r → r < p + 4 → ¬ (r = 2 ∨ r = 3 ∨ r = 7) := fun r r1 r2 => by omega
  have d7 : 7 ≠ p + 3 := by omega
  have dR : ∀ r, (r = p ∨ r = p + 3) → p ≤ r ∧ r < p + 4 := fun r h => by omega
  have dm1 : ∀ r, (r = 2 ∨ r = 3 ∨ r = 7) → (r = 2 ∨ r = 3 ∨ r = 7 ∨ r = p ∨ r = p + 3) := fun r h => by omega
  have dm2 : ∀ r, (r = p ∨ r = p + 3) → (r = 2 ∨ r = 3 ∨ r = 7 ∨ r = p ∨ r = p + 3) := fun r h => by omega
  intro f
  have fin : ∀ (fr to : Nat) (ad : Nat → Nat) (S : Hs) (g : Hg), fr ≤ to → to ≤ m → to - fr ≤ 1 → lks A ≤ 400 → ScP S g ad → MapR g ad A nn_ m ins → ∃ r, b_X4_showWay_120 N S g (ad 4) (nI fr) (nI to) = some (r, S, g, 0, 0) ∧ ((∃ q, q < lks A ∧ r = nI q ∧ lst (fun k => lK A (ins k)) fr to = [lK A q]) ∨ (r = NEG ∧ lst (fun k => lK A (ins k)) fr to = [])) := by
    intro fr to ad S g h1 h2 h3 hks hS hR
    unfold b_X4_showWay_120
    by_cases hc : to ≤ fr
    · exact ⟨NEG, by rw [if_pos (nI_le hc (by omega))]; rfl, Or.inr ⟨rfl, lst_nil _ hc⟩⟩
    · refine ⟨nI (ins fr), ?_, Or.inl ⟨ins fr, (hIns.2.1 fr (by omega)).1, rfl, by rw [show to = fr + 1 by omega, lst_one]⟩⟩
      rw [if_neg (nI_ge (by omega) (by omega)), hS.2.1.2.2.1, nn_S, hS.2.1.2.2.2.2.2.2.1, inb_nI (by omega) (by decide), ck_T, nI_clamp (by omega), show rdI g (ad 6) fr = nI (ins fr) from hR.2.2 fr (by omega)]
  induction f with
  | zero =>
    intro n fr to ad S g X h1 h2 h3 h4 hal hA hS hC hR hw hO hB hs
    obtain ⟨n, rfl⟩ : ∃ z, n = z + 1 := ⟨n - 1, by omega⟩
    have hks := hC.2.2.2.2.2.2.1.1.1
    have hlen : to - fr ≤ 1 := by
      apply Classical.byContradiction
      intro hn
      have := key_bits (k := lK A (ins fr)) (k1 := lK A (ins (fr + 1))) (fun d hd => hal fr (fr + 1) (by omega) (by omega) (by omega) (by omega) d hd)
      have ha := hIns.2.2.1 fr (fr + 1) (by omega) (by omega)
      rw [this] at ha
      exact ha.irr
    obtain ⟨r, r1, r2⟩ := fin fr to ad S g h3 h4 hlen hks hS hR
    refine ⟨ad, S, g, 0, 0, r, ?_, PfR.rf hA hO, hS, r2⟩
    show b_X4_showWay_27 N (n_X4_showWay_27 N n) S g _ _ _ _ _ _ = _
    unfold b_X4_showWay_27
    rw [if_pos (by decide)]
    exact r1
  | succ f ih =>
    intro n fr to ad S g X h1 h2 h3 h4 hal hA hS hC hR hw hO hB hs
    obtain ⟨n, rfl⟩ : ∃ z, n = z + 1 := ⟨n - 1, by omega⟩
    have hks := hC.2.2.2.2.2.2.1.1.1
    have hln := lst_len (fun k => lK A (ins k)) fr to
    by_cases c1 : to - fr ≤ 1
    · obtain ⟨r, r1, r2⟩ := fin fr to ad S g h3 h4 c1 hks hS hR
      unfold FOLS FOLE
      rw [if_pos (by omega), if_pos (by omega)]
      refine ⟨ad, S, g, 0, 0, r, ?_, PfR.rf hA hO, hS, r2⟩
      show b_X4_showWay_27 N (n_X4_showWay_27 N n) S g _ _ _ _ _ _ = _
      unfold b_X4_showWay_27
      rw [if_neg (show ¬ (256 : Int32) ≤ nI (256 - (f + 1)) from nI_ge (b := 256) (by omega) (by decide)), sub_one h3 (by omega), if_pos (show nI (to - fr) ≤ (1 : Int32) from nI_le (b := 1) c1 (by decide))]
      exact r1
    · have hd : 256 - (f + 1) < 256 := by omega
      have e255 : 255 - f = 256 - (f + 1) := by omega
      have e256 : 256 - (f + 1) + 1 = 256 - f := by omega
      obtain ⟨q, q1, q2, q3, q4, q5, q6⟩ := c_partingOf hN hC.2.2 hd h3 h4 hS hC.1 hC.2.1.2.2.2.2.2.1 hR hIns hal
      rw [e256] at q6
      have hbit := c_bitOfWay (N := N) (S := S) (g := g) (a := ad 8) (q := 0) (d := 256 - (f + 1)) (x1 := (0 : Int32)) (x2 := nI (256 - (f + 1))) rfl rfl hd (by rw [hS.2.1.2.2.2.2.2.2.2.2]; decide) (by rw [hS.2.1.2.2.2.2.2.2.2.2]; decide)
      have hwb : wbit (seg (g.1 (ad 8)) (8 * 0)) (256 - (f + 1)) = wbit (WAY key) (256 - (f + 1)) := wbit_congr (fun j hj => by show g.1 (ad 8) (8 * 0 + j) = _; rw [Nat.mul_zero, Nat.zero_add]; exact hw j hj) hd
      rw [hwb] at hbit
      unfold FOLS FOLE
      have hl1 : ¬ (lst (fun k => lK A (ins k)) fr to).length ≤ 1 := by omega
      rw [if_neg hl1, if_neg hl1, e255, q4, q5]
      have hwl := wbit_lt (WAY key) (256 - (f + 1))
      -- the half that is told, and the half that is followed
      have go : ∀ (fr1 to1 fr2 to2 : Nat), fr1 ≤ to1 → to1 ≤ m → fr2 ≤ to2 → to2 ≤ m → (∀ i j, fr1 ≤ i → i < to1 → fr1 ≤ j → j < to1 → ∀ e, e < 256 - f → wbit (WAY (lK A (ins i))) e = wbit (WAY (lK A (ins j))) e) → (∀ i j, fr2 ≤ i → i < to2 → fr2 ≤ j → j < to2 → ∀ e, e < 256 - f → wbit (WAY (lK A (ins i))) e = wbit (WAY (lK A (ins j))) e) →
          ∃ ad1 S1 g1 k w r, c2 (f_X4_plant N S 300 g (ad 4) (ad (b + 1)) (nI fr1) (nI to1) (nI (256 - (f + 1)) + (1 : Int32)) (0 : Int32)) (fun _ g_9 => b_X4_showWay_105 N (n_X4_showWay_27 N n) S g_9 (ad 4) (ad (b + 1)) (ad p) (nI fr2) (nI to2) (nI (256 - (f + 1)))) = some (r, S1, g1, k, w) ∧ PfR B (fun r => r = 2 ∨ r = 3 ∨ r = 7 ∨ r = p ∨ r = p + 3) ad S g p (stepsX X (TREE (LAT A nn_) f (lst (fun k => lK A (ins k)) fr1 to1) :: FOLS (LAT A nn_) (WAY key) f (lst (fun k => lK A (ins k)) fr2 to2))) ad1 S1 g1 k w ∧ ScP S1 g1 ad1 ∧
          ((∃ q, q < lks A ∧ r = nI q ∧ FOLE (WAY key) f (lst (fun k => lK A (ins k)) fr2 to2) = [lK A q]) ∨ (r = NEG ∧ FOLE (WAY key) f (lst (fun k => lK A (ins k)) fr2 to2) = [])) := by
        intro fr1 to1 fr2 to2 u1 u2 u3 u4 u5 u6
        obtain ⟨g1, a1, a2, a3, a4⟩ := c_plant hN hA.1 hb hC.2.2 hIns f 300 g fr1 to1 0 (by omega) (by omega) u1 u2 (by omega) u5 hS hC.1 hC.2.1.2.2.2.2.2.1 hR
        have hS1 := hS.fr a2.1
        obtain ⟨ad2, S2, g2, k, w, t1, t2, t3, t4, t5, t6⟩ := c_tellStep (N := N) (S := S) (g := g1) hA (rs := 7) (p := 0) (x := (0 : Int32)) (b := p) rfl (hO.fr a2 dpf) hB (by omega) d7 (by rw [hS1.2.1.2.2.2.2.2.2.2.1]; decide) (by rw [hS1.2.1.2.2.2.2.2.2.2.1]; decide) a3
        have hS2 := hS1.pf t2 dR hp t4
        obtain ⟨ad3, S3, g3, k3, w3, r, v1, v2, v3, v4⟩ := ih n fr2 to2 ad2 S2 g2 (stepX X (TREE (LAT A nn_) f (lst (fun k => lK A (ins k)) fr1 to1))) (by omega) (by omega) u3 u4 u6 t3 hS2 ((hC.fr a2 dlog2).mv t2 dlog) ((hR.fr a2 ⟨by decide, by decide, by decide⟩).mv t2 ⟨d4, d5.1, d5.2⟩) (by
          rw [t2.I (r := 8) d8, a2.I (r := 8) (by decide)]; exact hw) t5 (hB.gw t6) (by show X.2.2.1 + 1 + f ≤ 256; omega)
        refine ⟨ad3, S3, g3, k + k3, w + w3, r, ?_, PfR.frl (a2.mono dm1) (PfR.tr ⟨t2.mono dm2, t3, t4, t5, t6⟩ v2), v3, v4⟩
        rw [nI_1, e256, show (0 : Int32) = nI 0 from rfl, a1, c2_S]
        unfold b_X4_showWay_105
        rw [hS1.2.1.2.2.2.1, nn_S, t1, c5_S, nm_D, nI_1, e256]
        rw [t2.ad (r := 4) d4, t2.ad (r := b + 1) db, t4] at v1
        rw [v1, tk_S]
      have hst : n_X4_showWay_27 N (n + 1) S g (ad 4) (ad (b + 1)) (ad p) (nI fr) (nI to) (nI (256 - (f + 1))) = (if nI (wbit (WAY key) (256 - (f + 1))) = 0 then c2 (f_X4_plant N S 300 g (ad 4) (ad (b + 1)) (nI q) (nI to) (nI (256 - (f + 1)) + (1 : Int32)) (0 : Int32)) (fun _ g_9 => b_X4_showWay_105 N (n_X4_showWay_27 N n) S g_9 (ad 4) (ad (b + 1)) (ad p) (nI fr) (nI q) (nI (256 - (f + 1)))) else c2 (f_X4_plant N S 300 g (ad 4) (ad (b + 1)) (nI fr) (nI q) (nI (256 - (f + 1)) + (1 : Int32)) (0 : Int32)) (fun _ g_9 => b_X4_showWay_105 N (n_X4_showWay_27 N n) S g_9 (ad 4) (ad (b + 1)) (ad p) (nI q) (nI to) (nI (256 - (f + 1))))) := by
        show b_X4_showWay_27 N (n_X4_showWay_27 N n) S g _ _ _ _ _ _ = _
        unfold b_X4_showWay_27
        rw [if_neg (show ¬ (256 : Int32) ≤ nI (256 - (f + 1)) from nI_ge (b := 256) (by omega) (by decide)), sub_one h3 (by omega), if_neg (show ¬ nI (to - fr) ≤ (1 : Int32) from nI_ge (a := 1) (by omega) (by omega)), q1, c2_S, hS.2.1.2.2.2.2.1, nn_S, hbit, c2_S]
      have hb01 : wbit (WAY key) (256 - (f + 1)) = 0 ∨ wbit (WAY key) (256 - (f + 1)) = 1 := by omega
      rcases hb01 with hz | hz
      · rw [hst, hz, if_pos (show nI 0 = (0 : Int32) from rfl), if_neg (show ¬ 0 = 1 by decide), if_neg (show ¬ 0 = 1 by decide)]
        exact go q to fr q q3 h4 q2 (by omega) (fun i j i1 i2 j1 j2 e he => q6 i j (Or.inr ⟨i1, i2, j1, j2⟩) e he) (fun i j i1 i2 j1 j2 e he => q6 i j (Or.inl ⟨i1, i2, j1, j2⟩) e he)
      · rw [hst, hz, if_neg (show ¬ nI 1 = (0 : Int32) by decide), if_pos (show 1 = 1 from rfl), if_pos (show 1 = 1 from rfl)]
        exact go fr q q to q2 (by omega) q3 h4 (fun i j i1 i2 j1 j2 e he => q6 i j (Or.inl ⟨i1, i2, j1, j2⟩) e he) (fun i j i1 i2 j1 j2 e he => q6 i j (Or.inr ⟨i1, i2, j1, j2⟩) e he)
/-- the class tells the STEPS on a KEY's WAY; X tells the KEY -/
theorem c_showWay {N B : Nat} (hN : 40000 ≤ N) {S : Hs} {g : Hg} {ad : Nat → Nat} {b p : Nat} (hb : 100 ≤ b) (hpb : b + 14 ≤ p ∨ p + 4 ≤ b) (hp : p = 20 ∨ 400 ≤ p) {A : ALog} {nn_ m : Nat} {ins : Nat → Nat} (hIns : InsOk A nn_ m ins) {X : ASl} (hA : AdOk B ad S) (hS : ScP S g ad) (hC : CLO S g ad b A) (hR : MapR g ad A nn_ m ins) (hO : PfO S g ad p X) (hB : Room B ad S p) (hs : X.2.2.1 = 0) :
    ∃ ad1 S1 g1 k w r, f_X4_showWay N S g (ad 4) (ad (b + 1)) (ad p) = some (r, S1, g1, k, w) ∧ PfR B (fun r => r = 2 ∨ r = 3 ∨ r = 7 ∨ r = 8 ∨ r = p ∨ r = p + 3) ad S g p (stepsX X (FOLS (LAT A nn_) (WAY X.1.2.2.2.2.1) 256 (KL A nn_))) ad1 S1 g1 k w ∧ ScP S1 g1 ad1 ∧
      ((∃ q, q < lks A ∧ r = nI q ∧ FOLE (WAY X.1.2.2.2.2.1) 256 (KL A nn_) = [lK A q]) ∨ (r = NEG ∧ FOLE (WAY X.1.2.2.2.2.1) 256 (KL A nn_) = [])) := by
  have hks := hC.2.2.2.2.2.2.1.1.1
  have hm := hIns.1
  have hI := hA.1
  have hperm := hIns.len hC.2.2
  have hnd : (lst (fun k => lK A (ins k)) 0 m).Nodup := lst_nodup (fun i j _ hij hj e => by
      have := hIns.2.2.1 i j hij hj
      rw [show lK A (ins i) = lK A (ins j) from e] at this
      exact this.irr)
  obtain ⟨g1, w1, w2, w3⟩ := c_wayOf (N := N) (show 30 ≤ N by omega) (g := g) (mx := ad 1) (W := ad 2) (A := ad 3) (to := ad 8) (p := 0) (x3 := (0 : Int32)) (hS.mx hI) ⟨hI.ne (by decide), hI.ne (by decide), by rw [hS.2.1.2.2.2.2.2.2.2.2]; decide, by rw [hS.2.1.2.2.2.2.2.2.2.2]; decide⟩ rfl X.1.2.2.2.2.1
  have f1 : Fr ad (fun r => r = 2 ∨ r = 3 ∨ r = 8) g g1 := Fr.ch w2 (fun r h => by rcases h with h | h | h <;> have h2 := hI _ _ h <;> omega)
  obtain ⟨ad1, S1, g2, k, w, r, a1, a2, a3, a4⟩ := c_showWay27 hN hb hpb hp hIns (key := X.1.2.2.2.2.1) 256 N 0 m ad S g1 X (by omega) (by omega) (by omega) (Nat.le_refl _) (fun i j _ _ _ _ e he => absurd he (by omega)) hA (hS.fr f1.1) (hC.fr f1 (fun r r1 r2 => by omega)) (hR.fr f1 (by omega)) (by
    rw [w3]
    intro j hj
    have := putA_in (row := g.1 (ad 8)) (v := WAY X.1.2.2.2.2.1) (at_ := 8 * 0) hj
    rw [Nat.mul_zero, Nat.zero_add] at this
    exact this) (hO.fr f1 (fun r r1 r2 => by omega)) hB (by omega)
  rw [FOLS_perm _ _ 256 hperm] at a2
  rw [FOLE_eq _ hperm hnd] at a4
  refine ⟨ad1, S1, g2, k, w, r, ?_, PfR.frl (f1.mono (fun r h => by omega)) (a2.mono (fun r h => by omega)), a3, a4⟩
  show b_X4_showWay_0 N S g _ _ _ = _
  unfold b_X4_showWay_0
  rw [hS.2.1.1, nn_S, hS.2.1.2.2.2.2.1, nn_S, show rdI g (ad p) 9 = X.1.2.2.2.2.1 from hO.2.1.1.2.2.2.2.2.2.1, w1, c2_S, nm_D, show rdI g1 (ad 4) 5 = nI m by show g1.1 (ad 4) 5 = _; rw [f1.I (by omega)]; exact hR.2.1]
  exact a1
