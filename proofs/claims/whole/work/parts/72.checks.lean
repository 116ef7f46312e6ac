def sameB (u v : Nat → Int32) : Bool := (List.range 8).all (fun j => u j == v j)
theorem sameB_iff {u v : Nat → Int32} : sameB u v = true ↔ eq8 u v := by
  unfold sameB eq8
  rw [List.all_eq_true]
  constructor
  · intro h j hj
    have := h j (List.mem_range.mpr hj)
    simpa using this
  · intro h j hj
    have := h j (List.mem_range.mp hj)
    simpa using this
theorem sameB_congr {u v u1 v1 : Nat → Int32} (hu : eq8 u u1) (hv : eq8 v v1) : sameB u v = sameB u1 v1 := by
  by_cases h : sameB u v = true
  · rw [h]
    have := sameB_iff.mp h
    exact (sameB_iff.mpr (fun j hj => by rw [← hu j hj, ← hv j hj]; exact this j hj)).symm
  · have h0 : sameB u v = false := by simpa using h
    rw [h0]
    symm
    apply Bool.eq_false_iff.mpr
    intro h1
    have := sameB_iff.mp h1
    exact h (sameB_iff.mpr (fun j hj => by rw [hu j hj, hv j hj]; exact this j hj))
theorem c_isSameSum2 (N : Nat) (S : Hs) (g : Hg) (a b : Nat) (ha : hpL S a = 8) (hb : hpL S b = 8) : ∀ (i n j : Nat), j + i = 8 → i < n → (∀ z, z < j → g.1 a z = g.1 b z) → n_X11_isSameSum_2 N S n g a b (nI j) = some (bI (sameB (g.1 a) (g.1 b)), g) := by
  intro i
  induction i with
  | zero =>
    intro n j h1 h2 hz
    obtain ⟨n, rfl⟩ : ∃ z, n = z + 1 := ⟨n - 1, by omega⟩
    show b_X11_isSameSum_2 N S (n_X11_isSameSum_2 N S n) g _ _ _ = _
    unfold b_X11_isSameSum_2
    rw [sameB_iff.mpr (fun z hz2 => hz z (by omega))]
    simp (disch := (first | assumption | omega | (apply Inj.ne <;> first | assumption | omega) | fail)) only [nn_S, nm_D, ck_T, c2_S, on_N, on_S, lit, mNEG, nI_add, pk_mul, inb_nI, nI_clamp, wrI_row, wrL_row, rdR_rowI, rdR_rowL, rdI_def, rdL_def, rowI_same, rowI_ne, rowI_rowI, rowL_same, rowL_ne, rowL_1, rowI_21, upd_same, upd_ne, nI_le_T, nI_le_F, nI_lt_T, nI_lt_F, nI_eq_F, nI_NEG, NEG_lt0, nI_p, eq_self, if_true, if_false]
    rfl
  | succ i ih =>
    intro n j h1 h2 hz
    obtain ⟨n, rfl⟩ : ∃ z, n = z + 1 := ⟨n - 1, by omega⟩
    show b_X11_isSameSum_2 N S (n_X11_isSameSum_2 N S n) g _ _ _ = _
    unfold b_X11_isSameSum_2
    simp (disch := (first | assumption | omega | (apply Inj.ne <;> first | assumption | omega) | fail)) only [nn_S, nm_D, ck_T, c2_S, on_N, on_S, lit, mNEG, nI_add, pk_mul, inb_nI, nI_clamp, wrI_row, wrL_row, rdR_rowI, rdR_rowL, rdI_def, rdL_def, rowI_same, rowI_ne, rowI_rowI, rowL_same, rowL_ne, rowL_1, rowI_21, upd_same, upd_ne, nI_le_T, nI_le_F, nI_lt_T, nI_lt_F, nI_eq_F, nI_NEG, NEG_lt0, nI_p, eq_self, if_true, if_false, ha, hb]
    by_cases hc : g.1 a j = g.1 b j
    · rw [if_pos hc]
      exact ih n (j + 1) (by omega) (by omega) (fun z hz2 => by
        by_cases e : z = j
        · rw [e]; exact hc
        · exact hz z (by omega))
    · rw [if_neg hc]
      have : sameB (g.1 a) (g.1 b) = false := by
        apply Bool.eq_false_iff.mpr
        intro h
        exact hc (sameB_iff.mp h j (by omega))
      rw [this]
      rfl
theorem c_isSameSum {N : Nat} (hN : 40000 ≤ N) {S : Hs} {g : Hg} {a b : Nat} (ha : hpL S a = 8) (hb : hpL S b = 8) {u v : Nat → Int32} (hu : eq8 (g.1 a) u) (hv : eq8 (g.1 b) v) : f_X11_isSameSum N S g a b = some (bI (sameB u v), g) := by
  rw [← sameB_congr hu hv]
  exact c_isSameSum2 N S g a b ha hb 8 N 0 (by omega) (by omega) (fun z hz => absurd hz (by omega))
def MARKB (H : AHd) : Bool := sameB (MARK H.2.1.2.2 H.2.1.1 H.2.2.1 H.2.2.2.1) H.2.2.2.2
theorem c_isMarked {N : Nat} (hN : 40000 ≤ N) {S : Hs} {g : Hg} {ad : Nat → Nat} (hI : Inj ad) {h : Nat} {H : AHd} (hh : 16 ≤ h) (hS : ScP S g ad) (hO : HdO S g ad h H) : ∃ g1, f_X8_isMarked N S g (ad 9) (ad h) = some (bI (MARKB H), g1) ∧ Fr ad (fun r => r = 2 ∨ r = 3 ∨ r = 14) g g1 := by
  have l14 := hS.2.2.1.2.2.2.2.2.1
  obtain ⟨g1, a1, a2, a3⟩ := c_markOf hN hI (h := h) (t := 14) (H := H) hh (by omega) l14 hS hO.1 hO.2.1.2.1 hO.2.1.2.2.2 hO.2.2.1 hO.2.2.2.1
  have hS1 := hS.fr a2.1
  have hO1 := hO.fr a2 (fun r r1 r2 => by omega)
  refine ⟨g1, ?_, a2⟩
  show b_X8_isMarked_0 N S g _ _ = _
  unfold b_X8_isMarked_0
  rw [hS.2.2.1.1, nn_S, hS.2.2.1.2.2.2.1, nn_S, a1, c2_S, hS1.2.2.1.2.2.2.1, nn_S, hO1.1.2.2.1, nn_S, c_isSameSum hN l14 hO1.1.2.2.2.2.2 a3 hO1.2.2.2.2, c2_S]
  show ck (zb (bI (MARKB H))) _ = _
  rw [zb_bI, ck_T]
  rfl
/-- BLOCKS from p to b upon a stack, their SUMS the STEPS from s on -/
def layS (st : Nat → Nat → Int32) (b : Nat) : Nat → Nat → Nat → T4 → T4
  | 0, _, _, T => T
  | f + 1, p, s, T => if p < b then layS st b f (p + 2 ^ bl p b) (s + 1) (tput T p (bl p b) (st s)) else T
def layX (st : Nat → Nat → Int32) (a b s : Nat) (T : T4) : T4 := layS st b (b - a) a s T
theorem layS_bin (st : Nat → Nat → Int32) (b : Nat) : ∀ (f p s : Nat) (T : T4), b ≤ p + f → p ≤ b → BinO p T → BinO b (layS st b f p s T)
  | 0, p, _, T, h, hp, hB => by
    obtain rfl : p = b := by omega
    exact hB
  | f + 1, p, s, T, h, hp, hB => by
    unfold layS
    by_cases hc : p < b
    · rw [if_pos hc]
      obtain ⟨h1, h2, h3⟩ := bl_ok hc
      have hp1 : 1 ≤ 2 ^ bl p b := Nat.one_le_two_pow
      exact layS_bin st b f _ _ _ (by omega) h2 (tput_bin hB h1 _)
    · rw [if_neg hc]
      obtain rfl : p = b := by omega
      exact hB
theorem layX_bin (st : Nat → Nat → Int32) {a b s : Nat} {T : T4} (h : a ≤ b) (hB : BinO a T) : BinO b (layX st a b s T) := layS_bin st b (b - a) a s T (by omega) h hB
theorem c_putR {N : Nat} (hN : 40000 ≤ N) {S : Hs} {g : Hg} {ad : Nat → Nat} (hI : Inj ad) {q e rs p : Nat} {T : T4} {v : Nat → Int32} {x1 x2 x4 : Int32} (e1 : x1 = nI q) (e2 : x2 = nI (2 ^ e)) (e4 : x4 = nI p) (hq : q < 512) (he : e ≤ 8) (hrs : 14 ≤ rs) (hl : 8 * p + 8 ≤ hpL S (ad rs)) (hl2 : hpL S (ad rs) < 2 ^ 31) (hS : ScP S g ad) (hT : TwS g ad T) (hB : BinO q T) (hv : eq8 (seg (g.1 (ad rs)) (8 * p)) v) :
    ∃ g1, f_X9_put N S g (ad 10) x1 x2 (ad rs) x4 = some ((), g1) ∧ Fr ad (fun r => r = 2 ∨ r = 3 ∨ 10 ≤ r ∧ r ≤ 13) g g1 ∧ TwS g1 ad (tput T q e v) := by
  have hbin := bin_ex hB hq
  have hh := bin_h hB hq
  obtain ⟨g1, a1, a2, a3, a4⟩ := c_put (N := N) (show 30 ≤ N by omega) (h := T.1) (s := q) (e := e) (fr := ad rs) (p := p) (st := T.2.1) (ex := T.2.2.1) (sm := T.2.2.2) (v := v) (hS.tw hI) (by omega) hT.1 hT.2 e1 e2 e4 (by omega) he (fun i hi => by have := hbin i hi; omega) hl hl2 ⟨hI.ne (by omega), hI.ne (by omega)⟩ hv
  exact ⟨g1, a1, Fr.chU hI a2, a3, a4⟩
theorem c_climbS9 {N : Nat} (hN : 40000 ≤ N) {S : Hs} {ad : Nat → Nat} (hI : Inj ad) {p bb : Nat} {X : ASl} (hp : 16 ≤ p) (hbb : bb < 512) : ∀ (f n q s : Nat) (g : Hg) (T : T4), bb ≤ q + f → q ≤ bb → f < n → s + nbF bb f q ≤ X.2.2.1 → X.2.2.1 ≤ 256 → ScP S g ad → PfO S g ad p X → TwS g ad T → BinO q T →
    ∃ g1, n_X8_climb_9 N S n g (ad 9) (ad p) (nI bb) (nI s) (nI q) = some (nI (s + nbF bb f q), g1) ∧ Fr ad (fun r => r = 2 ∨ r = 3 ∨ 10 ≤ r ∧ r ≤ 13) g g1 ∧ TwS g1 ad (layS X.2.2.2 bb f q s T) := by
  intro f
  induction f with
  | zero =>
    intro n q s g T h1 h2 h3 hs hs2 hS hO hT hB
    obtain ⟨n, rfl⟩ : ∃ z, n = z + 1 := ⟨n - 1, by omega⟩
    obtain rfl : q = bb := by omega
    refine ⟨g, ?_, Fr.rf, hT⟩
    show b_X8_climb_9 N S (n_X8_climb_9 N S n) g _ _ _ _ _ = _
    unfold b_X8_climb_9
    rw [if_pos (Int32.le_refl _)]
    rfl
  | succ f ih =>
    intro n q s g T h1 h2 h3 hs hs2 hS hO hT hB
    obtain ⟨n, rfl⟩ : ∃ z, n = z + 1 := ⟨n - 1, by omega⟩
    unfold layS
    unfold nbF at hs ⊢
    by_cases hc : q < bb
    · rw [if_pos hc] at hs
      rw [if_pos hc, if_pos hc]
      obtain ⟨o1, o2, o3⟩ := bl_ok hc
      have hp1 : 1 ≤ 2 ^ bl q bb := Nat.one_le_two_pow
      have hle := hO.1.le
      have hfit := hO.2.2
      obtain ⟨g1, a1, a2, a3⟩ := c_putR hN hI (q := q) (e := bl q bb) (rs := p + 3) (p := s) (x1 := nI q) (x2 := nI (2 ^ bl q bb)) (x4 := nI s) rfl rfl rfl (by omega) o3 (by omega) (by omega) (by omega) hS hT hB (hO.2.1.2.2 s (by omega))
      obtain ⟨g2, b1, b2, b3⟩ := ih n (q + 2 ^ bl q bb) (s + 1) g1 (tput T q (bl q bb) (X.2.2.2 s)) (by omega) o2 (by omega) (by omega) hs2 (hS.fr a2.1) (hO.fr a2 (fun r r1 r2 => by omega)) a3 (tput_bin hB o1 _)
      refine ⟨g2, ?_, a2.tr b2, b3⟩
      show b_X8_climb_9 N S (n_X8_climb_9 N S n) g _ _ _ _ _ = _
      unfold b_X8_climb_9
      rw [if_neg (nI_ge hc (by omega)), show rdI g (ad p) 4 = nI X.2.2.1 from hO.2.1.1.2.1, if_neg (nI_ge (by omega) (by omega)), c_blockLevel (show 30 ≤ N by omega) rfl rfl (by omega) (by omega), c2_S, hS.2.2.1.2.2.1, nn_S, hO.1.2.2.1, nn_S, shl_1 o3, a1, c2_S, nm_D, nm_D, nI_1, nI_add, b1, show s + 1 + nbF bb f (q + 2 ^ bl q bb) = s + (nbF bb f (q + 2 ^ bl q bb) + 1) by omega]
    · rw [if_neg hc, if_neg hc]
      obtain rfl : q = bb := by omega
      refine ⟨g, ?_, Fr.rf, hT⟩
      show b_X8_climb_9 N S (n_X8_climb_9 N S n) g _ _ _ _ _ = _
      unfold b_X8_climb_9
      rw [if_pos (Int32.le_refl _)]
      rfl
theorem c_climbS {N : Nat} (hN : 40000 ≤ N) {S : Hs} {g : Hg} {ad : Nat → Nat} (hI : Inj ad) {p a bb s : Nat} {X : ASl} {T : T4} {x2 x3 x4 : Int32} (e2 : x2 = nI s) (e3 : x3 = nI a) (e4 : x4 = nI bb) (hp : 16 ≤ p) (hab : a ≤ bb) (hbb : bb < 512) (hs : s + nb a bb ≤ X.2.2.1) (hs2 : X.2.2.1 ≤ 256) (hS : ScP S g ad) (hO : PfO S g ad p X) (hT : TwS g ad T) (hB : BinO a T) :
    ∃ g1, f_X8_climb N S g (ad 9) (ad p) x2 x3 x4 = some (nI (s + nb a bb), g1) ∧ Fr ad (fun r => r = 2 ∨ r = 3 ∨ 10 ≤ r ∧ r ≤ 13) g g1 ∧ TwS g1 ad (layX X.2.2.2 a bb s T) := by
  subst e2; subst e3; subst e4
  exact c_climbS9 hN hI hp hbb (bb - a) N a s g T (by omega) hab (by omega) hs hs2 hS hO hT hB
/-- a PROOF of kind GROWN is RIGHT for two HEADS -/
def GROWB (X : ASl) (m n : Nat) (H1 H2 : AHd) : Bool := decide (H1.2.1.1 = nI m) && (decide (H2.2.1.1 = nI n) && (sameB (TOPX (layX X.2.2.2 0 m 0 T40)) H1.2.2.1 && sameB (TOPX (layX X.2.2.2 m n (nb 0 m) (layX X.2.2.2 0 m 0 T40))) H2.2.2.1))
theorem bI_t : bI true = nI 1 := rfl
theorem bI_f : bI false = nI 0 := rfl
theorem c_isGrowth {N : Nat} (hN : 40000 ≤ N) {S : Hs} {g : Hg} {ad : Nat → Nat} (hI : Inj ad) {p h1 h2 m n : Nat} {X : ASl} {H1 H2 : AHd} (hp : 16 ≤ p) (hh1 : 16 ≤ h1) (hh2 : 16 ≤ h2) (hX : X.1.2.2.1 = nI m ∧ X.1.2.1 = nI n) (hmn : m ≤ n) (hn : n ≤ 400) (hs : nb 0 m + nb m n ≤ X.2.2.1) (hs2 : X.2.2.1 ≤ 256) (hS : ScP S g ad) (hO : PfO S g ad p X) (hH1 : HdO S g ad h1 H1) (hH2 : HdO S g ad h2 H2) :
    ∃ g1, f_X8_isGrowth N S g (ad 9) (ad p) (ad h1) (ad h2) = some (bI (GROWB X m n H1 H2), g1) ∧ Fr ad (fun r => r = 2 ∨ r = 3 ∨ 10 ≤ r ∧ r ≤ 14) g g1 := by
  have v7 : rdI g (ad p) 7 = nI m := hO.2.1.1.2.2.2.2.1.trans hX.1
  have v6 : rdI g (ad p) 6 = nI n := hO.2.1.1.2.2.2.1.trans hX.2
  have w1 : rdI g (ad h1) 4 = H1.2.1.1 := hH1.2.1.2.1
  have w2 : rdI g (ad h2) 4 = H2.2.1.1 := hH2.2.1.2.1
  have hst : f_X8_isGrowth N S g (ad 9) (ad p) (ad h1) (ad h2) = b_X8_isGrowth_0 N S g (ad 9) (ad p) (ad h1) (ad h2) := rfl
  unfold GROWB
  rw [hst]
  unfold b_X8_isGrowth_0
  rw [w1, w2, v7, v6]
  by_cases c1 : H1.2.1.1 = nI m
  · rw [if_pos c1]
    by_cases c2 : H2.2.1.1 = nI n
    · rw [if_pos c2]
      simp only [c1, c2, decide_true, Bool.true_and]
      have l14 := hS.2.2.1.2.2.2.2.2.1
      obtain ⟨g1, a1, a2, a3⟩ := c_clear (N := N) (S := S) (g := g) hI
      have hS1 := hS.fr a2.1
      have hO1 := hO.fr a2 (fun r r1 r2 => by omega)
      have u7 : rdI g1 (ad p) 7 = nI m := hO1.2.1.1.2.2.2.2.1.trans hX.1
      obtain ⟨g2, b1, b2, b3⟩ := c_climbS hN hI (a := 0) (s := 0) (x2 := (0 : Int32)) (x3 := (0 : Int32)) (x4 := nI m) rfl rfl rfl hp (Nat.zero_le _) (by omega) (by omega) hs2 hS1 hO1 a3 bin40
      have hS2 := hS1.fr b2.1
      have hB2 : BinO m (layX X.2.2.2 0 m 0 T40) := layX_bin _ (Nat.zero_le _) bin40
      obtain ⟨g3, d1, d2, d3⟩ := c_writeTopR hN hI (t := 14) (p := m) (by omega) l14 hS2 b3 hB2 (by omega)
      have hS3 := hS2.fr d2.1
      have f3 : Fr ad (fun r => r = 2 ∨ r = 3 ∨ 10 ≤ r ∧ r ≤ 14) g g3 := ((a2.mono (fun r h => by omega)).tr (b2.mono (fun r h => by omega))).tr (d2.mono (fun r h => by omega))
      have hH13 := hH1.fr f3 (fun r r1 r2 => by omega)
      have hH23 := hH2.fr f3 (fun r r1 r2 => by omega)
      have hO3 := hO.fr f3 (fun r r1 r2 => by omega)
      have y7 : rdI g3 (ad p) 7 = nI m := hO3.2.1.1.2.2.2.2.1.trans hX.1
      have y6 : rdI g3 (ad p) 6 = nI n := hO3.2.1.1.2.2.2.1.trans hX.2
      rw [hS.2.2.1.2.2.1, nn_S, a1, c2_S, u7, b1, c2_S, hS2.2.2.1.2.2.1, nn_S, hS2.2.2.1.2.2.2.1, nn_S, d1, c2_S, hS3.2.2.1.2.2.2.1, nn_S, hH13.1.1, nn_S, c_isSameSum hN l14 hH13.1.2.2.2.1 d3 hH13.2.2.1, c2_S]
      cases hb : sameB (TOPX (layX X.2.2.2 0 m 0 T40)) H1.2.2.1 with
      | false =>
        rw [bI_f, if_pos (show nI 0 = (0 : Int32) from rfl)]
        exact ⟨g3, rfl, f3⟩
      | true =>
        rw [bI_t, if_neg (show ¬ nI 1 = (0 : Int32) by decide), Bool.true_and, y7, y6]
        have hT3 := b3.fr d2 (by omega)
        obtain ⟨g4, e1, e2, e3⟩ := c_climbS hN hI (p := p) (a := m) (bb := n) (s := 0 + nb 0 m) (x2 := nI (0 + nb 0 m)) (x3 := nI m) (x4 := nI n) rfl rfl rfl hp hmn (by omega) (by omega) hs2 hS3 hO3 hT3 hB2
        rw [Nat.zero_add] at e3
        have hS4 := hS3.fr e2.1
        obtain ⟨g5, q1, q2, q3⟩ := c_writeTopR hN hI (t := 14) (p := n) (by omega) l14 hS4 e3 (layX_bin _ hmn hB2) (by omega)
        have hS5 := hS4.fr q2.1
        have f5 : Fr ad (fun r => r = 2 ∨ r = 3 ∨ 10 ≤ r ∧ r ≤ 14) g3 g5 := (e2.mono (fun r h => by omega)).tr (q2.mono (fun r h => by omega))
        have hH25 := hH23.fr f5 (fun r r1 r2 => by omega)
        refine ⟨g5, ?_, f3.tr f5⟩
        rw [e1, c2_S, hS4.2.2.1.2.2.1, nn_S, hS4.2.2.1.2.2.2.1, nn_S, q1, c2_S, hS5.2.2.1.2.2.2.1, nn_S, hH25.1.1, nn_S, c_isSameSum hN l14 hH25.1.2.2.2.1 q3 hH25.2.2.1, c2_S, zb_bI, ck_T]
    · rw [if_neg c2]
      simp only [c2, decide_false, Bool.false_and, Bool.and_false]
      exact ⟨g, rfl, Fr.rf⟩
  · rw [if_neg c1]
    simp only [c1, decide_false, Bool.false_and]
    exact ⟨g, rfl, Fr.rf⟩
/-- entries upon a stack -/
def layE (ek : Nat → Int32) (ev : Nat → Int64) (a : Nat) : Nat → Nat → T4 → T4
  | 0, _, T => T
  | f + 1, k, T => layE ek ev a f (k + 1) (tput T (a + k) 0 (ENT (ek k) (ev k)))
theorem layE_bin (ek : Nat → Int32) (ev : Nat → Int64) (a : Nat) : ∀ (f k : Nat) (T : T4), BinO (a + k) T → BinO (a + k + f) (layE ek ev a f k T)
  | 0, _, _, h => h
  | f + 1, k, T, h => by
    have := layE_bin ek ev a f (k + 1) (tput T (a + k) 0 (ENT (ek k) (ev k))) (tput_bin h (by simp) _)
    rw [show a + (k + 1) + f = a + k + (f + 1) by omega] at this
    exact this
/-- the stack of a PROOF of entries from a on, at n -/
def entT (X : ASl) (a n : Nat) : T4 := layX X.2.2.2 (a + X.2.1.1) n (nb 0 a) (layE X.2.1.2.1 X.2.1.2.2 a X.2.1.1 0 (layX X.2.2.2 0 a 0 T40))
theorem c_hasEntries22 {N : Nat} (hN : 40000 ≤ N) {S : Hs} {ad : Nat → Nat} (hI : Inj ad) {p h a n_ : Nat} {X : ASl} {H : AHd} (hp : 16 ≤ p) (hh : 16 ≤ h) (hX : X.1.2.2.1 = nI a ∧ X.1.2.1 = nI n_) (hec : X.2.1.1 ≤ 40) (han : a + X.2.1.1 ≤ n_) (hn : n_ ≤ 400) (hs : nb 0 a + nb (a + X.2.1.1) n_ ≤ X.2.2.1) (hs2 : X.2.2.1 ≤ 256) : ∀ (f n k : Nat) (g : Hg) (T : T4), k + f = X.2.1.1 → f < n → ScP S g ad → PfO S g ad p X → HdO S g ad h H → TwS g ad T → BinO (a + k) T →
    ∃ g1, n_X8_hasEntries_22 N S n g (ad 9) (ad p) (ad h) (nI (nb 0 a)) (nI k) = some (bI (sameB (TOPX (layX X.2.2.2 (a + X.2.1.1) n_ (nb 0 a) (layE X.2.1.2.1 X.2.1.2.2 a f k T))) H.2.2.1), g1) ∧ Fr ad (fun r => r = 2 ∨ r = 3 ∨ 10 ≤ r ∧ r ≤ 14) g g1 := by
  intro f
  induction f with
  | zero =>
    intro n k g T h1 h2 hS hO hH hT hB
    obtain ⟨n, rfl⟩ : ∃ z, n = z + 1 := ⟨n - 1, by omega⟩
    have v3 : rdI g (ad p) 3 = nI X.2.1.1 := hO.2.1.1.1
    have v7 : rdI g (ad p) 7 = nI a := hO.2.1.1.2.2.2.2.1.trans hX.1
    have v6 : rdI g (ad p) 6 = nI n_ := hO.2.1.1.2.2.2.1.trans hX.2
    have l14 := hS.2.2.1.2.2.2.2.2.1
    have hk : k = X.2.1.1 := by omega
    rw [hk] at hB
    obtain ⟨g4, e1, e2, e3⟩ := c_climbS hN hI (p := p) (a := a + X.2.1.1) (bb := n_) (s := nb 0 a) (x2 := nI (nb 0 a)) (x3 := nI (a + X.2.1.1)) (x4 := nI n_) rfl rfl rfl hp han (by omega) hs hs2 hS hO hT hB
    have hS4 := hS.fr e2.1
    obtain ⟨g5, q1, q2, q3⟩ := c_writeTopR hN hI (t := 14) (p := n_) (by omega) l14 hS4 e3 (layX_bin _ han hB) (by omega)
    have hS5 := hS4.fr q2.1
    have f5 : Fr ad (fun r => r = 2 ∨ r = 3 ∨ 10 ≤ r ∧ r ≤ 14) g g5 := (e2.mono (fun r h => by omega)).tr (q2.mono (fun r h => by omega))
    have hH5 := hH.fr f5 (fun r r1 r2 => by omega)
    refine ⟨g5, ?_, f5⟩
    show b_X8_hasEntries_22 N S (n_X8_hasEntries_22 N S n) g _ _ _ _ _ = _
    unfold b_X8_hasEntries_22
    rw [v3, hk, if_pos (Int32.le_refl _), v7, v6, nI_add, e1, c2_S, hS4.2.2.1.2.2.1, nn_S, hS4.2.2.1.2.2.2.1, nn_S, q1, c2_S, hS5.2.2.1.2.2.2.1, nn_S, hH5.1.1, nn_S, c_isSameSum hN l14 hH5.1.2.2.2.1 q3 hH5.2.2.1, c2_S, zb_bI, ck_T]
    rfl
  | succ f ih =>
    intro n k g T h1 h2 hS hO hH hT hB
    obtain ⟨n, rfl⟩ : ∃ z, n = z + 1 := ⟨n - 1, by omega⟩
    have v3 : rdI g (ad p) 3 = nI X.2.1.1 := hO.2.1.1.1
    have l14 := hS.2.2.1.2.2.2.2.2.1
    obtain ⟨k1, k2⟩ := hO.2.1.2.1 k (by omega)
    obtain ⟨g1, a1, a2, a3⟩ := c_sumOfEntry (N := N) (show 30 ≤ N by omega) (g := g) (p := 0) (x3 := (0 : Int32)) (hS.mx hI) (tg8 hI (t := 14) (by omega) l14) rfl (X.2.1.2.1 k) (X.2.1.2.2 k)
    have f1 := Fr.ch3 hI a2
    have hS1 := hS.fr f1.1
    have hO1 := hO.fr f1 (fun r r1 r2 => by omega)
    have v7 : rdI g1 (ad p) 7 = nI a := hO1.2.1.1.2.2.2.2.1.trans hX.1
    obtain ⟨g2, b1, b2, b3⟩ := c_putR hN hI (q := a + k) (e := 0) (rs := 14) (p := 0) (x1 := nI (a + k)) (x2 := (1 : Int32)) (x4 := (0 : Int32)) rfl rfl rfl (by omega) (by omega) (by omega) (by omega) (by omega) hS1 (hT.fr f1 (by omega)) hB (v := ENT (X.2.1.2.1 k) (X.2.1.2.2 k)) (by rw [a3]; exact seg_putA)
    have f2 : Fr ad (fun r => r = 2 ∨ r = 3 ∨ 10 ≤ r ∧ r ≤ 14) g g2 := (f1.mono (fun r h => by omega)).tr (b2.mono (fun r h => by omega))
    obtain ⟨g3, c1, c2'⟩ := ih n (k + 1) g2 (tput T (a + k) 0 (ENT (X.2.1.2.1 k) (X.2.1.2.2 k))) (by omega) (by omega) (hS.fr f2.1) (hO.fr f2 (fun r r1 r2 => by omega)) (hH.fr f2 (fun r r1 r2 => by omega)) b3 (tput_bin hB (by simp) _)
    refine ⟨g3, ?_, f2.tr c2'⟩
    show b_X8_hasEntries_22 N S (n_X8_hasEntries_22 N S n) g _ _ _ _ _ = _
    unfold b_X8_hasEntries_22
    rw [v3, if_neg (nI_ge (by omega) (by omega)), hS.2.2.1.1, nn_S, hO.1.1, nn_S, hO.1.2.2.2.1, inb_nI (show k < 40 by omega) (by decide), ck_T, hO.1.2.1, nn_S, hO.1.2.2.2.2.1, inb_nI (show k < 40 by omega) (by decide), ck_T, hS.2.2.1.2.2.2.1, nn_S, nI_clamp (show k < 2 ^ 31 by omega), show rdI g (ad (p + 1)) k = _ from k1, show rdL g (ad (p + 2)) k = _ from k2, a1, c2_S, hS1.2.2.1.2.2.1, nn_S, hS1.2.2.1.2.2.2.1, nn_S, v7, nI_add, b1, c2_S, nm_D, nI_1]
    exact c1
theorem c_hasEntries {N : Nat} (hN : 40000 ≤ N) {S : Hs} {g : Hg} {ad : Nat → Nat} (hI : Inj ad) {p h a n_ : Nat} {X : ASl} {H : AHd} (hp : 16 ≤ p) (hh : 16 ≤ h) (hX : X.1.2.2.1 = nI a ∧ X.1.2.1 = nI n_) (hec : X.2.1.1 ≤ 40) (han : a + X.2.1.1 ≤ n_) (hn : n_ ≤ 400) (hs : nb 0 a + nb (a + X.2.1.1) n_ ≤ X.2.2.1) (hs2 : X.2.2.1 ≤ 256) (hS : ScP S g ad) (hO : PfO S g ad p X) (hH : HdO S g ad h H) :
    ∃ g1, f_X8_hasEntries N S g (ad 9) (ad p) (ad h) = some (bI (sameB (TOPX (entT X a n_)) H.2.2.1), g1) ∧ Fr ad (fun r => r = 2 ∨ r = 3 ∨ 10 ≤ r ∧ r ≤ 14) g g1 := by
  obtain ⟨g1, a1, a2, a3⟩ := c_clear (N := N) (S := S) (g := g) hI
  have hS1 := hS.fr a2.1
  have hO1 := hO.fr a2 (fun r r1 r2 => by omega)
  have u7 : rdI g1 (ad p) 7 = nI a := hO1.2.1.1.2.2.2.2.1.trans hX.1
  obtain ⟨g2, b1, b2, b3⟩ := c_climbS hN hI (a := 0) (s := 0) (x2 := (0 : Int32)) (x3 := (0 : Int32)) (x4 := nI a) rfl rfl rfl hp (Nat.zero_le _) (by omega) (by omega) hs2 hS1 hO1 a3 bin40
  rw [Nat.zero_add] at b1
  have f2 : Fr ad (fun r => r = 2 ∨ r = 3 ∨ 10 ≤ r ∧ r ≤ 14) g g2 := (a2.mono (fun r h => by omega)).tr (b2.mono (fun r h => by omega))
  obtain ⟨g3, c1, c2'⟩ := c_hasEntries22 hN hI hp hh hX hec han hn hs hs2 X.2.1.1 N 0 g2 (layX X.2.2.2 0 a 0 T40) (by omega) (by omega) (hS.fr f2.1) (hO.fr f2 (fun r r1 r2 => by omega)) (hH.fr f2 (fun r r1 r2 => by omega)) b3 (layX_bin _ (Nat.zero_le _) bin40)
  refine ⟨g3, ?_, f2.tr c2'⟩
  show b_X8_hasEntries_0 N S g _ _ _ = _
  unfold b_X8_hasEntries_0
  rw [hS.2.2.1.2.2.1, nn_S, a1, c2_S, u7, b1, c2_S]
  exact c1
/-- up a WAY over STEPS -/
def LEAD (st : Nat → Nat → Int32) (w : Nat → Int32) : Nat → (Nat → Int32) → Nat → Int32
  | 0, v => v
  | s + 1, v => LEAD st w s (if wbit w s = 0 then JOIN v (st s) else JOIN (st s) v)
theorem LEAD_congr {st : Nat → Nat → Int32} {w : Nat → Int32} : ∀ (s : Nat) {u v : Nat → Int32}, eq8 u v → eq8 (LEAD st w s u) (LEAD st w s v)
  | 0, _, _, h => h
  | s + 1, u, v, h => by
    unfold LEAD
    refine LEAD_congr s ?_
    by_cases hc : wbit w s = 0
    · rw [if_pos hc, if_pos hc]; exact JOIN_congr h eq8.rf
    · rw [if_neg hc, if_neg hc]; exact JOIN_congr eq8.rf h
theorem c_leadsTo60 {N : Nat} (hN : 40000 ≤ N) {S : Hs} {ad : Nat → Nat} (hI : Inj ad) {p h : Nat} {X : ASl} {H : AHd} (hp : 16 ≤ p) (hh : 16 ≤ h) (hs2 : X.2.2.1 ≤ 256) : ∀ (s n : Nat) (g : Hg) (v : Nat → Int32), s ≤ X.2.2.1 → s < n → ScP S g ad → PfO S g ad p X → HdO S g ad h H → eq8 (g.1 (ad 15)) (WAY X.1.2.2.2.2.1) → eq8 (g.1 (ad 14)) v →
    ∃ g1, n_X8_leadsTo_60 N S n g (ad 9) (ad p) (ad h) (nI s - 1) = some (bI (sameB (LEAD X.2.2.2 (WAY X.1.2.2.2.2.1) s v) H.2.2.2.1), g1) ∧ Fr ad (fun r => r = 2 ∨ r = 3 ∨ r = 14) g g1 := by
  intro s
  induction s with
  | zero =>
    intro n g v h1 h2 hS hO hH hw hv
    obtain ⟨n, rfl⟩ : ∃ z, n = z + 1 := ⟨n - 1, by omega⟩
    refine ⟨g, ?_, Fr.rf⟩
    show b_X8_leadsTo_60 N S (n_X8_leadsTo_60 N S n) g _ _ _ _ = _
    unfold b_X8_leadsTo_60
    rw [if_pos (by decide), hS.2.2.1.2.2.2.1, nn_S, hH.1.2.1, nn_S, c_isSameSum hN hS.2.2.1.2.2.2.2.2.1 hH.1.2.2.2.2.1 hv hH.2.2.2.1, c2_S, zb_bI, ck_T]
    rfl
  | succ s ih =>
    intro n g v h1 h2 hS hO hH hw hv
    obtain ⟨n, rfl⟩ : ∃ z, n = z + 1 := ⟨n - 1, by omega⟩
    have l14 := hS.2.2.1.2.2.2.2.2.1
    have l15 := hS.2.2.1.2.2.2.2.2.2
    have hle := hO.1.le
    have hfit := hO.2.2
    have hbit := c_bitOfWay (N := N) (S := S) (g := g) (a := ad 15) (q := 0) (d := s) (x1 := (0 : Int32)) (x2 := nI s) rfl rfl (by omega) (by omega) (by omega)
    rw [seg0, wbit_congr hw (by omega)] at hbit
    have hst := hO.2.1.2.2 s (by omega)
    have hwl := wbit_lt (WAY X.1.2.2.2.2.1) s
    have hneg : nI s + (-1 : Int32) = nI s - 1 := (Int32.sub_eq_add_neg _ _).symm
    have hrun : n_X8_leadsTo_60 N S (n + 1) g (ad 9) (ad p) (ad h) (nI (s + 1) - 1) = b_X8_leadsTo_60 N S (n_X8_leadsTo_60 N S n) g (ad 9) (ad p) (ad h) (nI (s + 1) - 1) := rfl
    unfold LEAD
    rw [hrun]
    unfold b_X8_leadsTo_60
    rw [nI_pred, if_neg (nI_pos (by omega)), hS.2.2.1.2.2.2.2.1, nn_S, hbit, c2_S]
    have hb01 : wbit (WAY X.1.2.2.2.2.1) s = 0 ∨ wbit (WAY X.1.2.2.2.2.1) s = 1 := by omega
    rcases hb01 with hz | hz
    · obtain ⟨g1, a1, a2, a3⟩ := c_join (N := N) (show 30 ≤ N by omega) (g := g) (one := ad 14) (op := 0) (other := ad (p + 3)) (qp := s) (to := ad 14) (p := 0) (x2 := (0 : Int32)) (x4 := nI s) (x6 := (0 : Int32)) (hS.mx hI) (tg8 hI (t := 14) (by omega) l14) (hI.ne (by omega)) (hI.ne (by omega)) (by omega) (by omega) (by omega) (by omega) rfl rfl rfl
      have f1 := Fr.ch3 hI a2
      have hS1 := hS.fr f1.1
      obtain ⟨g2, b1, b2⟩ := ih n g1 (JOIN v (X.2.2.2 s)) (by omega) (by omega) hS1 (hO.fr f1 (fun r r1 r2 => by omega)) (hH.fr f1 (fun r r1 r2 => by omega)) (by rw [f1.I (by omega)]; exact hw) (by rw [a3]; exact eq8_put0.tr (JOIN_congr (by rw [seg0]; exact hv) hst))
      refine ⟨g2, ?_, f1.tr b2⟩
      rw [hz, if_pos (show nI 0 = (0 : Int32) from rfl), if_pos rfl, hS.2.2.1.1, nn_S, hS.2.2.1.2.2.2.1, nn_S, hO.1.2.2.1, nn_S, nn_S, a1, c2_S, nm_D, hneg]
      exact b1
    · obtain ⟨g1, a1, a2, a3⟩ := c_join (N := N) (show 30 ≤ N by omega) (g := g) (one := ad (p + 3)) (op := s) (other := ad 14) (qp := 0) (to := ad 14) (p := 0) (x2 := nI s) (x4 := (0 : Int32)) (x6 := (0 : Int32)) (hS.mx hI) (tg8 hI (t := 14) (by omega) l14) (hI.ne (by omega)) (hI.ne (by omega)) (by omega) (by omega) (by omega) (by omega) rfl rfl rfl
      have f1 := Fr.ch3 hI a2
      have hS1 := hS.fr f1.1
      obtain ⟨g2, b1, b2⟩ := ih n g1 (JOIN (X.2.2.2 s) v) (by omega) (by omega) hS1 (hO.fr f1 (fun r r1 r2 => by omega)) (hH.fr f1 (fun r r1 r2 => by omega)) (by rw [f1.I (by omega)]; exact hw) (by rw [a3]; exact eq8_put0.tr (JOIN_congr hst (by rw [seg0]; exact hv)))
      refine ⟨g2, ?_, f1.tr b2⟩
      rw [hz, if_neg (show ¬ nI 1 = (0 : Int32) by decide), if_neg (show ¬ 1 = 0 by decide), hS.2.2.1.1, nn_S, hO.1.2.2.1, nn_S, hS.2.2.1.2.2.2.1, nn_S, nn_S, a1, c2_S, nm_D, hneg]
      exact b1
def LEADB (X : ASl) (lk : Int32) (H : AHd) : Bool := sameB (LEAD X.2.2.2 (WAY X.1.2.2.2.2.1) X.2.2.1 (if X.1.2.2.2.2.2.1 = NEG then NOUGHT else LEAF lk X.1.2.2.2.2.2.1)) H.2.2.2.1
theorem c_leadsTo {N : Nat} (hN : 40000 ≤ N) {S : Hs} {g : Hg} {ad : Nat → Nat} (hI : Inj ad) {p h : Nat} {X : ASl} {H : AHd} (lk : Int32) (hp : 16 ≤ p) (hh : 16 ≤ h) (hs2 : X.2.2.1 ≤ 256) (hS : ScP S g ad) (hO : PfO S g ad p X) (hH : HdO S g ad h H) :
    ∃ g1, f_X8_leadsTo N S g (ad 9) (ad p) lk (ad h) = some (bI (LEADB X lk H), g1) ∧ Fr ad (fun r => r = 2 ∨ r = 3 ∨ r = 14 ∨ r = 15) g g1 := by
  have l14 := hS.2.2.1.2.2.2.2.2.1
  have l15 := hS.2.2.1.2.2.2.2.2.2
  have v10 : rdI g (ad p) 10 = X.1.2.2.2.2.2.1 := hO.2.1.1.2.2.2.2.2.2.2.1
  have go : ∀ (g0 : Hg) (v : Nat → Int32), Fr ad (fun r => r = 2 ∨ r = 3 ∨ r = 14) g g0 → eq8 (g0.1 (ad 14)) v → ∃ g1, b_X8_leadsTo_36 N S g0 (ad 9) (ad p) (ad h) = some (bI (sameB (LEAD X.2.2.2 (WAY X.1.2.2.2.2.1) X.2.2.1 v) H.2.2.2.1), g1) ∧ Fr ad (fun r => r = 2 ∨ r = 3 ∨ r = 14 ∨ r = 15) g g1 := by
    intro g0 v f0 hv
    have hS0 := hS.fr f0.1
    have hO0 := hO.fr f0 (fun r r1 r2 => by omega)
    have hH0 := hH.fr f0 (fun r r1 r2 => by omega)
    obtain ⟨g1, a1, a2, a3⟩ := c_wayOf (N := N) (show 30 ≤ N by omega) (g := g0) (to := ad 15) (p := 0) (x3 := (0 : Int32)) (hS0.mx hI) (tg8 hI (t := 15) (by omega) l15) rfl X.1.2.2.2.2.1
    have f1 := Fr.ch3 hI a2
    have hO1 := hO0.fr f1 (fun r r1 r2 => by omega)
    obtain ⟨g2, b1, b2⟩ := c_leadsTo60 hN hI hp hh hs2 X.2.2.1 N g1 v (Nat.le_refl _) (by omega) (hS0.fr f1.1) hO1 (hH0.fr f1 (fun r r1 r2 => by omega)) (by rw [a3]; exact eq8_put0) (by rw [f1.I (by omega)]; exact hv)
    refine ⟨g2, ?_, ((f0.mono (fun r h => by omega)).tr (f1.mono (fun r h => by omega))).tr (b2.mono (fun r h => by omega))⟩
    unfold b_X8_leadsTo_36
    rw [hS0.2.2.1.1, nn_S, hS0.2.2.1.2.2.2.2.1, nn_S, show rdI g0 (ad p) 9 = X.1.2.2.2.2.1 from hO0.2.1.1.2.2.2.2.2.2.1, a1, c2_S, nm_D, show rdI g1 (ad p) 4 = nI X.2.2.1 from hO1.2.1.1.2.1]
    exact b1
  unfold LEADB
  have hst : f_X8_leadsTo N S g (ad 9) (ad p) lk (ad h) = b_X8_leadsTo_0 N S g (ad 9) (ad p) lk (ad h) := rfl
  rw [hst]
  unfold b_X8_leadsTo_0
  rw [v10]
  by_cases hc : X.1.2.2.2.2.2.1 = NEG
  · rw [if_pos (show X.1.2.2.2.2.2.1 = (-1 : Int32) from hc), if_pos hc, hS.2.2.1.2.2.2.1, nn_S, c_setNought (show 30 ≤ N by omega) (p := 0) (x1 := (0 : Int32)) rfl (by omega) (by omega), c2_S]
    exact go _ NOUGHT (Fr.row hI (Or.inr (Or.inr rfl))) (by rw [rowI_same]; exact eq8_put0)
  · rw [if_neg (show ¬ X.1.2.2.2.2.2.1 = (-1 : Int32) from hc), if_neg hc, hS.2.2.1.1, nn_S, hS.2.2.1.2.2.2.1, nn_S]
    obtain ⟨g1, a1, a2, a3⟩ := c_sumOfLeaf (N := N) (show 30 ≤ N by omega) (g := g) (to := ad 14) (p := 0) (x3 := (0 : Int32)) (hS.mx hI) (tg8 hI (t := 14) (by omega) l14) rfl lk X.1.2.2.2.2.2.1
    rw [a1, c2_S]
    exact go g1 _ (Fr.ch3 hI a2) (by rw [a3]; exact eq8_put0)
