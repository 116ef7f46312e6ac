/-! the reference: towers, HEADS, MARKS, comparisons -/
def TmS (g : Hg) (ad : Nat → Nat) (T : T4) : Prop := g.1 (ad 20000) 49 = nI T.1 ∧ TwH T (g.1 (ad 20047)) (g.1 (ad 20048)) (g.1 (ad 20049))
theorem TmS.fr {g g1 : Hg} {ad : Nat → Nat} {T : T4} {R : Nat → Prop} (h : TmS g ad T) (hf : Fr ad R g g1) (h0 : ¬ R 20000) (h1 : ¬ R 20047 ∧ ¬ R 20048 ∧ ¬ R 20049) : TmS g1 ad T := by
  unfold TmS
  rw [hf.I h0, hf.I h1.1, hf.I h1.2.1, hf.I h1.2.2]
  exact h
/-- FM where of the small ints only the count of blocks changes -/
def F9 (ad : Nat → Nat) (R : Nat → Prop) (g g1 : Hg) : Prop := Fr ad (fun r => R r ∨ r = 20000) g g1 ∧ ∀ k, k ≠ 49 → g1.1 (ad 20000) k = g.1 (ad 20000) k
theorem F9.fm {ad : Nat → Nat} {R : Nat → Prop} {g g1 : Hg} (h : F9 ad R g g1) : FM ad R g g1 := ⟨h.1, fun k a _ _ _ => h.2 k a⟩
theorem F9.rf {ad : Nat → Nat} {R : Nat → Prop} {g : Hg} : F9 ad R g g := ⟨Fr.rf, fun _ _ => rfl⟩
theorem F9.tr {ad : Nat → Nat} {R : Nat → Prop} {g g1 g2 : Hg} (h : F9 ad R g g1) (h1 : F9 ad R g1 g2) : F9 ad R g g2 := ⟨h.1.tr h1.1, fun k a => (h1.2 k a).trans (h.2 k a)⟩
theorem F9.mono {ad : Nat → Nat} {R Q : Nat → Prop} {g g1 : Hg} (h : F9 ad R g g1) (hq : ∀ r, R r → Q r) : F9 ad Q g g1 := ⟨h.1.mono (fun r hr => hr.imp (hq r) id), h.2⟩
theorem F9.fr {ad : Nat → Nat} {R : Nat → Prop} {g g1 : Hg} (h : Fr ad R g g1) (h0 : ¬ R 20000) : F9 ad R g g1 := ⟨h.mono (fun r hr => Or.inl hr), fun k _ => by rw [h.I h0]⟩
theorem F9.I {ad : Nat → Nat} {R : Nat → Prop} {g g1 : Hg} (h : F9 ad R g g1) {r : Nat} (hr : ¬ R r) (h0 : r ≠ 20000) : g1.1 (ad r) = g.1 (ad r) := h.1.I (fun c => c.elim hr h0)
theorem m_clear {ad : Nat → Nat} (hI : Inj ad) {g : Hg} : TmS (rowI g (ad 20000) (upd (g.1 (ad 20000)) 49 (nI 0))) ad T40 := by
  refine ⟨by rw [rowI_same, upd_same]; rfl, ?_⟩
  exact fun i hi => absurd hi (by show ¬ i < 0; omega)
theorem m_layR {N : Nat} (hN : 40000 ≤ N) {S : Hs} {g : Hg} {ad : Nat → Nat} (hI : Inj ad) {q e rr p : Nat} {T : T4} {v : Nat → Int32} (hq : q < 512) (he : e ≤ 8) (hrr : rr ≠ 20047 ∧ rr ≠ 20048 ∧ rr ≠ 20049) (hl : p + 8 ≤ hpL S (ad rr)) (hl2 : hpL S (ad rr) < 2 ^ 31) (hR : RfP S g ad) (hT : TmS g ad T) (hB : BinO q T) (hv : eq8 (seg (g.1 (ad rr)) p) v) :
    ∃ g1, f_X12_lay N S g (ad 20000) (nI q) (nI (2 ^ e)) (ad rr) (nI p) = some ((), g1) ∧ F9 ad (fun r => r = 20044 ∨ r = 20045 ∨ 20047 ≤ r ∧ r ≤ 20049) g g1 ∧ TmS g1 ad (tput T q e v) := by
  have hh := bin_h hB hq
  have hx := bin_ex hB hq
  obtain ⟨g1, a1, a2, a3, a4, a5⟩ := m_lay (N := N) (S := S) (g := g) (m := ad 20000) (fA := ad 20047) (zA := ad 20048) (sA := ad 20049) (oA := ad 20051) (W := ad 20044) (A := ad 20045) (h := T.1) (s := q) (e := e) (fr := ad rr) (p := p) (st := T.2.1) (ex := T.2.2.1) (sm := T.2.2.2) (v := v) (x1 := nI q) (x2 := nI (2 ^ e)) (x4 := nI p) (by omega) (hR.tm hI) (by omega) hT.1 hT.2 rfl rfl rfl (by omega) he (fun i hi => by have := hx i hi; omega) hl hl2 ⟨hI.ne hrr.1, hI.ne hrr.2.1, hI.ne hrr.2.2⟩ hv
  refine ⟨g1, a1, ⟨Fr.ch a2 (fun r h => ?_), a3⟩, a4, a5⟩
  rcases h with h | h | h | h | h | h
  · exact Or.inr (hI _ _ h)
  · have := hI _ _ h; omega
  · have := hI _ _ h; omega
  · have := hI _ _ h; omega
  · have := hI _ _ h; omega
  · have := hI _ _ h; omega
theorem m_topR {N : Nat} (hN : 40000 ≤ N) {S : Hs} {g : Hg} {ad : Nat → Nat} (hI : Inj ad) {rr at_ p : Nat} {T : T4} (hrr : rr = 20060 ∨ rr = 20065 ∨ rr = 20066) (hl : at_ + 8 ≤ hpL S (ad rr)) (hl2 : hpL S (ad rr) < 2 ^ 31) (hR : RfP S g ad) (hT : TmS g ad T) (hB : BinO p T) (hp : p < 512) :
    ∃ g1, f_X12_top N S g (ad 20000) (ad rr) (nI at_) = some ((), g1) ∧ Fr ad (fun r => r = 20044 ∨ r = 20045 ∨ r = 20051 ∨ r = rr) g g1 ∧ g1.1 (ad rr) = putA (g.1 (ad rr)) at_ (TOPX T) := by
  have hh := bin_h hB hp
  obtain ⟨g1, a1, a2, a3⟩ := m_top (N := N) (S := S) (g := g) (m := ad 20000) (fA := ad 20047) (zA := ad 20048) (sA := ad 20049) (oA := ad 20051) (W := ad 20044) (A := ad 20045) (row := ad rr) (at_ := at_) (h := T.1) (st := T.2.1) (ex := T.2.2.1) (sm := T.2.2.2) (x2 := nI at_) (by omega) (hR.tm hI) (by omega) hT.1 hT.2 rfl hl hl2 ⟨hI.ne (by omega), hI.ne (by omega), hI.ne (by omega), hI.ne (by omega), hI.ne (by omega), hI.ne (by omega), hI.ne (by omega)⟩
  refine ⟨g1, a1, Fr.ch a2 (fun r h => ?_), a3⟩
  rcases h with h | h | h | h <;> have := hI _ _ h <;> omega
theorem m_layLogR {N : Nat} (hN : 40000 ≤ N) {S : Hs} {g : Hg} {ad : Nat → Nat} (hI : Inj ad) {l a b : Nat} {T : T4} {A : ALog} (hl : l < 6) (hab : a ≤ b) (hb : b ≤ lsz A) (hsz : lsz A ≤ 400) (hR : RfP S g ad) (hL : RLog g ad 0 l A) (hT : TmS g ad T) (hB : BinO a T) :
    ∃ g1, f_X12_layLog N S g (ad 20000) (nI l) (nI a) (nI b) = some ((), g1) ∧ F9 ad (fun r => 20044 ≤ r ∧ r ≤ 20049 ∨ r = 20052) g g1 ∧ TmS g1 ad (layT (LSUM A) a b T) := by
  obtain ⟨g1, a1, a2, a3, a4, a5⟩ := m_layLog (N := N) (x1 := nI l) (x2 := nI a) (x3 := nI b) (by omega) (lky A) (lvl A) rfl rfl rfl hl hab (by omega) (hR.lg hI) hB hT.1 hT.2 (fun i hi => ⟨(hL.2.1 i (by omega)).1, (hL.2.1 i (by omega)).2.1⟩)
  refine ⟨g1, a1, ⟨Fr.ch a2 (fun r h => ?_), a3⟩, a4, a5⟩
  rcases h with h | h | h | h | h | h | h | h <;> have := hI _ _ h <;> omega
/-- a HEAD in the reference's row of role rr, from place p on -/
def RHd (g : Hg) (ad : Nat → Nat) (rr p : Nat) (H : AHd) : Prop := (g.1 (ad rr) p = H.2.1.1 ∧ g.1 (ad rr) (p + 1) = H.2.1.2.1 ∧ g.1 (ad rr) (p + 2) = H.2.1.2.2) ∧ eq8 (seg (g.1 (ad rr)) (p + 4)) H.2.2.1 ∧ eq8 (seg (g.1 (ad rr)) (p + 12)) H.2.2.2.1 ∧ eq8 (seg (g.1 (ad rr)) (p + 20)) H.2.2.2.2
theorem RHd.row {g g1 : Hg} {ad ad1 : Nat → Nat} {rr p : Nat} {H : AHd} (h : RHd g ad rr p H) (e : ∀ j, j < 28 → g1.1 (ad1 rr) (p + j) = g.1 (ad rr) (p + j)) : RHd g1 ad1 rr p H := by
  obtain ⟨⟨h1, h2, h3⟩, h4, h5, h6⟩ := h
  refine ⟨⟨?_, ?_, ?_⟩, fun j hj => ?_, fun j hj => ?_, fun j hj => ?_⟩
  · rw [← h1]; exact e 0 (by decide)
  · rw [e 1 (by decide)]; exact h2
  · rw [e 2 (by decide)]; exact h3
  · rw [← h4 j hj]
    show g1.1 (ad1 rr) (p + 4 + j) = g.1 (ad rr) (p + 4 + j)
    rw [show p + 4 + j = p + (4 + j) by omega]
    exact e (4 + j) (by omega)
  · rw [← h5 j hj]
    show g1.1 (ad1 rr) (p + 12 + j) = g.1 (ad rr) (p + 12 + j)
    rw [show p + 12 + j = p + (12 + j) by omega]
    exact e (12 + j) (by omega)
  · rw [← h6 j hj]
    show g1.1 (ad1 rr) (p + 20 + j) = g.1 (ad rr) (p + 20 + j)
    rw [show p + 20 + j = p + (20 + j) by omega]
    exact e (20 + j) (by omega)
theorem RHd.fr {g g1 : Hg} {ad : Nat → Nat} {rr p : Nat} {H : AHd} {R : Nat → Prop} (h : RHd g ad rr p H) (hf : Fr ad R g g1) (hr : ¬ R rr) : RHd g1 ad rr p H := h.row (fun j _ => by rw [hf.I hr])
theorem RHd.fm {g g1 : Hg} {ad : Nat → Nat} {rr p : Nat} {H : AHd} {R : Nat → Prop} (h : RHd g ad rr p H) (hf : FM ad R g g1) (hr : ¬ R rr) (h0 : rr ≠ 20000) : RHd g1 ad rr p H := h.row (fun j _ => by rw [hf.I hr h0])
/-- what the loop of mark has written into words -/
def mwr (r u v : Nat → Int32) (j : Nat) : Nat → Int32 := fun k => if 4 ≤ k ∧ k < 4 + j then u (k - 4) else if 12 ≤ k ∧ k < 12 + j then v (k - 12) else r k
theorem mwr_s (r u v : Nat → Int32) {j : Nat} (hj : j < 8) : upd (upd (mwr r u v j) (4 + j) (u j)) (12 + j) (v j) = mwr r u v (j + 1) := by
  funext k
  unfold mwr
  by_cases c1 : k = 12 + j
  · subst c1
    rw [upd_same, if_neg (by omega), if_pos (by omega), show 12 + j - 12 = j by omega]
  · rw [upd_ne _ _ c1]
    by_cases c2' : k = 4 + j
    · subst c2'
      rw [upd_same, if_pos (by omega), show 4 + j - 4 = j by omega]
    · rw [upd_ne _ _ c2']
      by_cases c3 : 4 ≤ k ∧ k < 4 + j
      · rw [if_pos c3, if_pos (by omega)]
      · by_cases c4 : 12 ≤ k ∧ k < 12 + j
        · rw [if_neg c3, if_pos c4, if_neg (by omega), if_pos (by omega)]
        · rw [if_neg c3, if_neg c4, if_neg (by omega), if_neg (by omega)]
theorem m_mark38 (N : Nat) (S : Hs) {ad : Nat → Nat} (hI : Inj ad) {rr tp tr : Nat} (h1 : rr ≠ 20044) (lt : tp + 8 ≤ hpL S (ad rr)) (lr : tr + 8 ≤ hpL S (ad rr)) (l2 : hpL S (ad rr) < 2 ^ 31) (r : Nat → Int32) : ∀ (i n : Nat) (g : Hg), i ≤ 8 → i < n → RfP S g ad →
    n_X12_mark_38 N S n (rowI g (ad 20044) (mwr r (seg (g.1 (ad rr)) tp) (seg (g.1 (ad rr)) tr) (8 - i))) (ad 20000) (ad rr) (nI tp) (nI tr) (nI (8 - i)) = c2 (f_X12_mix N S (rowI g (ad 20044) (mwr r (seg (g.1 (ad rr)) tp) (seg (g.1 (ad rr)) tr) 8)) (ad 20000) 20) (fun u_3 g_2 => some ((), g_2)) := by
  intro i
  induction i with
  | zero =>
    intro n g a1 a2 hR
    obtain ⟨n, rfl⟩ : ∃ z, n = z + 1 := ⟨n - 1, by omega⟩
    show b_X12_mark_38 N S (n_X12_mark_38 N S n) _ _ _ _ _ (nI 8) = _
    unfold b_X12_mark_38
    rw [if_pos (by decide)]
  | succ i ih =>
    intro n g a1 a2 hR
    obtain ⟨n, rfl⟩ : ∃ z, n = z + 1 := ⟨n - 1, by omega⟩
    have p43 : rdR _ (ad 20000) 43 = some (ad 20044) := hR.p 43 (by decide)
    have l43 : hpL _ (ad 20044) = 24 := hR.l 43 (by decide) rfl
    have hi := ih n g (by omega) (by omega) hR
    show b_X12_mark_38 N S (n_X12_mark_38 N S n) _ _ _ _ _ (nI (8 - (i + 1))) = _
    have e7 : 8 - (i + 1) = 7 - i := by omega
    have e8 : 8 - i = 7 - i + 1 := by omega
    rw [e7]
    rw [e8] at hi
    generalize hjj : 7 - i = j at hi ⊢
    have hj : j < 8 := by omega
    rw [← mwr_s _ _ _ hj] at hi
    simp only [seg] at hi ⊢
    unfold b_X12_mark_38
    simp (disch := (first | assumption | omega | (apply Inj.ne <;> first | assumption | omega) | fail)) only [nn_S, nm_D, ck_T, c2_S, on_N, on_S, lit, mNEG, nI_add, pk_mul, inb_nI, nI_clamp, wrI_row, wrL_row, rdR_rowI, rdR_rowL, rdI_def, rdL_def, rowI_same, rowI_ne, rowI_rowI, rowL_same, rowL_ne, rowL_1, rowI_21, upd_same, upd_ne, nI_le_T, nI_le_F, nI_lt_T, nI_lt_F, nI_eq_F, nI_NEG, NEG_lt0, nI_p, eq_self, if_true, if_false, p43, l43]
    exact hi
theorem m_mark {N : Nat} (hN : 40000 ≤ N) {S : Hs} {g : Hg} {ad : Nat → Nat} (hI : Inj ad) {rr tp tr : Nat} (kp n : Int32) (h1 : rr ≠ 20044) (lt : tp + 8 ≤ hpL S (ad rr)) (lr : tr + 8 ≤ hpL S (ad rr)) (l2 : hpL S (ad rr) < 2 ^ 31) (hR : RfP S g ad) {u v : Nat → Int32} (hu : eq8 (seg (g.1 (ad rr)) tp) u) (hv : eq8 (seg (g.1 (ad rr)) tr) v) :
    ∃ g1, f_X12_mark N S g (ad 20000) kp n (ad rr) (nI tp) (nI tr) = some ((), g1) ∧ Fr ad (fun r => r = 20044 ∨ r = 20045) g g1 ∧ eq8 (g1.1 (ad 20045)) (MARK kp n u v) := by
  have p43 : rdR _ (ad 20000) 43 = some (ad 20044) := hR.p 43 (by decide)
  have l43 : hpL _ (ad 20044) = 24 := hR.l 43 (by decide) rfl
  let r0 : Nat → Int32 := upd (upd (upd (upd (g.1 (ad 20044)) 0 (nI 6)) 1 kp) 2 (nI 1000003 * kp + nI 77)) 3 n
  have e0 : mwr r0 (seg (g.1 (ad rr)) tp) (seg (g.1 (ad rr)) tr) (8 - 8) = r0 := by
    funext k
    unfold mwr
    rw [if_neg (by omega), if_neg (by omega)]
  have hk := m_mark38 N S hI h1 lt lr l2 r0 8 N g (Nat.le_refl _) (by omega) hR
  rw [e0] at hk
  obtain ⟨q, q1, q2⟩ := m_mixW (N := N) (by omega) (hR.mm hI) (cnt := 20) (by decide) (x1 := 20) rfl (mwr r0 (seg (g.1 (ad rr)) tp) (seg (g.1 (ad rr)) tr) 8) (w := kw6 kp n u v) (fun k hk => by
    unfold mwr kw6
    by_cases c : k < 4
    · rw [if_neg (by omega), if_neg (by omega), if_pos c]
      have : k = 0 ∨ k = 1 ∨ k = 2 ∨ k = 3 := by omega
      rcases this with rfl | rfl | rfl | rfl <;> simp [r0, upd, w4, nI] <;> rfl
    · rw [if_neg c]
      by_cases c2' : k < 12
      · rw [if_pos (by omega), if_pos c2']; exact hu _ (by omega)
      · rw [if_neg (by omega), if_pos (by omega), if_neg c2']; exact hv _ (by omega))
  refine ⟨rowI (rowI g (ad 20044) (mwr r0 (seg (g.1 (ad rr)) tp) (seg (g.1 (ad rr)) tr) 8)) (ad 20045) q, ?_, Fr.rt hI (Fr.row hI (Or.inr rfl)) (Or.inl rfl), by rw [rowI_same]; exact q2⟩
  show b_X12_mark_0 N S g _ _ _ _ _ _ = _
  unfold b_X12_mark_0
  simp (disch := (first | assumption | omega | (apply Inj.ne <;> first | assumption | omega) | fail)) only [nn_S, nm_D, ck_T, c2_S, on_N, on_S, lit, mNEG, nI_add, pk_mul, inb_nI, nI_clamp, wrI_row, wrL_row, rdR_rowI, rdR_rowL, rdI_def, rdL_def, rowI_same, rowI_ne, rowI_rowI, rowL_same, rowL_ne, rowL_1, rowI_21, upd_same, upd_ne, nI_le_T, nI_le_F, nI_lt_T, nI_lt_F, nI_eq_F, nI_NEG, NEG_lt0, nI_p, eq_self, if_true, if_false, p43, l43]
  rw [show (upd (upd (upd (upd (g.1 (ad 20044)) 0 (nI 6)) 1 kp) 2 (nI 1000003 * kp + nI 77)) 3 n) = r0 from rfl]
  refine Eq.trans hk ?_
  rw [q1, c2_S]
theorem all_rs (p : Nat → Bool) (j : Nat) : (List.range (j + 1)).all p = ((List.range j).all p && p j) := by
  rw [List.range_succ, List.all_append]
  simp
theorem m_areLike6 (N : Nat) (S : Hs) (g : Hg) {a p b q : Nat} (la : p + 8 ≤ hpL S a) (la2 : hpL S a < 2 ^ 31) (lb : q + 8 ≤ hpL S b) (lb2 : hpL S b < 2 ^ 31) : ∀ (i n j : Nat), j + i = 8 → i < n →
    n_X12_areLike_6 N S n g a (nI p) b (nI q) (bI ((List.range j).all (fun z => seg (g.1 a) p z == seg (g.1 b) q z))) (nI j) = some (bI (sameB (seg (g.1 a) p) (seg (g.1 b) q)), g) := by
  intro i
  induction i with
  | zero =>
    intro n j h1 h2
    obtain ⟨n, rfl⟩ : ∃ z, n = z + 1 := ⟨n - 1, by omega⟩
    obtain rfl : j = 8 := by omega
    show b_X12_areLike_6 N S (n_X12_areLike_6 N S n) g _ _ _ _ _ _ = _
    unfold b_X12_areLike_6
    simp (disch := (first | assumption | omega | (apply Inj.ne <;> first | assumption | omega) | fail)) only [nn_S, nm_D, ck_T, c2_S, on_N, on_S, lit, mNEG, nI_add, pk_mul, inb_nI, nI_clamp, wrI_row, wrL_row, rdR_rowI, rdR_rowL, rdI_def, rdL_def, rowI_same, rowI_ne, rowI_rowI, rowL_same, rowL_ne, rowL_1, rowI_21, upd_same, upd_ne, nI_le_T, nI_le_F, nI_lt_T, nI_lt_F, nI_eq_F, nI_NEG, NEG_lt0, nI_p, eq_self, if_true, if_false, zb_bI]
    rfl
  | succ i ih =>
    intro n j h1 h2
    obtain ⟨n, rfl⟩ : ∃ z, n = z + 1 := ⟨n - 1, by omega⟩
    have hi := ih n (j + 1) (by omega) (by omega)
    rw [all_rs] at hi
    show b_X12_areLike_6 N S (n_X12_areLike_6 N S n) g _ _ _ _ _ _ = _
    unfold b_X12_areLike_6
    cases hc : (List.range j).all (fun z => seg (g.1 a) p z == seg (g.1 b) q z) with
    | false =>
      rw [hc] at hi
      rw [bI_f]
      simp (disch := (first | assumption | omega | (apply Inj.ne <;> first | assumption | omega) | fail)) only [nn_S, nm_D, ck_T, c2_S, on_N, on_S, lit, mNEG, nI_add, pk_mul, inb_nI, nI_clamp, wrI_row, wrL_row, rdR_rowI, rdR_rowL, rdI_def, rdL_def, rowI_same, rowI_ne, rowI_rowI, rowL_same, rowL_ne, rowL_1, rowI_21, upd_same, upd_ne, nI_le_T, nI_le_F, nI_lt_T, nI_lt_F, nI_eq_F, nI_NEG, NEG_lt0, nI_p, eq_self, if_true, if_false]
      exact hi
    | true =>
      rw [hc, Bool.true_and] at hi
      rw [bI_t]
      simp (disch := (first | assumption | omega | (apply Inj.ne <;> first | assumption | omega) | fail)) only [nn_S, nm_D, ck_T, c2_S, on_N, on_S, lit, mNEG, nI_add, pk_mul, inb_nI, nI_clamp, wrI_row, wrL_row, rdR_rowI, rdR_rowL, rdI_def, rdL_def, rowI_same, rowI_ne, rowI_rowI, rowL_same, rowL_ne, rowL_1, rowI_21, upd_same, upd_ne, nI_le_T, nI_le_F, nI_lt_T, nI_lt_F, nI_eq_F, nI_NEG, NEG_lt0, nI_p, eq_self, if_true, if_false]
      by_cases hd : g.1 a (p + j) = g.1 b (q + j)
      · rw [if_pos hd]
        have : (seg (g.1 a) p j == seg (g.1 b) q j) = true := by simpa [seg] using hd
        rw [this] at hi
        exact hi
      · rw [if_neg hd]
        have : (seg (g.1 a) p j == seg (g.1 b) q j) = false := by simpa [seg] using hd
        rw [this] at hi
        exact hi
theorem m_areLike {N : Nat} (hN : 40000 ≤ N) {S : Hs} {g : Hg} {a p b q : Nat} {u v : Nat → Int32} (la : p + 8 ≤ hpL S a) (la2 : hpL S a < 2 ^ 31) (lb : q + 8 ≤ hpL S b) (lb2 : hpL S b < 2 ^ 31) (hu : eq8 (seg (g.1 a) p) u) (hv : eq8 (seg (g.1 b) q) v) : f_X12_areLike N S g a (nI p) b (nI q) = some (bI (sameB u v), g) := by
  rw [← sameB_congr hu hv]
  exact m_areLike6 N S g la la2 lb lb2 8 N 0 (by omega) (by omega)
/-- the reference's HEAD of a LOG at n -/
theorem m_head {N : Nat} (hN : 40000 ≤ N) {S : Hs} {g : Hg} {ad : Nat → Nat} (hI : Inj ad) {l n : Nat} {A : ALog} (hl : l < 6) (hW : LogWf A) (hn : n ≤ lsz A) (hR : RfP S g ad) (hL : RLog g ad 0 l A) :
    ∃ g1, f_X12_head N S g (ad 20000) (nI l) (nI n) (ad 20060) (nI 0) = some ((), g1) ∧ FM ad (fun r => 20044 ≤ r ∧ r ≤ 20060) g g1 ∧ RHd g1 ad 20060 0 (HEADA A (nI l) n) := by
  have hsz := hW.1
  have l59 : hpL _ (ad 20060) = 28 := hR.l 59 (by decide) rfl
  have p0 : rdR _ (ad 20000) 0 = some (ad 20001) := hR.p 0 (by decide)
  have l0 : hpL _ (ad 20001) = 24 := hR.l 0 (by decide) rfl
  have hkp : g.1 (ad 20001) (4 * l) = lkp A := hL.1.1
  let g0 : Hg := rowI (rowI g (ad 20060) (upd (upd (upd (g.1 (ad 20060)) 0 (nI n)) 1 (nI l)) 2 (lkp A))) (ad 20000) (upd (g.1 (ad 20000)) 49 (nI 0))
  have f0 : FM ad (fun r => 20044 ≤ r ∧ r ≤ 20060) g g0 := ⟨Fr.rt hI (Fr.row hI (Or.inr rfl)) (Or.inl (by omega)), fun k a b c d => by simp (disch := (first | assumption | omega | (apply Inj.ne <;> first | assumption | omega) | fail)) only [nn_S, nm_D, ck_T, c2_S, on_N, on_S, lit, mNEG, nI_add, pk_mul, inb_nI, nI_clamp, wrI_row, wrL_row, rdR_rowI, rdR_rowL, rdI_def, rdL_def, rowI_same, rowI_ne, rowI_rowI, rowL_same, rowL_ne, rowL_1, rowI_21, upd_same, upd_ne, nI_le_T, nI_le_F, nI_lt_T, nI_lt_F, nI_eq_F, nI_NEG, NEG_lt0, nI_p, eq_self, if_true, if_false, g0]⟩
  have e0 : g0.1 (ad 20060) = upd (upd (upd (g.1 (ad 20060)) 0 (nI n)) 1 (nI l)) 2 (lkp A) := by simp (disch := (first | assumption | omega | (apply Inj.ne <;> first | assumption | omega) | fail)) only [nn_S, nm_D, ck_T, c2_S, on_N, on_S, lit, mNEG, nI_add, pk_mul, inb_nI, nI_clamp, wrI_row, wrL_row, rdR_rowI, rdR_rowL, rdI_def, rdL_def, rowI_same, rowI_ne, rowI_rowI, rowL_same, rowL_ne, rowL_1, rowI_21, upd_same, upd_ne, nI_le_T, nI_le_F, nI_lt_T, nI_lt_F, nI_eq_F, nI_NEG, NEG_lt0, nI_p, eq_self, if_true, if_false, g0]
  have hR0 : RfP S g0 ad := hR.fr f0.1.1
  have hL0 := hL.fm f0 (fun r _ _ => by omega)
  have hT0 : TmS g0 ad T40 := by
    have := m_clear hI (g := rowI g (ad 20060) (upd (upd (upd (g.1 (ad 20060)) 0 (nI n)) 1 (nI l)) 2 (lkp A)))
    rw [rowI_ne _ _ (hI.ne (show 20000 ≠ 20060 by decide))] at this
    exact this
  obtain ⟨g1, a1, a2, a3⟩ := m_layLogR hN hI hl (Nat.zero_le n) hn hsz hR0 hL0 hT0 bin40
  have hR1 := hR0.fr a2.1.1
  have hB1 := layT_bin (LSUM A) (Nat.zero_le n) bin40
  obtain ⟨g2, b1, b2, b3⟩ := m_topR hN hI (rr := 20060) (at_ := 4) (Or.inl rfl) (by rw [l59]; decide) (by rw [l59]; decide) hR1 a3 hB1 (by omega)
  have hR2 := hR1.fr b2.1
  have f02 : FM ad (fun r => 20044 ≤ r ∧ r ≤ 20060) g g2 := (f0.tr (a2.fm.mono (fun r h => by omega))).tr (FM.fr (b2.mono (fun r h => by omega)) (by decide))
  obtain ⟨g3, m1, K1, c1, c2', c2b, c3, c4, c5'⟩ := m_map hN hI hl hW hn hR2 (hL.fm f02 (fun r _ _ => by omega))
  have hR3 := hR2.fr c2'.1.1
  have hM4 : m1 ≤ 400 := by have := c5'.1; omega
  have hperm := MkI.perm hW hn c5'
  have hnd : (lst K1 0 m1).Nodup := lst_nodup (fun i j _ hij hj => c5'.2.1 i j hij hj)
  obtain ⟨g4, o1, d1, d2, d3, d4, d5, d6, d7, _⟩ := m_tree hN hI (A := A) (nn_ := n) (K := K1) hM4 256 300 g3 0 m1 20060 12 (fun z => z) (Nat.le_refl _) (by decide) (Nat.zero_le _) (Nat.le_refl _) (Or.inr (Or.inl ⟨by decide, by decide⟩)) (by rw [l59]; decide) (by rw [l59]; decide) (fun h => absurd h (by decide)) (by rw [Nat.sub_self]; exact AlikeL.z hnd) hR3 c3 c4 (fun j hj => hj)
  have hR4 := hR3.fr d2.1
  have f04 : FM ad (fun r => 20044 ≤ r ∧ r ≤ 20060) g g4 := (f02.tr (c2'.mono (fun r h => by omega))).tr (FM.fr (d2.mono (fun r h => by omega)) (by decide))
  have e4 : ∀ j, g4.1 (ad 20060) j = putA (putA (upd (upd (upd (g.1 (ad 20060)) 0 (nI n)) 1 (nI l)) 2 (lkp A)) 4 (TOPA A n)) 12 (TREEA A n) j := by
    intro j
    rw [d7 j (fun h => absurd h (by decide)), show lst (fun j => K1 ((fun z => z) j)) 0 m1 = lst K1 0 m1 from rfl, TREE_perm _ _ hperm, c2'.I (by omega) (by decide), b3, a2.I (by omega) (by decide), e0]
    rfl
  have t4 : eq8 (seg (g4.1 (ad 20060)) 4) (TOPA A n) := by
    intro j hj
    show g4.1 (ad 20060) (4 + j) = _
    rw [e4]
    unfold putA
    rw [if_neg (by omega), if_pos (by omega), show 4 + j - 4 = j by omega]
  have t12 : eq8 (seg (g4.1 (ad 20060)) 12) (TREEA A n) := by
    intro j hj
    show g4.1 (ad 20060) (12 + j) = _
    rw [e4]
    unfold putA
    rw [if_pos (by omega), show 12 + j - 12 = j by omega]
  obtain ⟨g5, e1, e2, e3⟩ := m_mark hN hI (rr := 20060) (tp := 4) (tr := 12) (lkp A) (nI n) (by decide) (by rw [l59]; decide) (by rw [l59]; decide) (by rw [l59]; decide) hR4 t4 t12
  have hR5 := hR4.fr e2.1
  have hto := m_toRow (N := N) (S := S) (g := g5) (m := ad 20000) (A := ad 20045) (row := ad 20060) (at_ := 20) (x2 := nI 20) (by omega) (hR5.l 44 (by decide) rfl) (hR5.p 44 (by decide)) (hI.ne (by decide)) (by rw [l59]; decide) (by rw [l59]; decide) rfl
  have e5 : ∀ j, j < 20 → (rowI g5 (ad 20060) (putA (g5.1 (ad 20060)) 20 (g5.1 (ad 20045)))).1 (ad 20060) j = g4.1 (ad 20060) j := by
    intro j hj
    rw [rowI_same]
    unfold putA
    rw [if_neg (by omega), e2.I (by decide)]
  refine ⟨rowI g5 (ad 20060) (putA (g5.1 (ad 20060)) 20 (g5.1 (ad 20045))), ?_, (f04.tr (FM.fr (e2.mono (fun r h => by omega)) (by decide))).tr (FM.fr (Fr.row hI (r := 20060) (by omega)) (by decide)), ⟨?_, ?_, ?_⟩, fun j hj => ?_, fun j hj => ?_, fun j hj => ?_⟩
  · have h57 : g3.1 (ad 20000) 57 = nI m1 := c3.1
    have p04 : rdR _ (ad 20000) 0 = some (ad 20001) := hR4.p 0 (by decide)
    have hkp4 : g4.1 (ad 20001) (4 * l) = lkp A := by rw [f04.I (by decide) (by decide)]; exact hkp
    show b_X12_head_0 N S g _ _ _ _ _ = _
    unfold b_X12_head_0
    simp (disch := (first | assumption | omega | (apply Inj.ne <;> first | assumption | omega) | fail)) only [nn_S, nm_D, ck_T, c2_S, on_N, on_S, lit, mNEG, nI_add, pk_mul, inb_nI, nI_clamp, wrI_row, wrL_row, rdR_rowI, rdR_rowL, rdI_def, rdL_def, rowI_same, rowI_ne, rowI_rowI, rowL_same, rowL_ne, rowL_1, rowI_21, upd_same, upd_ne, nI_le_T, nI_le_F, nI_lt_T, nI_lt_F, nI_eq_F, nI_NEG, NEG_lt0, nI_p, eq_self, if_true, if_false, l59, p0, l0, hkp]
    rw [show rowI (rowI g (ad 20060) (upd (upd (upd (g.1 (ad 20060)) 0 (nI n)) 1 (nI l)) 2 (lkp A))) (ad 20000) (upd (g.1 (ad 20000)) 49 (nI 0)) = g0 from rfl, a1]
    simp (disch := (first | assumption | omega | (apply Inj.ne <;> first | assumption | omega) | fail)) only [nn_S, nm_D, ck_T, c2_S, on_N, on_S, lit, mNEG, nI_add, pk_mul, inb_nI, nI_clamp, wrI_row, wrL_row, rdR_rowI, rdR_rowL, rdI_def, rdL_def, rowI_same, rowI_ne, rowI_rowI, rowL_same, rowL_ne, rowL_1, rowI_21, upd_same, upd_ne, nI_le_T, nI_le_F, nI_lt_T, nI_lt_F, nI_eq_F, nI_NEG, NEG_lt0, nI_p, eq_self, if_true, if_false, b1, c1, h57]
    rw [show f_X12_tree N S 300 g3 (ad 20000) (nI 0) (nI m1) (nI 0) (ad 20060) (nI 12) = some ((), g4) from d1]
    simp (disch := (first | assumption | omega | (apply Inj.ne <;> first | assumption | omega) | fail)) only [nn_S, nm_D, ck_T, c2_S, on_N, on_S, lit, mNEG, nI_add, pk_mul, inb_nI, nI_clamp, wrI_row, wrL_row, rdR_rowI, rdR_rowL, rdI_def, rdL_def, rowI_same, rowI_ne, rowI_rowI, rowL_same, rowL_ne, rowL_1, rowI_21, upd_same, upd_ne, nI_le_T, nI_le_F, nI_lt_T, nI_lt_F, nI_eq_F, nI_NEG, NEG_lt0, nI_p, eq_self, if_true, if_false, p04, l0, hkp4, e1, hto]
  · rw [e5 0 (by decide), e4]
    unfold putA
    rw [if_neg (by decide), if_neg (by decide), upd_ne _ _ (by decide), upd_ne _ _ (by decide), upd_same]
    rfl
  · rw [e5 1 (by decide), e4]
    unfold putA
    rw [if_neg (by decide), if_neg (by decide), upd_ne _ _ (by decide), upd_same]
    rfl
  · rw [e5 2 (by decide), e4]
    unfold putA
    rw [if_neg (by decide), if_neg (by decide), upd_same]
    rfl
  · show (rowI g5 _ _).1 (ad 20060) (0 + 4 + j) = _
    rw [e5 _ (by omega)]
    exact t4 j hj
  · show (rowI g5 _ _).1 (ad 20060) (0 + 12 + j) = _
    rw [e5 _ (by omega)]
    exact t12 j hj
  · show (rowI g5 _ _).1 (ad 20060) (0 + 20 + j) = _
    rw [rowI_same]
    unfold putA
    rw [if_pos (by omega), show 0 + 20 + j - 20 = j by omega]
    exact e3 j hj
