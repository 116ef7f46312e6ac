/-! image, back -/
def cpFL : List (Nat × Nat) := [(0, 0), (2, 0), (3, 1), (4, 2), (5, 2), (6, 0), (7, 0), (8, 2), (9, 0), (10, 0), (11, 1), (12, 0), (13, 0), (14, 2), (15, 0), (17, 0), (18, 2), (19, 0), (20, 0)]
/-- one row of the reference is copied -/
def cpR (ad : Nat → Nat) (so do_ : Nat) (e : Nat × Nat) (g : Hg) : Hg := if e.2 = 0 then rowI g (ad (do_ + e.1)) (fun j => if j < mln e.1 then g.1 (ad (so + e.1)) j else g.1 (ad (do_ + e.1)) j) else if e.2 = 1 then rowL g (ad (do_ + e.1)) (fun j => if j < mln e.1 then g.2.1 (ad (so + e.1)) j else g.2.1 (ad (do_ + e.1)) j) else rowI g (ad (do_ + e.1)) (fun j => if j < mln e.1 then (g.1 (ad (so + e.1)) j &&& 1) else g.1 (ad (do_ + e.1)) j)
def cpA (ad : Nat → Nat) (so do_ : Nat) : List (Nat × Nat) → Hg → Hg
  | [], g => g
  | e :: l, g => cpA ad so do_ l (cpR ad so do_ e g)
theorem cpR_fr {ad : Nat → Nat} (hI : Inj ad) (so do_ : Nat) (e : Nat × Nat) (g : Hg) : Fr ad (fun r => r = do_ + e.1) g (cpR ad so do_ e g) := by
  unfold cpR
  split
  · exact Fr.row hI rfl
  · split
    · exact Fr.rowL hI rfl
    · exact Fr.row hI rfl
theorem cpA_fr {ad : Nat → Nat} (hI : Inj ad) (so do_ : Nat) : ∀ (l : List (Nat × Nat)) (g : Hg), Fr ad (fun r => ∃ e, e ∈ l ∧ r = do_ + e.1) g (cpA ad so do_ l g)
  | [], _ => Fr.rf
  | e :: l, g => ((cpR_fr hI so do_ e g).mono (fun r hr => ⟨e, List.mem_cons_self, hr⟩)).tr ((cpA_fr hI so do_ l _).mono (fun r ⟨e1, h1, h2⟩ => ⟨e1, List.mem_cons_of_mem _ h1, h2⟩))
def cpV (e : Nat × Nat) (r : Nat → Int32) (v : Nat → Int64) (r1 : Nat → Int32) (v1 : Nat → Int64) : Prop := (e.2 = 0 → ∀ j, j < mln e.1 → r1 j = r j) ∧ (e.2 = 1 → ∀ j, j < mln e.1 → v1 j = v j) ∧ (e.2 = 2 → ∀ j, j < mln e.1 → r1 j = (r j &&& 1))
theorem cpR_v {ad : Nat → Nat} (so do_ : Nat) (e : Nat × Nat) (g : Hg) : cpV e (g.1 (ad (so + e.1))) (g.2.1 (ad (so + e.1))) ((cpR ad so do_ e g).1 (ad (do_ + e.1))) ((cpR ad so do_ e g).2.1 (ad (do_ + e.1))) := by
  refine ⟨fun h j hj => ?_, fun h j hj => ?_, fun h j hj => ?_⟩
  · unfold cpR
    rw [if_pos h, rowI_same, if_pos hj]
  · unfold cpR
    rw [if_neg (by omega), if_pos h, rowL_same, if_pos hj]
  · unfold cpR
    rw [if_neg (by omega), if_neg (by omega), rowI_same, if_pos hj]
theorem cpA_v {ad : Nat → Nat} (hI : Inj ad) (so do_ : Nat) (hd : so + 22 = do_ ∨ do_ + 22 = so) : ∀ (l : List (Nat × Nat)) (g : Hg), (∀ e, e ∈ l → e.1 < 22) → (l.map (fun e => e.1)).Nodup → ∀ e, e ∈ l → cpV e (g.1 (ad (so + e.1))) (g.2.1 (ad (so + e.1))) ((cpA ad so do_ l g).1 (ad (do_ + e.1))) ((cpA ad so do_ l g).2.1 (ad (do_ + e.1)))
  | [], _, _, _, e, he => absurd he (by simp)
  | a :: l, g, h1, h2, e, he => by
    have hn : a.1 ∉ l.map (fun e => e.1) := (List.nodup_cons.mp h2).1
    have h2' := (List.nodup_cons.mp h2).2
    have ha : a.1 < 22 := h1 a List.mem_cons_self
    have fA := cpA_fr hI so do_ l (cpR ad so do_ a g)
    have fR := cpR_fr hI so do_ a g
    rcases List.mem_cons.mp he with rfl | hm
    · have hne : ¬ (∃ e1, e1 ∈ l ∧ do_ + e.1 = do_ + e1.1) := fun ⟨e1, q1, q2⟩ => hn (List.mem_map.mpr ⟨e1, q1, by omega⟩)
      show cpV e _ _ ((cpA ad so do_ l (cpR ad so do_ e g)).1 _) ((cpA ad so do_ l (cpR ad so do_ e g)).2.1 _)
      rw [fA.I hne, fA.L hne]
      exact cpR_v so do_ e g
    · have := cpA_v hI so do_ hd l (cpR ad so do_ a g) (fun e he => h1 e (List.mem_cons_of_mem _ he)) h2' e hm
      have he22 : e.1 < 22 := h1 e he
      rw [fR.I (show ¬ so + e.1 = do_ + a.1 by omega), fR.L (show ¬ so + e.1 = do_ + a.1 by omega)] at this
      exact this
theorem m_ints2 {N : Nat} {S : Hs} {a b L : Nat} (hab : a ≠ b) (ha : hpL S a = L) (hb : hpL S b = L) (hL : L < 2 ^ 31) : ∀ (i n : Nat) (g : Hg), i ≤ L → i < n → n_X12_ints_2 N S n g a b (nI (L - i)) = some ((), rowI g b (fun j => if L - i ≤ j ∧ j < L then g.1 a j else g.1 b j)) := by
  intro i
  induction i with
  | zero =>
    intro n g h1 h2
    obtain ⟨n, rfl⟩ : ∃ z, n = z + 1 := ⟨n - 1, by omega⟩
    show b_X12_ints_2 N S _ g _ _ _ = _
    unfold b_X12_ints_2
    rw [ha, if_pos (nI_le (by omega) (by omega))]
    congr 2
    rw [show (fun j => if L - 0 ≤ j ∧ j < L then g.1 a j else g.1 b j) = g.1 b from funext fun j => if_neg (by omega), rowI_self]
  | succ i ih =>
    intro n g h1 h2
    obtain ⟨n, rfl⟩ : ∃ z, n = z + 1 := ⟨n - 1, by omega⟩
    obtain ⟨k, hk⟩ : ∃ k, L - (i + 1) = k := ⟨_, rfl⟩
    have hk1 : L - i = k + 1 := by omega
    have ih' := ih n (rowI g b (upd (g.1 b) k (g.1 a k))) (by omega) (by omega)
    rw [hk1, rowI_rowI, rowI_ne _ _ hab, rowI_same] at ih'
    rw [hk]
    show b_X12_ints_2 N S (n_X12_ints_2 N S n) g _ _ _ = _
    unfold b_X12_ints_2
    rw [ha, hb, if_neg (nI_ge (show k < L by omega) hL), inb_nI (show k < L by omega) hL, ck_T, ck_T, nI_clamp (by omega), nm_D, wrI_row, rdI_def, nm_D, show nI k + 1 = nI (k + 1) from nI_add k 1, ih']
    congr 3
    funext j
    by_cases c : j = k
    · subst c
      rw [if_neg (by omega), upd_same, if_pos ⟨Nat.le_refl _, by omega⟩]
    · by_cases d : k + 1 ≤ j ∧ j < L
      · rw [if_pos d, if_pos ⟨by omega, d.2⟩]
      · rw [if_neg d, upd_ne _ _ c, if_neg (by omega)]
theorem m_truths2 {N : Nat} {S : Hs} {a b L : Nat} (hab : a ≠ b) (ha : hpL S a = L) (hb : hpL S b = L) (hL : L < 2 ^ 31) : ∀ (i n : Nat) (g : Hg), i ≤ L → i < n → n_X12_truths_2 N S n g a b (nI (L - i)) = some ((), rowI g b (fun j => if L - i ≤ j ∧ j < L then (g.1 a j &&& 1) else g.1 b j)) := by
  intro i
  induction i with
  | zero =>
    intro n g h1 h2
    obtain ⟨n, rfl⟩ : ∃ z, n = z + 1 := ⟨n - 1, by omega⟩
    show b_X12_truths_2 N S _ g _ _ _ = _
    unfold b_X12_truths_2
    rw [ha, if_pos (nI_le (by omega) (by omega))]
    congr 2
    rw [show (fun j => if L - 0 ≤ j ∧ j < L then (g.1 a j &&& 1) else g.1 b j) = g.1 b from funext fun j => if_neg (by omega), rowI_self]
  | succ i ih =>
    intro n g h1 h2
    obtain ⟨n, rfl⟩ : ∃ z, n = z + 1 := ⟨n - 1, by omega⟩
    obtain ⟨k, hk⟩ : ∃ k, L - (i + 1) = k := ⟨_, rfl⟩
    have hk1 : L - i = k + 1 := by omega
    have ih' := ih n (rowI g b (upd (g.1 b) k (g.1 a k &&& 1))) (by omega) (by omega)
    rw [hk1, rowI_rowI, rowI_ne _ _ hab, rowI_same] at ih'
    rw [hk]
    show b_X12_truths_2 N S (n_X12_truths_2 N S n) g _ _ _ = _
    unfold b_X12_truths_2
    rw [ha, hb, if_neg (nI_ge (show k < L by omega) hL), inb_nI (show k < L by omega) hL, ck_T, ck_T, nI_clamp (by omega), nm_D, wrI_row, rdI_def, nm_D, show nI k + 1 = nI (k + 1) from nI_add k 1, ih']
    congr 3
    funext j
    by_cases c : j = k
    · subst c
      rw [if_neg (by omega), upd_same, if_pos ⟨Nat.le_refl _, by omega⟩]
    · by_cases d : k + 1 ≤ j ∧ j < L
      · rw [if_pos d, if_pos ⟨by omega, d.2⟩]
      · rw [if_neg d, upd_ne _ _ c, if_neg (by omega)]
theorem rowL_rowL (g : Hg) (a : Nat) (r q : Nat → Int64) : rowL (rowL g a r) a q = rowL g a q := by
  unfold rowL
  congr 2
  funext b
  by_cases hb : b = a <;> simp [va_up, hb]
theorem rowL_self (g : Hg) (a : Nat) : rowL g a (g.2.1 a) = g := by
  unfold rowL
  have : va_up g.2.1 a (g.2.1 a) = g.2.1 := by
    funext b
    by_cases hb : b = a
    · subst hb; simp [va_up]
    · simp [va_up, hb]
  rw [this]
theorem m_longs2 {N : Nat} {S : Hs} {a b L : Nat} (hab : a ≠ b) (ha : hpL S a = L) (hb : hpL S b = L) (hL : L < 2 ^ 31) : ∀ (i n : Nat) (g : Hg), i ≤ L → i < n → n_X12_longs_2 N S n g a b (nI (L - i)) = some ((), rowL g b (fun j => if L - i ≤ j ∧ j < L then g.2.1 a j else g.2.1 b j)) := by
  intro i
  induction i with
  | zero =>
    intro n g h1 h2
    obtain ⟨n, rfl⟩ : ∃ z, n = z + 1 := ⟨n - 1, by omega⟩
    show b_X12_longs_2 N S _ g _ _ _ = _
    unfold b_X12_longs_2
    rw [ha, if_pos (nI_le (by omega) (by omega))]
    congr 2
    rw [show (fun j => if L - 0 ≤ j ∧ j < L then g.2.1 a j else g.2.1 b j) = g.2.1 b from funext fun j => if_neg (by omega), rowL_self]
  | succ i ih =>
    intro n g h1 h2
    obtain ⟨n, rfl⟩ : ∃ z, n = z + 1 := ⟨n - 1, by omega⟩
    obtain ⟨k, hk⟩ : ∃ k, L - (i + 1) = k := ⟨_, rfl⟩
    have hk1 : L - i = k + 1 := by omega
    have ih' := ih n (rowL g b (fun z => if z = k then g.2.1 a k else g.2.1 b z)) (by omega) (by omega)
    rw [hk1, rowL_rowL, rowL_ne _ _ hab, rowL_same] at ih'
    rw [hk]
    show b_X12_longs_2 N S (n_X12_longs_2 N S n) g _ _ _ = _
    unfold b_X12_longs_2
    rw [ha, hb, if_neg (nI_ge (show k < L by omega) hL), inb_nI (show k < L by omega) hL, ck_T, ck_T, nI_clamp (by omega), nm_D, wrL_row, rdL_def, nm_D, show nI k + 1 = nI (k + 1) from nI_add k 1, ih']
    congr 3
    funext j
    by_cases c : j = k
    · subst c
      rw [if_neg (by omega), if_pos rfl, if_pos ⟨Nat.le_refl _, by omega⟩]
    · by_cases d : k + 1 ≤ j ∧ j < L
      · rw [if_pos d, if_pos ⟨by omega, d.2⟩]
      · rw [if_neg d, if_neg c, if_neg (by omega)]
theorem m_ints {N : Nat} (hN : 40000 ≤ N) {S : Hs} {ad : Nat → Nat} (hI : Inj ad) {so do_ k : Nat} (g : Hg) (hd : so + 22 = do_ ∨ do_ + 22 = so) (ha : hpL S (ad (so + k)) = mln k) (hb : hpL S (ad (do_ + k)) = mln k) (hL : mln k < 40000) : f_X12_ints N S g (ad (so + k)) (ad (do_ + k)) = some ((), cpR ad so do_ (k, 0) g) := by
  have e : nI (mln k - mln k) = (0 : Int32) := by rw [Nat.sub_self]; rfl
  have := m_ints2 (N := N) (S := S) (hI.ne (show so + k ≠ do_ + k by omega)) ha hb (by omega) (mln k) N g (Nat.le_refl _) (by omega)
  rw [e] at this
  show n_X12_ints_2 N S N g _ _ (0 : Int32) = _
  rw [this]
  unfold cpR
  rw [if_pos rfl]
  congr 3
  funext j
  show (if mln k - mln k ≤ j ∧ j < mln k then g.1 (ad (so + k)) j else _) = (if j < mln k then g.1 (ad (so + k)) j else _)
  by_cases c : j < mln k
  · rw [if_pos c, if_pos ⟨by omega, c⟩]
  · rw [if_neg c, if_neg (fun h => c h.2)]
theorem m_longs {N : Nat} (hN : 40000 ≤ N) {S : Hs} {ad : Nat → Nat} (hI : Inj ad) {so do_ k : Nat} (g : Hg) (hd : so + 22 = do_ ∨ do_ + 22 = so) (ha : hpL S (ad (so + k)) = mln k) (hb : hpL S (ad (do_ + k)) = mln k) (hL : mln k < 40000) : f_X12_longs N S g (ad (so + k)) (ad (do_ + k)) = some ((), cpR ad so do_ (k, 1) g) := by
  have e : nI (mln k - mln k) = (0 : Int32) := by rw [Nat.sub_self]; rfl
  have := m_longs2 (N := N) (S := S) (hI.ne (show so + k ≠ do_ + k by omega)) ha hb (by omega) (mln k) N g (Nat.le_refl _) (by omega)
  rw [e] at this
  show n_X12_longs_2 N S N g _ _ (0 : Int32) = _
  rw [this]
  unfold cpR
  rw [if_neg (show ¬ (1 : Nat) = 0 by decide), if_pos rfl]
  congr 3
  funext j
  show (if mln k - mln k ≤ j ∧ j < mln k then g.2.1 (ad (so + k)) j else _) = (if j < mln k then g.2.1 (ad (so + k)) j else _)
  by_cases c : j < mln k
  · rw [if_pos c, if_pos ⟨by omega, c⟩]
  · rw [if_neg c, if_neg (fun h => c h.2)]
theorem m_truths {N : Nat} (hN : 40000 ≤ N) {S : Hs} {ad : Nat → Nat} (hI : Inj ad) {so do_ k : Nat} (g : Hg) (hd : so + 22 = do_ ∨ do_ + 22 = so) (ha : hpL S (ad (so + k)) = mln k) (hb : hpL S (ad (do_ + k)) = mln k) (hL : mln k < 40000) : f_X12_truths N S g (ad (so + k)) (ad (do_ + k)) = some ((), cpR ad so do_ (k, 2) g) := by
  have e : nI (mln k - mln k) = (0 : Int32) := by rw [Nat.sub_self]; rfl
  have := m_truths2 (N := N) (S := S) (hI.ne (show so + k ≠ do_ + k by omega)) ha hb (by omega) (mln k) N g (Nat.le_refl _) (by omega)
  rw [e] at this
  show n_X12_truths_2 N S N g _ _ (0 : Int32) = _
  rw [this]
  unfold cpR
  rw [if_neg (show ¬ (2 : Nat) = 0 by decide), if_neg (show ¬ (2 : Nat) = 1 by decide)]
  congr 3
  funext j
  show (if mln k - mln k ≤ j ∧ j < mln k then (g.1 (ad (so + k)) j &&& 1) else _) = (if j < mln k then (g.1 (ad (so + k)) j &&& 1) else _)
  by_cases c : j < mln k
  · rw [if_pos c, if_pos ⟨by omega, c⟩]
  · rw [if_neg c, if_neg (fun h => c h.2)]
theorem bI_and (b : Bool) : (bI b &&& (1 : Int32)) = bI b := by cases b <;> decide
/-- a house of the reference in its other rows -/
theorem RHo.cp {g g1 : Hg} {ad : Nat → Nat} {o o1 : Nat} {h : AHo} (hR : RHo g ad o h) (hW : HoW h) (hwf : ∀ i, i < h.1.1 → LogWf (h.1.2 i)) (n60 : h.2.2.2.1.1 ≤ 60) (wc : ∀ i, i < 8 → (h.2.2.2.2 i).1 = true → (h.2.2.2.2 i).2.2.1.2 ≤ 400)
    (e : ∀ x, x ∈ cpFL → cpV x (g.1 (ad (20001 + o + x.1))) (g.2.1 (ad (20001 + o + x.1))) (g1.1 (ad (20001 + o1 + x.1))) (g1.2.1 (ad (20001 + o1 + x.1)))) (e1 : g1.1 (ad 20000) (1 + o1) = g.1 (ad 20000) (1 + o)) (e2 : g1.1 (ad 20000) (16 + o1) = g.1 (ad 20000) (16 + o)) : RHo g1 ad o1 h := by
  have rr : ∀ k o : Nat, 20001 + o + k = 20001 + k + o := fun k o => by omega
  have x0 : ∀ j, j < mln 0 → g1.1 (ad (20001 + o1)) j = g.1 (ad (20001 + o)) j := by
    have := (e (0, 0) (by decide)).1 rfl
    rw [show 20001 + o + (0, 0).1 = 20001 + o from rr 0 o, show 20001 + o1 + (0, 0).1 = 20001 + o1 from rr 0 o1] at this
    exact this
  have x2 : ∀ j, j < mln 2 → g1.1 (ad (20003 + o1)) j = g.1 (ad (20003 + o)) j := by
    have := (e (2, 0) (by decide)).1 rfl
    rw [show 20001 + o + (2, 0).1 = 20003 + o from rr 2 o, show 20001 + o1 + (2, 0).1 = 20003 + o1 from rr 2 o1] at this
    exact this
  have x3 : ∀ j, j < mln 3 → g1.2.1 (ad (20004 + o1)) j = g.2.1 (ad (20004 + o)) j := by
    have := (e (3, 1) (by decide)).2.1 rfl
    rw [show 20001 + o + (3, 1).1 = 20004 + o from rr 3 o, show 20001 + o1 + (3, 1).1 = 20004 + o1 from rr 3 o1] at this
    exact this
  have x4 : ∀ j, j < mln 4 → g1.1 (ad (20005 + o1)) j = (g.1 (ad (20005 + o)) j &&& 1) := by
    have := (e (4, 2) (by decide)).2.2 rfl
    rw [show 20001 + o + (4, 2).1 = 20005 + o from rr 4 o, show 20001 + o1 + (4, 2).1 = 20005 + o1 from rr 4 o1] at this
    exact this
  have x5 : ∀ j, j < mln 5 → g1.1 (ad (20006 + o1)) j = (g.1 (ad (20006 + o)) j &&& 1) := by
    have := (e (5, 2) (by decide)).2.2 rfl
    rw [show 20001 + o + (5, 2).1 = 20006 + o from rr 5 o, show 20001 + o1 + (5, 2).1 = 20006 + o1 from rr 5 o1] at this
    exact this
  have x6 : ∀ j, j < mln 6 → g1.1 (ad (20007 + o1)) j = g.1 (ad (20007 + o)) j := by
    have := (e (6, 0) (by decide)).1 rfl
    rw [show 20001 + o + (6, 0).1 = 20007 + o from rr 6 o, show 20001 + o1 + (6, 0).1 = 20007 + o1 from rr 6 o1] at this
    exact this
  have x7 : ∀ j, j < mln 7 → g1.1 (ad (20008 + o1)) j = g.1 (ad (20008 + o)) j := by
    have := (e (7, 0) (by decide)).1 rfl
    rw [show 20001 + o + (7, 0).1 = 20008 + o from rr 7 o, show 20001 + o1 + (7, 0).1 = 20008 + o1 from rr 7 o1] at this
    exact this
  have x8 : ∀ j, j < mln 8 → g1.1 (ad (20009 + o1)) j = (g.1 (ad (20009 + o)) j &&& 1) := by
    have := (e (8, 2) (by decide)).2.2 rfl
    rw [show 20001 + o + (8, 2).1 = 20009 + o from rr 8 o, show 20001 + o1 + (8, 2).1 = 20009 + o1 from rr 8 o1] at this
    exact this
  have x9 : ∀ j, j < mln 9 → g1.1 (ad (20010 + o1)) j = g.1 (ad (20010 + o)) j := by
    have := (e (9, 0) (by decide)).1 rfl
    rw [show 20001 + o + (9, 0).1 = 20010 + o from rr 9 o, show 20001 + o1 + (9, 0).1 = 20010 + o1 from rr 9 o1] at this
    exact this
  have x10 : ∀ j, j < mln 10 → g1.1 (ad (20011 + o1)) j = g.1 (ad (20011 + o)) j := by
    have := (e (10, 0) (by decide)).1 rfl
    rw [show 20001 + o + (10, 0).1 = 20011 + o from rr 10 o, show 20001 + o1 + (10, 0).1 = 20011 + o1 from rr 10 o1] at this
    exact this
  have x11 : ∀ j, j < mln 11 → g1.2.1 (ad (20012 + o1)) j = g.2.1 (ad (20012 + o)) j := by
    have := (e (11, 1) (by decide)).2.1 rfl
    rw [show 20001 + o + (11, 1).1 = 20012 + o from rr 11 o, show 20001 + o1 + (11, 1).1 = 20012 + o1 from rr 11 o1] at this
    exact this
  have x12 : ∀ j, j < mln 12 → g1.1 (ad (20013 + o1)) j = g.1 (ad (20013 + o)) j := by
    have := (e (12, 0) (by decide)).1 rfl
    rw [show 20001 + o + (12, 0).1 = 20013 + o from rr 12 o, show 20001 + o1 + (12, 0).1 = 20013 + o1 from rr 12 o1] at this
    exact this
  have x13 : ∀ j, j < mln 13 → g1.1 (ad (20014 + o1)) j = g.1 (ad (20014 + o)) j := by
    have := (e (13, 0) (by decide)).1 rfl
    rw [show 20001 + o + (13, 0).1 = 20014 + o from rr 13 o, show 20001 + o1 + (13, 0).1 = 20014 + o1 from rr 13 o1] at this
    exact this
  have x14 : ∀ j, j < mln 14 → g1.1 (ad (20015 + o1)) j = (g.1 (ad (20015 + o)) j &&& 1) := by
    have := (e (14, 2) (by decide)).2.2 rfl
    rw [show 20001 + o + (14, 2).1 = 20015 + o from rr 14 o, show 20001 + o1 + (14, 2).1 = 20015 + o1 from rr 14 o1] at this
    exact this
  have x15 : ∀ j, j < mln 15 → g1.1 (ad (20016 + o1)) j = g.1 (ad (20016 + o)) j := by
    have := (e (15, 0) (by decide)).1 rfl
    rw [show 20001 + o + (15, 0).1 = 20016 + o from rr 15 o, show 20001 + o1 + (15, 0).1 = 20016 + o1 from rr 15 o1] at this
    exact this
  have x17 : ∀ j, j < mln 17 → g1.1 (ad (20018 + o1)) j = g.1 (ad (20018 + o)) j := by
    have := (e (17, 0) (by decide)).1 rfl
    rw [show 20001 + o + (17, 0).1 = 20018 + o from rr 17 o, show 20001 + o1 + (17, 0).1 = 20018 + o1 from rr 17 o1] at this
    exact this
  have x18 : ∀ j, j < mln 18 → g1.1 (ad (20019 + o1)) j = (g.1 (ad (20019 + o)) j &&& 1) := by
    have := (e (18, 2) (by decide)).2.2 rfl
    rw [show 20001 + o + (18, 2).1 = 20019 + o from rr 18 o, show 20001 + o1 + (18, 2).1 = 20019 + o1 from rr 18 o1] at this
    exact this
  have x19 : ∀ j, j < mln 19 → g1.1 (ad (20020 + o1)) j = g.1 (ad (20020 + o)) j := by
    have := (e (19, 0) (by decide)).1 rfl
    rw [show 20001 + o + (19, 0).1 = 20020 + o from rr 19 o, show 20001 + o1 + (19, 0).1 = 20020 + o1 from rr 19 o1] at this
    exact this
  have x20 : ∀ j, j < mln 20 → g1.1 (ad (20021 + o1)) j = g.1 (ad (20021 + o)) j := by
    have := (e (20, 0) (by decide)).1 rfl
    rw [show 20001 + o + (20, 0).1 = 20021 + o from rr 20 o, show 20001 + o1 + (20, 0).1 = 20021 + o1 from rr 20 o1] at this
    exact this
  obtain ⟨⟨a1, a2⟩, b1, c1, ⟨d1, d2⟩, w1⟩ := hR
  have h6 := hW.1
  refine ⟨⟨e1.trans a1, fun l hl => ?_⟩, fun s hs => ?_, fun r hr => ?_, ⟨e2.trans d1, fun k hk => ?_⟩, fun w hw => ?_⟩
  · obtain ⟨⟨p1, p2, p3, p4⟩, p5, p6⟩ := a2 l hl
    have hl6 : l < 6 := by omega
    have hs := (hwf l hl).1
    have hm := (hwf l hl).2.1
    refine ⟨⟨(x0 _ (by show _ < 24; omega)).trans p1, (x0 _ (by show _ < 24; omega)).trans p2, (x0 _ (by show _ < 24; omega)).trans p3, (x0 _ (by show _ < 24; omega)).trans p4⟩, fun i hi => ⟨(x2 _ (by show _ < 2400; omega)).trans (p5 i hi).1, (x3 _ (by show _ < 2400; omega)).trans (p5 i hi).2.1, (x4 _ (by show _ < 2400; omega)).trans ?_, (x5 _ (by show _ < 2400; omega)).trans ?_⟩, fun k hk => ⟨(x6 _ (by show _ < 600; omega)).trans (p6 k hk).1, (x7 _ (by show _ < 600; omega)).trans (p6 k hk).2.1, (x8 _ (by show _ < 600; omega)).trans ?_⟩⟩
    · rw [(p5 i hi).2.2.1, bI_and]
    · rw [(p5 i hi).2.2.2, bI_and]
    · rw [(p6 k hk).2.2, bI_and]
  · obtain ⟨⟨p1, p2⟩, ⟨q1, q2, q3, q4, q5, q6, q7⟩, r1, r2⟩ := b1 s hs
    have w1 := (hW.2.1 s hs).1
    have w2 := (hW.2.1 s hs).2.1
    refine ⟨⟨(x9 _ (by show _ < 128; omega)).trans p1, fun i hi z hz => (x12 _ (by show _ < 32768; omega)).trans (p2 i hi z hz)⟩, ⟨(x9 _ (by show _ < 128; omega)).trans q1, (x9 _ (by show _ < 128; omega)).trans q2, (x9 _ (by show _ < 128; omega)).trans q3, (x9 _ (by show _ < 128; omega)).trans q4, (x9 _ (by show _ < 128; omega)).trans q5, (x9 _ (by show _ < 128; omega)).trans q6, fun hk => (x9 _ (by show _ < 128; omega)).trans (q7 hk)⟩, fun k hk => ⟨(x10 _ (by show _ < 640; omega)).trans (r1 k hk).1, (x11 _ (by show _ < 640; omega)).trans (r1 k hk).2⟩, fun hk => (x10 _ (by show _ < 640; omega)).trans (r2 hk)⟩
  · obtain ⟨p1, p2, p3⟩ := c1 r hr
    refine ⟨?_, (x13 _ (by show _ < 336; omega)).trans p2, (x14 _ (by show _ < 12; omega)).trans (by rw [p3, bI_and])⟩
    obtain ⟨⟨q1, q2, q3⟩, q4, q5, q6⟩ := p1
    exact ⟨⟨(x13 _ (by show _ < 336; omega)).trans q1, (x13 _ (by show _ < 336; omega)).trans q2, (x13 _ (by show _ < 336; omega)).trans q3⟩, fun z hz => (x13 _ (by show _ < 336; omega)).trans (q4 z hz), fun z hz => (x13 _ (by show _ < 336; omega)).trans (q5 z hz), fun z hz => (x13 _ (by show _ < 336; omega)).trans (q6 z hz)⟩
  · obtain ⟨⟨⟨q1, q2, q3⟩, q4, q5, q6⟩, ⟨⟨r1, r2, r3⟩, r4, r5, r6⟩⟩ := d2 k hk
    have hk60 : k < 60 := by omega
    exact ⟨⟨⟨(x15 _ (by show _ < 3360; omega)).trans q1, (x15 _ (by show _ < 3360; omega)).trans q2, (x15 _ (by show _ < 3360; omega)).trans q3⟩, fun z hz => (x15 _ (by show _ < 3360; omega)).trans (q4 z hz), fun z hz => (x15 _ (by show _ < 3360; omega)).trans (q5 z hz), fun z hz => (x15 _ (by show _ < 3360; omega)).trans (q6 z hz)⟩, ⟨⟨(x15 _ (by show _ < 3360; omega)).trans r1, (x15 _ (by show _ < 3360; omega)).trans r2, (x15 _ (by show _ < 3360; omega)).trans r3⟩, fun z hz => (x15 _ (by show _ < 3360; omega)).trans (r4 z hz), fun z hz => (x15 _ (by show _ < 3360; omega)).trans (r5 z hz), fun z hz => (x15 _ (by show _ < 3360; omega)).trans (r6 z hz)⟩⟩
  · obtain ⟨p1, p2⟩ := w1 w hw
    refine ⟨(x18 _ (by show _ < 8; omega)).trans (by rw [p1, bI_and]), fun ht => ?_⟩
    have hc := wc w hw ht
    obtain ⟨⟨q1, q2, q3, q4, q5⟩, q6⟩ := p2 ht
    exact ⟨⟨(x17 _ (by show _ < 40; omega)).trans q1, (x17 _ (by show _ < 40; omega)).trans q2, (x17 _ (by show _ < 40; omega)).trans q3, (x17 _ (by show _ < 40; omega)).trans q4, (x17 _ (by show _ < 40; omega)).trans q5⟩, fun k hk => ⟨(x19 _ (by show _ < 3200; omega)).trans (q6 k hk).1, (x20 _ (by show _ < 3200; omega)).trans (q6 k hk).2⟩⟩
theorem RLog.cut {g : Hg} {ad : Nat → Nat} {o l : Nat} {A : ALog} (h : RLog g ad o l A) (hW : LogWf A) (od : Nat → Nat) : RLog g ad o l (cutL A (lsz A) od) := by
  obtain ⟨c1, c2'⟩ := cutM_all A (lsz A) (lmk A) (fun i hi => hW.2.2.1 i hi)
  have hm : lmk (cutL A (lsz A) od) = lmk A := c1
  have hh : ∀ b k, k ≤ lmk A → hidC (cutL A (lsz A) od) b k = hidC A b k := fun b k hk => by
    induction k with
    | zero => rfl
    | succ k ih =>
      unfold hidC
      rw [ih (by omega), show mhi (cutL A (lsz A) od) k = mhi A k from (c2' k (by omega)).2.2]
  obtain ⟨⟨p1, p2, p3, p4⟩, p5, p6⟩ := h
  refine ⟨⟨p1, p2, ?_, ?_⟩, p5, fun k hk => ?_⟩
  · rw [hm, hh true _ (Nat.le_refl _)]; exact p3
  · rw [hm, hh false _ (Nat.le_refl _)]; exact p4
  · rw [hm] at hk
    rw [show mky (cutL A (lsz A) od) k = mky A k from (c2' k hk).1, show msi (cutL A (lsz A) od) k = msi A k from (c2' k hk).2.1, show mhi (cutL A (lsz A) od) k = mhi A k from (c2' k hk).2.2]
    exact p6 k hk
theorem RHo.cut {g : Hg} {ad : Nat → Nat} {o : Nat} {h : AHo} (hR : RHo g ad o h) (hwf : ∀ i, i < h.1.1 → LogWf (h.1.2 i)) (od : Nat → Nat → Nat) : RHo g ad o (cpH h od) := ⟨⟨hR.1.1, fun l hl => (hR.1.2 l hl).cut (hwf l hl) (od l)⟩, hR.2⟩
theorem HoW.cut {h : AHo} (hW : HoW h) (od : Nat → Nat → Nat) : HoW (cpH h od) := ⟨hW.1, hW.2.1, hW.2.2.1, hW.2.2.2⟩
