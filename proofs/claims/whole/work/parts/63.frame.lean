/-! roles: an address for every part of both programs -/
def Inj (ad : Nat → Nat) : Prop := ∀ a b, ad a = ad b → a = b
theorem Inj.ne {ad : Nat → Nat} (h : Inj ad) {a b : Nat} (hab : a ≠ b) : ad a ≠ ad b := fun e => hab (h a b e)
def NEG : Int32 := -1
theorem mNEG : -(nI 1) = NEG := by decide
theorem mNEG' : (-1 : Int32) = NEG := by decide
theorem nI_NEG {a : Nat} (h : a < 2 ^ 31) : (nI a = NEG) = False := by
  apply eq_false
  intro e
  have h1 := nI_pos h
  rw [e] at h1
  exact h1 (by decide)
theorem NEG_lt0 : (NEG < nI 0) = True := by decide
theorem nI_le_T {a b : Nat} (h : a ≤ b) (hb : b < 2 ^ 31) : (nI a ≤ nI b) = True := eq_true (nI_le h hb)
theorem nI_le_F {a b : Nat} (h : b < a) (hb : a < 2 ^ 31) : (nI a ≤ nI b) = False := eq_false (nI_ge h hb)
theorem nI_lt_T {a b : Nat} (h : a < b) (hb : b < 2 ^ 31) : (nI a < nI b) = True := eq_true (nI_lt h hb)
theorem nI_lt_F {a b : Nat} (h : b ≤ a) (hb : a < 2 ^ 31) : (nI a < nI b) = False := eq_false (nI_nlt h hb)
theorem nI_eq_F {a b : Nat} (h : a ≠ b) (ha : a < 2 ^ 31) (hb : b < 2 ^ 31) : (nI a = nI b) = False := eq_false (fun e => h ((nI_eq ha hb).mp e))
theorem nI_p (n : Nat) : nI (n + 1) - nI 1 = nI n := nI_pred n
theorem rdL_def (g : Hg) (a j : Nat) : rdL g a j = g.2.1 a j := id rfl
theorem wrL_row (g : Hg) (a j : Nat) (x : Int64) : wrL g a j x = rowL g a (fun k => if k = j then x else g.2.1 a k) := by
  unfold wrL rowL
  congr 2
  funext b k
  by_cases hb : b = a
  · subst hb
    by_cases hk : k = j <;> simp [up2, va_up, hk]
  · simp [up2, va_up, hb]
theorem rdR_rowL (g : Hg) (a b k : Nat) (r : Nat → Int64) : rdR (rowL g a r) b k = rdR g b k := id rfl
theorem rowL_same (g : Hg) (a : Nat) (r : Nat → Int64) : (rowL g a r).2.1 a = r := by simp [rowL, va_up]
theorem rowL_ne (g : Hg) {a b : Nat} (r : Nat → Int64) (h : b ≠ a) : (rowL g a r).2.1 b = g.2.1 b := by simp [rowL, va_up, h]
theorem rowL_1 (g : Hg) (a b : Nat) (r : Nat → Int64) : (rowL g a r).1 b = g.1 b := id rfl
theorem rowI_21 (g : Hg) (a b : Nat) (r : Nat → Int32) : (rowI g a r).2.1 b = g.2.1 b := id rfl
theorem upd_same (r : Nat → Int32) (j : Nat) (x : Int32) : upd r j x j = x := by simp [upd]
theorem upd_ne (r : Nat → Int32) {j k : Nat} (x : Int32) (h : k ≠ j) : upd r j x k = r k := by simp [upd, h]
/-- only the rows of the roles R change, no reference does -/
def Fr (ad : Nat → Nat) (R : Nat → Prop) (g g1 : Hg) : Prop := g1.2.2 = g.2.2 ∧ ∀ r, ¬ R r → g1.1 (ad r) = g.1 (ad r) ∧ g1.2.1 (ad r) = g.2.1 (ad r)
theorem Fr.rf {ad : Nat → Nat} {R : Nat → Prop} {g : Hg} : Fr ad R g g := ⟨rfl, fun _ _ => ⟨rfl, rfl⟩⟩
theorem Fr.tr {ad : Nat → Nat} {R : Nat → Prop} {g g1 g2 : Hg} (h : Fr ad R g g1) (h1 : Fr ad R g1 g2) : Fr ad R g g2 := ⟨h1.1.trans h.1, fun r hr => ⟨(h1.2 r hr).1.trans (h.2 r hr).1, (h1.2 r hr).2.trans (h.2 r hr).2⟩⟩
theorem Fr.mono {ad : Nat → Nat} {R Q : Nat → Prop} {g g1 : Hg} (h : Fr ad R g g1) (hq : ∀ r, R r → Q r) : Fr ad Q g g1 := ⟨h.1, fun r hr => h.2 r (fun q => hr (hq r q))⟩
theorem Fr.I {ad : Nat → Nat} {R : Nat → Prop} {g g1 : Hg} (h : Fr ad R g g1) {r : Nat} (hr : ¬ R r) : g1.1 (ad r) = g.1 (ad r) := (h.2 r hr).1
theorem Fr.L {ad : Nat → Nat} {R : Nat → Prop} {g g1 : Hg} (h : Fr ad R g g1) {r : Nat} (hr : ¬ R r) : g1.2.1 (ad r) = g.2.1 (ad r) := (h.2 r hr).2
theorem Fr.P {ad : Nat → Nat} {R : Nat → Prop} {g g1 : Hg} (h : Fr ad R g g1) (a k : Nat) : rdR g1 a k = rdR g a k := by
  show g1.2.2 a k = g.2.2 a k
  rw [h.1]
theorem Fr.ch {ad : Nat → Nat} {A R : Nat → Prop} {g g1 : Hg} (h : Ch A g g1) (hA : ∀ r, A (ad r) → R r) : Fr ad R g g1 := ⟨by rw [h.1], fun r hr => ⟨h.2 _ (fun q => hr (hA r q)), by rw [h.1]⟩⟩
theorem Fr.row {ad : Nat → Nat} (hI : Inj ad) {R : Nat → Prop} {g : Hg} {r : Nat} {v : Nat → Int32} (hr : R r) : Fr ad R g (rowI g (ad r) v) := ⟨rfl, fun q hq => ⟨rowI_ne g v (hI.ne (fun e => hq (by rw [e]; exact hr))), rfl⟩⟩
theorem Fr.rowL {ad : Nat → Nat} (hI : Inj ad) {R : Nat → Prop} {g : Hg} {r : Nat} {v : Nat → Int64} (hr : R r) : Fr ad R g (rowL g (ad r) v) := ⟨rfl, fun q hq => ⟨rfl, rowL_ne g v (hI.ne (fun e => hq (by rw [e]; exact hr)))⟩⟩
theorem Fr.rt {ad : Nat → Nat} (hI : Inj ad) {R : Nat → Prop} {g g1 : Hg} {r : Nat} {v : Nat → Int32} (h : Fr ad R (rowI g (ad r) v) g1) (hr : R r) : Fr ad R g g1 := (Fr.row hI hr).tr h
theorem fr_rlt {ad : Nat → Nat} (hI : Inj ad) {R : Nat → Prop} {g g1 : Hg} {r : Nat} {v : Nat → Int64} (h : Fr ad R (rowL g (ad r) v) g1) (hr : R r) : Fr ad R g g1 := (Fr.rowL hI hr).tr h
/-! the class's fixed parts: roles 0 to 23 -/
def ScP (S : Hs) (g : Hg) (ad : Nat → Nat) : Prop :=
  (rdR g (ad 1) 0 = some (ad 2) ∧ rdR g (ad 1) 1 = some (ad 3) ∧ hpL S (ad 2) = 20 ∧ hpL S (ad 3) = 8) ∧
  (rdR g (ad 4) 0 = some (ad 1) ∧ rdR g (ad 4) 1 = some (ad 5) ∧ rdR g (ad 4) 2 = some (ad 6) ∧ rdR g (ad 4) 3 = some (ad 7) ∧ rdR g (ad 4) 4 = some (ad 8) ∧ hpL S (ad 5) = 400 ∧ hpL S (ad 6) = 400 ∧ hpL S (ad 7) = 2064 ∧ hpL S (ad 8) = 8) ∧
  (rdR g (ad 9) 0 = some (ad 1) ∧ rdR g (ad 9) 1 = some (ad 4) ∧ rdR g (ad 9) 2 = some (ad 10) ∧ rdR g (ad 9) 3 = some (ad 14) ∧ rdR g (ad 9) 4 = some (ad 15) ∧ hpL S (ad 14) = 8 ∧ hpL S (ad 15) = 8) ∧
  (rdR g (ad 10) 0 = some (ad 1) ∧ rdR g (ad 10) 1 = some (ad 11) ∧ rdR g (ad 10) 2 = some (ad 12) ∧ rdR g (ad 10) 3 = some (ad 13) ∧ hpL S (ad 11) = 12 ∧ hpL S (ad 12) = 12 ∧ hpL S (ad 13) = 96) ∧
  (rdR g (ad 0) 0 = some (ad 1) ∧ rdR g (ad 0) 1 = some (ad 4) ∧ rdR g (ad 0) 2 = some (ad 9) ∧ rdR g (ad 0) 3 = some (ad 100) ∧ rdR g (ad 0) 4 = some (ad 16) ∧ rdR g (ad 0) 5 = some (ad 20))
/-- a LOG at role b -/
def LgP (S : Hs) (g : Hg) (ad : Nat → Nat) (b : Nat) : Prop :=
  (rdR g (ad b) 0 = some (ad (b + 1)) ∧ rdR g (ad b) 1 = some (ad (b + 2)) ∧ rdR g (ad b) 2 = some (ad (b + 3)) ∧ rdR g (ad b) 3 = some (ad (b + 4)) ∧ rdR g (ad b) 4 = some (ad (b + 5)) ∧ rdR g (ad b) 5 = some (ad (b + 6)) ∧ rdR g (ad b) 8 = some (ad (b + 7))) ∧
  (rdR g (ad (b + 1)) 0 = some (ad (b + 8)) ∧ rdR g (ad (b + 1)) 1 = some (ad (b + 9)) ∧ rdR g (ad (b + 1)) 2 = some (ad (b + 10))) ∧
  (rdR g (ad (b + 2)) 0 = some (ad (b + 11)) ∧ rdR g (ad (b + 2)) 1 = some (ad (b + 12)) ∧ rdR g (ad (b + 2)) 2 = some (ad (b + 13))) ∧
  (hpL S (ad (b + 3)) = 400 ∧ hpL S (ad (b + 4)) = 400 ∧ hpL S (ad (b + 5)) = 400 ∧ hpL S (ad (b + 6)) = 6376 ∧ hpL S (ad (b + 7)) = 8) ∧
  (hpL S (ad (b + 8)) = 400 ∧ hpL S (ad (b + 9)) = 3200 ∧ hpL S (ad (b + 10)) = 400 ∧ hpL S (ad (b + 11)) = 100 ∧ hpL S (ad (b + 12)) = 100 ∧ hpL S (ad (b + 13)) = 100)
/-- a HEAD at role b -/
def HdP (S : Hs) (g : Hg) (ad : Nat → Nat) (b : Nat) : Prop := rdR g (ad b) 0 = some (ad (b + 1)) ∧ rdR g (ad b) 1 = some (ad (b + 2)) ∧ rdR g (ad b) 2 = some (ad (b + 3)) ∧ hpL S (ad (b + 1)) = 8 ∧ hpL S (ad (b + 2)) = 8 ∧ hpL S (ad (b + 3)) = 8
/-- a PROOF at role b; its row of STEPS has room for some power of two of them -/
def PfP (S : Hs) (g : Hg) (ad : Nat → Nat) (b : Nat) : Prop := rdR g (ad b) 0 = some (ad (b + 1)) ∧ rdR g (ad b) 1 = some (ad (b + 2)) ∧ rdR g (ad b) 2 = some (ad (b + 3)) ∧ hpL S (ad (b + 1)) = 40 ∧ hpL S (ad (b + 2)) = 40 ∧ ∃ j, j ≤ 4 ∧ hpL S (ad (b + 3)) = 128 * 2 ^ j
/-- a watcher at role b -/
def WtP (S : Hs) (g : Hg) (ad : Nat → Nat) (b : Nat) : Prop := rdR g (ad b) 0 = some (ad (b + 1)) ∧ hpL S (ad (b + 1)) = 400
/-! the reference's fixed parts: role 20000, and 20001 + its field -/
def mlT : List Nat := [24, 0, 2400, 2400, 2400, 2400, 600, 600, 600, 128, 640, 640, 32768, 336, 12, 3360, 0, 40, 8, 3200, 3200, 0, 24, 0, 2400, 2400, 2400, 2400, 600, 600, 600, 128, 640, 640, 32768, 336, 12, 3360, 0, 40, 8, 3200, 3200, 24, 8, 256, 64, 64, 512, 0, 8, 8, 400, 400, 3200, 400, 400, 0, 4160, 28, 8, 8, 0, 0, 8, 8]
def mln (k : Nat) : Nat := mlT.getD k 0
def RfP (S : Hs) (g : Hg) (ad : Nat → Nat) : Prop := ∀ k, k < 66 → mln k ≠ 0 → rdR g (ad 20000) k = some (ad (20001 + k)) ∧ hpL S (ad (20001 + k)) = mln k
theorem RfP.p {S : Hs} {g : Hg} {ad : Nat → Nat} (h : RfP S g ad) (k : Nat) (h1 : k < 66 ∧ mln k ≠ 0) : rdR g (ad 20000) k = some (ad (20001 + k)) := (h k h1.1 h1.2).1
theorem RfP.l {S : Hs} {g : Hg} {ad : Nat → Nat} (h : RfP S g ad) (k : Nat) (h1 : k < 66 ∧ mln k ≠ 0) {n : Nat} (hn : mln k = n) : hpL S (ad (20001 + k)) = n := hn ▸ (h k h1.1 h1.2).2
theorem RfP.fr {S : Hs} {g g1 : Hg} {ad : Nat → Nat} (h : RfP S g ad) (hg : g1.2.2 = g.2.2) : RfP S g1 ad := fun k h1 h2 => by
  have := h k h1 h2
  show g1.2.2 _ _ = _ ∧ _
  rw [hg]
  exact this
theorem ScP.fr {S : Hs} {g g1 : Hg} {ad : Nat → Nat} (h : ScP S g ad) (hg : g1.2.2 = g.2.2) : ScP S g1 ad := by
  have e : ∀ a k, rdR g1 a k = rdR g a k := fun a k => by show g1.2.2 a k = g.2.2 a k; rw [hg]
  simp only [ScP, e]
  exact h
theorem LgP.fr {S : Hs} {g g1 : Hg} {ad : Nat → Nat} {b : Nat} (h : LgP S g ad b) (hg : g1.2.2 = g.2.2) : LgP S g1 ad b := by
  have e : ∀ a k, rdR g1 a k = rdR g a k := fun a k => by show g1.2.2 a k = g.2.2 a k; rw [hg]
  simp only [LgP, e]
  exact h
theorem HdP.fr {S : Hs} {g g1 : Hg} {ad : Nat → Nat} {b : Nat} (h : HdP S g ad b) (hg : g1.2.2 = g.2.2) : HdP S g1 ad b := by
  have e : ∀ a k, rdR g1 a k = rdR g a k := fun a k => by show g1.2.2 a k = g.2.2 a k; rw [hg]
  simp only [HdP, e]
  exact h
theorem PfP.fr {S : Hs} {g g1 : Hg} {ad : Nat → Nat} {b : Nat} (h : PfP S g ad b) (hg : g1.2.2 = g.2.2) : PfP S g1 ad b := by
  have e : ∀ a k, rdR g1 a k = rdR g a k := fun a k => by show g1.2.2 a k = g.2.2 a k; rw [hg]
  simp only [PfP, e]
  exact h
theorem WtP.fr {S : Hs} {g g1 : Hg} {ad : Nat → Nat} {b : Nat} (h : WtP S g ad b) (hg : g1.2.2 = g.2.2) : WtP S g1 ad b := by
  have e : ∀ a k, rdR g1 a k = rdR g a k := fun a k => by show g1.2.2 a k = g.2.2 a k; rw [hg]
  simp only [WtP, e]
  exact h
theorem ScP.mx {S : Hs} {g : Hg} {ad : Nat → Nat} (h : ScP S g ad) (hI : Inj ad) : MxOk S g (ad 1) (ad 2) (ad 3) := ⟨h.1.1, h.1.2.1, h.1.2.2.1, h.1.2.2.2, hI.ne (by decide)⟩
theorem ScP.tw {S : Hs} {g : Hg} {ad : Nat → Nat} (h : ScP S g ad) (hI : Inj ad) : TwOk S g (ad 10) (ad 11) (ad 12) (ad 13) (ad 1) (ad 2) (ad 3) := by
  obtain ⟨p1, p2, p3, p4, p5, p6, p7⟩ := h.2.2.2.1
  refine ⟨p1, p2, p3, p4, p5, p6, p7, h.mx hI, ?_⟩
  refine ⟨?_, ?_, ?_, ?_, ?_, ?_, ?_, ?_, ?_, ?_, ?_, ?_, ?_, ?_⟩ <;> exact hI.ne (by decide)
theorem RfP.mm {S : Hs} {g : Hg} {ad : Nat → Nat} (h : RfP S g ad) (hI : Inj ad) : MmOk S g (ad 20000) (ad 20044) (ad 20045) := ⟨h.p 43 (by decide), h.p 44 (by decide), h.l 43 (by decide) rfl, h.l 44 (by decide) rfl, hI.ne (by decide)⟩
theorem RfP.tm {S : Hs} {g : Hg} {ad : Nat → Nat} (h : RfP S g ad) (hI : Inj ad) : TmOk S g (ad 20000) (ad 20047) (ad 20048) (ad 20049) (ad 20051) (ad 20044) (ad 20045) := by
  refine ⟨h.p 46 (by decide), h.p 47 (by decide), h.p 48 (by decide), h.p 50 (by decide), h.l 46 (by decide) rfl, h.l 47 (by decide) rfl, h.l 48 (by decide) rfl, h.l 50 (by decide) rfl, h.mm hI, ?_⟩
  refine ⟨?_, ?_, ?_, ?_, ?_, ?_, ?_, ?_, ?_, ?_, ?_, ?_, ?_, ?_, ?_, ?_, ?_, ?_, ?_, ?_⟩ <;> exact hI.ne (by decide)
theorem RfP.lg {S : Hs} {g : Hg} {ad : Nat → Nat} (h : RfP S g ad) (hI : Inj ad) : LgOk S g (ad 20000) (ad 20047) (ad 20048) (ad 20049) (ad 20051) (ad 20044) (ad 20045) (ad 20003) (ad 20004) (ad 20046) (ad 20052) := by
  refine ⟨h.tm hI, h.p 2 (by decide), h.p 3 (by decide), h.p 45 (by decide), h.p 51 (by decide), h.l 2 (by decide) rfl, h.l 3 (by decide) rfl, h.l 45 (by decide) rfl, h.l 51 (by decide) rfl, ?_, ?_⟩
  · refine ⟨?_, ?_, ?_, ?_, ?_, ?_, ?_, ?_, ?_⟩ <;> exact hI.ne (by decide)
  · refine ⟨?_, ?_, ?_, ?_, ?_, ?_, ?_, ?_, ?_, ?_, ?_, ?_⟩ <;> exact hI.ne (by decide)
/-! KEYS of a LOG -/
theorem c_find2 (N : Nat) (S : Hs) (g : Hg) {ad : Nat → Nat} {b ks : Nat} {K : Nat → Int32} (key : Int32) (hP : LgP S g ad b) (h3 : g.1 (ad (b + 1)) 3 = nI ks) (hK : ∀ q, q < ks → g.1 (ad (b + 8)) q = K q) (hks : ks ≤ 400) : ∀ (i n q : Nat), q + i = ks → i < n → (∀ z, z < q → K z ≠ key) →
    (∃ z, z < ks ∧ K z = key ∧ n_X2_find_2 N S n g (ad (b + 1)) key (nI q) = some (nI z, g)) ∨ ((∀ z, z < ks → K z ≠ key) ∧ n_X2_find_2 N S n g (ad (b + 1)) key (nI q) = some (NEG, g)) := by
  intro i
  induction i with
  | zero =>
    intro n q h1 h2 hz
    obtain ⟨n, rfl⟩ : ∃ z, n = z + 1 := ⟨n - 1, by omega⟩
    right
    refine ⟨fun z hz2 => hz z (by omega), ?_⟩
    show b_X2_find_2 N S (n_X2_find_2 N S n) g _ key (nI q) = _
    unfold b_X2_find_2
    simp (disch := (first | assumption | omega | (apply Inj.ne <;> first | assumption | omega) | fail)) only [nn_S, nm_D, ck_T, c2_S, on_N, on_S, lit, mNEG, nI_add, pk_mul, inb_nI, nI_clamp, wrI_row, wrL_row, rdR_rowI, rdR_rowL, rdI_def, rdL_def, rowI_same, rowI_ne, rowI_rowI, rowL_same, rowL_ne, rowL_1, rowI_21, upd_same, upd_ne, nI_le_T, nI_le_F, nI_lt_T, nI_lt_F, nI_eq_F, nI_NEG, NEG_lt0, nI_p, eq_self, if_true, if_false, h3]
  | succ i ih =>
    intro n q h1 h2 hz
    obtain ⟨n, rfl⟩ : ∃ z, n = z + 1 := ⟨n - 1, by omega⟩
    have hk := hK q (by omega)
    have hst : n_X2_find_2 N S (n + 1) g (ad (b + 1)) key (nI q) = (if K q = key then some (nI q, g) else n_X2_find_2 N S n g (ad (b + 1)) key (nI (q + 1))) := by
      show b_X2_find_2 N S (n_X2_find_2 N S n) g _ key (nI q) = _
      unfold b_X2_find_2
      simp (disch := (first | assumption | omega | (apply Inj.ne <;> first | assumption | omega) | fail)) only [nn_S, nm_D, ck_T, c2_S, on_N, on_S, lit, mNEG, nI_add, pk_mul, inb_nI, nI_clamp, wrI_row, wrL_row, rdR_rowI, rdR_rowL, rdI_def, rdL_def, rowI_same, rowI_ne, rowI_rowI, rowL_same, rowL_ne, rowL_1, rowI_21, upd_same, upd_ne, nI_le_T, nI_le_F, nI_lt_T, nI_lt_F, nI_eq_F, nI_NEG, NEG_lt0, nI_p, eq_self, if_true, if_false, h3, hP.2.1.1, hP.2.2.2.2.1, hk]
    by_cases hc : K q = key
    · left
      exact ⟨q, by omega, hc, by rw [hst, if_pos hc]⟩
    · rw [hst, if_neg hc]
      exact ih n (q + 1) (by omega) (by omega) (fun z hz2 => by
        by_cases he : z = q
        · rw [he]; exact hc
        · exact hz z (by omega))
theorem c_find {N : Nat} (hN : 40000 ≤ N) {S : Hs} {g : Hg} {ad : Nat → Nat} {b ks : Nat} {K : Nat → Int32} (key : Int32) (hP : LgP S g ad b) (h3 : g.1 (ad (b + 1)) 3 = nI ks) (hK : ∀ q, q < ks → g.1 (ad (b + 8)) q = K q) (hks : ks ≤ 400) :
    (∃ z, z < ks ∧ K z = key ∧ f_X2_find N S g (ad (b + 1)) key = some (nI z, g)) ∨ ((∀ z, z < ks → K z ≠ key) ∧ f_X2_find N S g (ad (b + 1)) key = some (NEG, g)) := c_find2 N S g key hP h3 hK hks ks N 0 (by omega) (by omega) (fun z hz => absurd hz (by omega))
