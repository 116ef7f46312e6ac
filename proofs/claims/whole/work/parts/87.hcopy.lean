/-! sums, and what a house may still make -/
def sumS (f : Nat → Nat) : Nat → Nat
  | 0 => 0
  | n + 1 => sumS f n + f n
theorem sumS_congr {f f1 : Nat → Nat} : ∀ n, (∀ i, i < n → f i = f1 i) → sumS f n = sumS f1 n
  | 0, _ => rfl
  | n + 1, h => by
    show sumS f n + f n = sumS f1 n + f1 n
    rw [sumS_congr n (fun i hi => h i (by omega)), h n (by omega)]
theorem sumS_ch {f f1 : Nat → Nat} {s : Nat} : ∀ n, s < n → (∀ i, i < n → i ≠ s → f1 i = f i) → sumS f1 n + f s = sumS f n + f1 s
  | 0, h, _ => absurd h (by omega)
  | n + 1, h, hc => by
    show sumS f1 n + f1 n + f s = sumS f n + f n + f1 s
    by_cases e : s = n
    · subst e
      rw [sumS_congr s (fun i hi => hc i (by omega) (by omega))]
      omega
    · have := sumS_ch n (show s < n by omega) (fun i hi => hc i (by omega))
      rw [hc n (by omega) (by omega)]
      omega
theorem sumS_le {f : Nat → Nat} {s : Nat} : ∀ n, s < n → f s ≤ sumS f n
  | 0, h => absurd h (by omega)
  | n + 1, h => by
    show f s ≤ sumS f n + f n
    by_cases e : s = n
    · subst e; omega
    · have := sumS_le (f := f) n (show s < n by omega); omega
def phS (S : Hs) (ad : Nat → Nat) (b : Nat) : Nat := sumS (fun s => 4096 - 2 * hpL S (ad (b + 300 + 4 * s + 3))) 16
theorem c_hcopy7 {N B : Nat} (hN : 40000 ≤ N) {b c nl mlc nbm nb0 : Nat} {lg : Nat → ALog} (hb : 100 ≤ b) (hbc : b + 1200 ≤ c ∨ c + 1200 ≤ b) (hnl : nl ≤ 6) : ∀ (f n k : Nat) (ad : Nat → Nat) (S : Hs) (g : Hg) (ml : Nat) (od : Nat → Nat → Nat), k + f = nl → f < n → AdOk B ad S → hpN S + 12000 * (6 - ml) < B → HoP S g ad b → HoC g ad b k nb0 → CLs S g ad b ml k (fun i => cutL (lg i) (lsz (lg i)) (od i)) → HoP S g ad c → HoC g ad c nl nbm → CLs S g ad c mlc nl lg →
    ∃ ad1 S1 g1 kk w ml1, ∃ od1 : Nat → Nat → Nat, n_X1_copy_7 N n S g (ad b) (ad c) (nI k) = tk kk w (n_X1_copy_60 N N S1 (rowI g1 (ad1 b) (upd (g1.1 (ad1 b)) 7 (nI 0))) (ad1 b) (ad1 c) (nI 0)) ∧ Mv (fun r => r = b ∨ r = b + 1 ∨ b + 100 ≤ r ∧ r < b + 220) ad S g ad1 S1 g1 ∧ AdOk B ad1 S1 ∧ ad1 b = ad b ∧ HoP S1 g1 ad1 b ∧ HoC g1 ad1 b nl nb0 ∧ CLs S1 g1 ad1 b ml1 nl (fun i => cutL (lg i) (lsz (lg i)) (od1 i)) ∧ (hpN S1 = hpN S + kk ∧ 4 * kk + 12000 * (6 - ml1) ≤ 12000 * (6 - ml) ∧ w + 12000 * (6 - ml1) ≤ 12000 * (6 - ml)) := by
  intro f
  induction f with
  | zero =>
    intro n k ad S g ml od h1 h2 hA hB hP hC hL hPc hCc hLc
    obtain ⟨n, rfl⟩ : ∃ z, n = z + 1 := ⟨n - 1, by omega⟩
    obtain rfl : k = nl := by omega
    refine ⟨ad, S, g, 0, 0, ml, od, ?_, Mv.rf, hA, rfl, hP, hC, hL, rfl, by omega, by omega⟩
    rw [tk_0]
    show b_X1_copy_7 N (n_X1_copy_7 N n) S g _ _ _ = _
    unfold b_X1_copy_7
    rw [rdI_def, hCc.1, if_pos (nI_le (Nat.le_refl _) (by omega)), nm_D, wrI_row]
    rfl
  | succ f ih =>
    intro n k ad S g ml od h1 h2 hA hB hP hC hL hPc hCc hLc
    obtain ⟨n, rfl⟩ : ∃ z, n = z + 1 := ⟨n - 1, by omega⟩
    have hkn : k < nl := by omega
    obtain ⟨u1, u2, u3, u4, u5⟩ := id hLc
    have e := u3 k (by omega)
    rw [if_pos (by omega)] at e
    have l1 := hPc.2.1
    obtain ⟨ad1, S1, g1, k1, w1, ml1, a1, a2, a3, a4, a5, a6, a7, a8, a9, a10, ⟨a11, a12, a13⟩⟩ := c_nextLog (N := N) (show k < 6 by omega) hA hB hP hC hL
    have ec : ad1 c = ad c := a2.ad (by omega)
    have ecl : ad1 (c + 100 + 20 * k) = ad (c + 100 + 20 * k) := a2.ad (by omega)
    have hCk := (u5 k hkn).mv a2 (fun r r1 r2 => by omega)
    have h7 : g1.1 (ad (c + 100 + 20 * k)) 7 = nI (lsz (lg k)) := by rw [← ecl]; exact hCk.2.1.1.2
    obtain ⟨g2, od1, b1, b2, b3⟩ := c_copyFirst (N := N) hN a3.1 (x := nI (lsz (lg k))) (b := b + 100 + 20 * k) (c := c + 100 + 20 * k) rfl (by omega) (by omega) (Nat.le_refl _) a7 hCk
    have m2 : Mv (fun r => b + 100 + 20 * k ≤ r ∧ r < b + 114 + 20 * k) ad1 S1 g1 ad1 S1 g2 := Mv.fr (b2.mono (fun r h => by omega))
    have mA : Mv (fun r => r = b ∨ r = b + 1 ∨ b + 100 ≤ r ∧ r < b + 220) ad S g ad1 S1 g2 := (a2.mono (fun r h => by omega)).tr (m2.mono (fun r h => by omega))
    obtain ⟨z1, z2, z3, z4, z5⟩ := id a10
    have hL2 : CLs S1 g2 ad1 b ml1 (k + 1) (fun i => cutL (lg i) (lsz (lg i)) (va_up od k od1 i)) := by
      refine ⟨by omega, z2, fun i hi => ?_, fun i hi => (z4 i hi).fr b2.1, fun i hi => ?_⟩
      · rw [b2.P]; exact z3 i hi
      · by_cases ci : i = k
        · subst ci
          show CLO S1 g2 ad1 (b + 100 + 20 * i) (cutL (lg i) (lsz (lg i)) (va_up od i od1 i))
          rw [va_same]
          exact b3
        · show CLO S1 g2 ad1 (b + 100 + 20 * i) (cutL (lg i) (lsz (lg i)) (va_up od k od1 i))
          rw [va_ne _ _ ci]
          exact (z5 i (by omega)).fr b2 (fun r r1 r2 => by omega)
    obtain ⟨ad3, S3, g3, k3, w3, ml3, od3, c1, c2', c3, cb, c4, c5', c6, ⟨c7, c8, c9⟩⟩ := ih n (k + 1) ad1 S1 g2 ml1 (va_up od k od1) (by omega) (by omega) a3 (by omega) (a5.fr b2.1) (a6.mv m2 (by omega)) hL2 (hPc.mv mA (fun r r1 r2 => by omega)) (hCc.mv mA (by omega)) (hLc.mv mA (fun r h => by omega))
    refine ⟨ad3, S3, g3, k1 + k3, w1 + w3, ml3, od3, ?_, mA.tr c2', c3, cb.trans a4, c4, c5', c6, ⟨by omega, by omega, by omega⟩⟩
    rw [a4, ec] at c1
    show b_X1_copy_7 N (n_X1_copy_7 N n) S g _ _ _ = _
    unfold b_X1_copy_7
    rw [rdI_def, hCc.1, if_neg (nI_ge hkn (by omega)), hPc.1.1, nn_S, l1, inb_nI (show k < 6 by omega) (by decide), ck_T, nm_D, nI_clamp (by omega), e, a1, c5_S, on_S, on_S, rdI_def, h7]
    rw [ecl] at b1
    rw [b1, c2_S, nm_D, nI_1, c1, tk_tk]
theorem c_hcopy60 {N B : Nat} (hN : 40000 ≤ N) {b c nl nlc nbm mbc : Nat} {h1 h2 : Nat → AHd} (hbc : b + 1200 ≤ c ∨ c + 1200 ≤ b) : ∀ (f n k : Nat) (ad : Nat → Nat) (S : Hs) (g : Hg) (mb : Nat), k + f = nbm → f < n → AdOk B ad S → hpN S + 100 * (60 - mb) < B → HoP S g ad b → HoC g ad b nl k → CBl S g ad b mb k h1 h2 → HoP S g ad c → HoC g ad c nlc nbm → CBl S g ad c mbc nbm h1 h2 →
    ∃ ad1 S1 g1 kk w mb1, n_X1_copy_60 N n S g (ad b) (ad c) (nI k) = tk kk w (n_X1_copy_90 N N S1 g1 (ad1 b) (ad1 c) (nI 0)) ∧ Mv (fun r => r = b ∨ r = b + 5 ∨ r = b + 6 ∨ b + 600 ≤ r ∧ r < b + 1140) ad S g ad1 S1 g1 ∧ AdOk B ad1 S1 ∧ ad1 b = ad b ∧ HoP S1 g1 ad1 b ∧ HoC g1 ad1 b nl nbm ∧ CBl S1 g1 ad1 b mb1 nbm h1 h2 ∧ (hpN S1 = hpN S + kk ∧ 4 * kk + 100 * (60 - mb1) ≤ 100 * (60 - mb) ∧ w + 100 * (60 - mb1) ≤ 100 * (60 - mb)) := by
  intro f
  induction f with
  | zero =>
    intro n k ad S g mb e1 e2 hA hB hP hC hL hPc hCc hLc
    obtain ⟨n, rfl⟩ : ∃ z, n = z + 1 := ⟨n - 1, by omega⟩
    obtain rfl : k = nbm := by omega
    have hm := hLc.1
    have hm2 := hLc.2.1
    refine ⟨ad, S, g, 0, 0, mb, ?_, Mv.rf, hA, rfl, hP, hC, hL, rfl, by omega, by omega⟩
    rw [tk_0]
    show b_X1_copy_60 N (n_X1_copy_60 N n) S g _ _ _ = _
    unfold b_X1_copy_60
    rw [rdI_def, hCc.2, if_pos (nI_le (Nat.le_refl _) (by omega))]
    rfl
  | succ f ih =>
    intro n k ad S g mb e1 e2 hA hB hP hC hL hPc hCc hLc
    obtain ⟨n, rfl⟩ : ∃ z, n = z + 1 := ⟨n - 1, by omega⟩
    have hkn : k < nbm := by omega
    have hm := hLc.1
    have hm2 := hLc.2.1
    have hk60 : k < 60 := by omega
    obtain ⟨y1, y2⟩ := hLc.2.2.2.2 k hkn
    obtain ⟨ad1, S1, g1, k1, w1, mb1, a1, a2, a3, a4, a5, a6, a7, a8, ⟨a9, a10, a11⟩⟩ := c_tellBlame (N := N) hk60 (p := c + 600 + 4 * k) (q := c + 900 + 4 * k) (by omega) (by omega) hA hB hP hC hL y1 y2
    rw [va_id, va_id] at a8
    have ec : ad1 c = ad c := a2.ad (by omega)
    have mA : Mv (fun r => r = b ∨ r = b + 5 ∨ r = b + 6 ∨ b + 600 ≤ r ∧ r < b + 1140) ad S g ad1 S1 g1 := a2.mono (fun r h => by omega)
    obtain ⟨ad3, S3, g3, k3, w3, mb3, c1, c2', c3, cb, c4, c5', c6, ⟨c7, c8, c9⟩⟩ := ih n (k + 1) ad1 S1 g1 mb1 (by omega) (by omega) a3 (by omega) a5 a6 a8 (hPc.mv mA (fun r r1 r2 => by omega)) (hCc.mv mA (by omega)) (hLc.mv mA (fun r h => by omega))
    refine ⟨ad3, S3, g3, k1 + k3, w1 + w3, mb3, ?_, mA.tr c2', c3, cb.trans a4, c4, c5', c6, ⟨by omega, by omega, by omega⟩⟩
    rw [a4, ec] at c1
    show b_X1_copy_60 N (n_X1_copy_60 N n) S g _ _ _ = _
    unfold b_X1_copy_60
    rw [rdI_def, hCc.2, if_neg (nI_ge hkn (by omega)), c_firstBlamed hPc hCc hLc hkn, c2_S, nn_S, c_secondBlamed hPc hCc hLc hkn, c2_S, nn_S, a1, c5_S, nm_D, nI_1, c1, tk_tk]
/-- the SLOTS of a house as they are there to be written: rows and pointers -/
def CSp (S : Hs) (g : Hg) (ad : Nat → Nat) (b k : Nat) (sl : Nat → ASl) : Prop := ∀ s, s < 16 → rdR g (ad (b + 2)) s = some (ad (b + 300 + 4 * s)) ∧ PfP S g ad (b + 300 + 4 * s) ∧ (s < k → PfO S g ad (b + 300 + 4 * s) (sl s))
theorem c_hcopy90 {N B : Nat} (hN : 40000 ≤ N) {b c : Nat} {sl : Nat → ASl} (hbc : b + 1200 ≤ c ∨ c + 1200 ≤ b) (hw : ∀ s, s < 16 → (sl s).2.1.1 ≤ 40 ∧ (sl s).2.2.1 ≤ 256) : ∀ (f n k : Nat) (ad : Nat → Nat) (S : Hs) (g : Hg), k + f = 16 → f < n → AdOk B ad S → hpN S + phS S ad b < B → HoP S g ad b → CSp S g ad b k sl → HoP S g ad c → CSl S g ad c sl →
    ∃ ad1 S1 g1 kk w, n_X1_copy_90 N n S g (ad b) (ad c) (nI k) = tk kk w (n_X1_copy_119 N N S1 g1 (ad1 b) (ad1 c) (nI 0)) ∧ Mv (fun r => b + 300 ≤ r ∧ r < b + 364) ad S g ad1 S1 g1 ∧ AdOk B ad1 S1 ∧ CSl S1 g1 ad1 b sl ∧ (hpN S1 = hpN S + kk ∧ 4 * kk + phS S1 ad1 b ≤ phS S ad b ∧ w + phS S1 ad1 b ≤ phS S ad b) := by
  intro f
  induction f with
  | zero =>
    intro n k ad S g e1 e2 hA hB hP hL hPc hLc
    obtain ⟨n, rfl⟩ : ∃ z, n = z + 1 := ⟨n - 1, by omega⟩
    obtain rfl : k = 16 := by omega
    refine ⟨ad, S, g, 0, 0, ?_, Mv.rf, hA, fun s hs => ⟨(hL s hs).1, (hL s hs).2.2 hs⟩, rfl, by omega, by omega⟩
    rw [tk_0]
    show b_X1_copy_90 N (n_X1_copy_90 N n) S g _ _ _ = _
    unfold b_X1_copy_90
    rw [if_pos (by decide)]
    rfl
  | succ f ih =>
    intro n k ad S g e1 e2 hA hB hP hL hPc hLc
    obtain ⟨n, rfl⟩ : ∃ z, n = z + 1 := ⟨n - 1, by omega⟩
    have hk : k < 16 := by omega
    obtain ⟨y1, y2, _⟩ := hL k hk
    obtain ⟨z1, z2⟩ := hLc k hk
    have hle := y2.le
    have hsum := sumS_le (f := fun s => 4096 - 2 * hpL S (ad (b + 300 + 4 * s + 3))) (s := k) 16 hk
    have hroom : Room B ad S (b + 300 + 4 * k) := by
      show hpN S + 2048 < B + hpL S (ad (b + 300 + 4 * k + 3))
      have h5 : 4096 - 2 * hpL S (ad (b + 300 + 4 * k + 3)) ≤ phS S ad b := hsum
      omega
    obtain ⟨ad1, S1, g1, k1, w1, a1, a2, a3, a4, a5, ⟨a6, a7, a8⟩⟩ := c_pfCopy (N := N) hN (p := b + 300 + 4 * k) (q := c + 300 + 4 * k) (by omega) (hw k hk).1 (hw k hk).2 hA z2 y2 hroom
    have eb : ad1 b = ad b := a2.ad (by omega)
    have ec : ad1 c = ad c := a2.ad (by omega)
    have hle1 := a5.1.le
    have mA : Mv (fun r => b + 300 ≤ r ∧ r < b + 364) ad S g ad1 S1 g1 := a2.mono (fun r h => by omega)
    have hphi : phS S1 ad1 b + (4096 - 2 * hpL S (ad (b + 300 + 4 * k + 3))) = phS S ad b + (4096 - 2 * hpL S1 (ad1 (b + 300 + 4 * k + 3))) := sumS_ch (f := fun s => 4096 - 2 * hpL S (ad (b + 300 + 4 * s + 3))) (f1 := fun s => 4096 - 2 * hpL S1 (ad1 (b + 300 + 4 * s + 3))) 16 hk (fun i hi hne => by
      show 4096 - 2 * hpL S1 (ad1 (b + 300 + 4 * i + 3)) = 4096 - 2 * hpL S (ad (b + 300 + 4 * i + 3))
      rw [a2.len (by omega)])
    have hlen : w1 + 2 * hpL S (ad (b + 300 + 4 * k + 3)) = 2 * hpL S1 (ad1 (b + 300 + 4 * k + 3)) := a7
    have hL2 : CSp S1 g1 ad1 b (k + 1) sl := fun s hs => by
      by_cases cs : s = k
      · subst cs
        refine ⟨?_, a5.1, fun _ => a5⟩
        rw [a2.R (r := b + 2) (by omega), y1, a4]
      · obtain ⟨x1, x2, x3⟩ := hL s hs
        exact ⟨a2.P (by omega) (by omega) x1, x2.mv a2 (fun r r1 r2 => by omega), fun h => (x3 (by omega)).mv a2 (fun r r1 r2 => by omega)⟩
    obtain ⟨ad3, S3, g3, k3, w3, c1, c2', c3, c4, ⟨c7, c8, c9⟩⟩ := ih n (k + 1) ad1 S1 g1 (by omega) (by omega) a3 (by omega) (hP.mv a2 (fun r r1 r2 => by omega)) hL2 (hPc.mv a2 (fun r r1 r2 => by omega)) (hLc.mv a2 (fun r h => by omega))
    refine ⟨ad3, S3, g3, k1 + k3, w1 + w3, ?_, mA.tr c2', c3, c4, ⟨by omega, by omega, by omega⟩⟩
    rw [eb, ec] at c1
    have l2 := hP.2.2.1
    have l2c := hPc.2.2.1
    show b_X1_copy_90 N (n_X1_copy_90 N n) S g _ _ _ = _
    unfold b_X1_copy_90
    rw [if_neg (show ¬ (16 : Int32) ≤ nI k from nI_ge (b := 16) hk (by decide)), hP.1.2.1, nn_S, l2, inb_nI hk (by decide), ck_T, nI_clamp (by omega), y1, nn_S, hPc.1.2.1, nn_S, l2c, inb_nI hk (by decide), ck_T, z1, nn_S, a1, c5_S, nm_D, nI_1, c1, tk_tk]
def CHp (S : Hs) (g : Hg) (ad : Nat → Nat) (b k : Nat) (hd : Nat → AHd) (tm : Nat → Int32) : Prop := ∀ r, r < 12 → rdR g (ad (b + 3)) r = some (ad (b + 400 + 4 * r)) ∧ HdP S g ad (b + 400 + 4 * r) ∧ (r < k → HdO S g ad (b + 400 + 4 * r) (hd r) ∧ g.1 (ad (b + 4)) r = tm r)
theorem c_hcopy119 {N : Nat} (hN : 40000 ≤ N) {S : Hs} {ad : Nat → Nat} (hI : Inj ad) {b c : Nat} {hd : Nat → AHd} {tm : Nat → Int32} (hbc : b + 1200 ≤ c ∨ c + 1200 ≤ b) : ∀ (f n k : Nat) (g : Hg), k + f = 12 → f < n → HoP S g ad b → CHp S g ad b k hd tm → HoP S g ad c → CHd S g ad c hd tm →
    ∃ g1, n_X1_copy_119 N n S g (ad b) (ad c) (nI k) = n_X1_copy_160 N N S g1 (ad b) (ad c) (nI 0) ∧ Fr ad (fun r => r = b + 4 ∨ b + 400 ≤ r ∧ r < b + 448) g g1 ∧ CHd S g1 ad b hd tm := by
  intro f
  induction f with
  | zero =>
    intro n k g e1 e2 hP hL hPc hLc
    obtain ⟨n, rfl⟩ : ∃ z, n = z + 1 := ⟨n - 1, by omega⟩
    obtain rfl : k = 12 := by omega
    refine ⟨g, ?_, Fr.rf, fun r hr => ⟨(hL r hr).1, (hL r hr).2.2 hr⟩⟩
    show b_X1_copy_119 N (n_X1_copy_119 N n) S g _ _ _ = _
    unfold b_X1_copy_119
    rw [if_pos (by decide)]
    rfl
  | succ f ih =>
    intro n k g e1 e2 hP hL hPc hLc
    obtain ⟨n, rfl⟩ : ∃ z, n = z + 1 := ⟨n - 1, by omega⟩
    have hk : k < 12 := by omega
    obtain ⟨y1, y2, _⟩ := hL k hk
    obtain ⟨z1, z2, z3⟩ := hLc k hk
    obtain ⟨g1, a1, a2, a3⟩ := c_headCopy (N := N) hI (b := b + 400 + 4 * k) (c := c + 400 + 4 * k) (by omega) y2 z2
    let g2 : Hg := rowI g1 (ad (b + 4)) (upd (g.1 (ad (b + 4))) k (tm k))
    have f2 : Fr ad (fun r => r = b + 4) g1 g2 := Fr.row hI rfl
    have fa : Fr ad (fun r => r = b + 4 ∨ b + 400 + 4 * k ≤ r ∧ r < b + 404 + 4 * k) g g2 := (a2.mono (fun r h => by omega)).tr (f2.mono (fun r h => by omega))
    have hL2 : CHp S g2 ad b (k + 1) hd tm := fun r hr => by
      obtain ⟨x1, x2, x3⟩ := hL r hr
      refine ⟨by rw [fa.P]; exact x1, x2.fr fa.1, fun h => ?_⟩
      show _ ∧ (rowI g1 _ _).1 _ _ = _
      rw [rowI_same]
      by_cases cr : r = k
      · subst cr
        exact ⟨a3.fr f2 (fun q q1 q2 => by omega), upd_same _ _ _⟩
      · exact ⟨(x3 (by omega)).1.fr fa (fun q q1 q2 => by omega), by rw [upd_ne _ _ cr]; exact (x3 (by omega)).2⟩
    obtain ⟨g3, c1, c2', c3⟩ := ih n (k + 1) g2 (by omega) (by omega) (hP.fr fa.1) hL2 (hPc.fr fa.1) (hLc.mv (Mv.fr fa) (fun r h => by omega))
    refine ⟨g3, ?_, (fa.mono (fun r h => by omega)).tr c2', c3⟩
    have l3 := hP.2.2.2.1
    have l3c := hPc.2.2.2.1
    have l4 := hP.2.2.2.2.1
    have l4c := hPc.2.2.2.2.1
    have hP1 := hP.fr a2.1
    have hPc1 := hPc.fr a2.1
    have zt : g1.1 (ad (c + 4)) k = tm k := by rw [a2.I (by omega)]; exact z3
    have zb4 : g1.1 (ad (b + 4)) = g.1 (ad (b + 4)) := a2.I (by omega)
    show b_X1_copy_119 N (n_X1_copy_119 N n) S g _ _ _ = _
    unfold b_X1_copy_119
    rw [if_neg (show ¬ (12 : Int32) ≤ nI k from nI_ge (b := 12) hk (by decide)), hP.1.2.2.1, nn_S, l3, inb_nI hk (by decide), ck_T, nI_clamp (by omega), y1, nn_S, hPc.1.2.2.1, nn_S, l3c, inb_nI hk (by decide), ck_T, z1, nn_S, a1, c2_S, hP1.1.2.2.2.1, nn_S, hPc1.1.2.2.2.1, nn_S, l4c, inb_nI hk (by decide), ck_T, l4, inb_nI hk (by decide), ck_T, nm_D, rdI_def, zt, wrI_row, zb4, nm_D, nI_1]
    exact c1
def CWp (S : Hs) (g : Hg) (ad : Nat → Nat) (b k : Nat) (lg : Nat → ALog) (wt : Nat → AWt) : Prop := ∀ w, w < 8 → rdR g (ad (b + 7)) w = some (ad (b + 500 + 2 * w)) ∧ WtP S g ad (b + 500 + 2 * w) ∧ (w < k → WtO S g ad (b + 500 + 2 * w) (lg (wlg (wt w))) (wt w))
theorem c_hcopy160 {N : Nat} (hN : 40000 ≤ N) {S : Hs} {ad : Nat → Nat} (hI : Inj ad) {b c : Nat} {lg : Nat → ALog} {wt : Nat → AWt} (hbc : b + 1200 ≤ c ∨ c + 1200 ≤ b) : ∀ (f n k : Nat) (g : Hg), k + f = 8 → f < n → HoP S g ad b → CWp S g ad b k lg wt → HoP S g ad c → CWt S g ad c lg wt →
    ∃ g1, n_X1_copy_160 N n S g (ad b) (ad c) (nI k) = some ((), S, g1, 0, 0) ∧ Fr ad (fun r => b + 500 ≤ r ∧ r < b + 516) g g1 ∧ CWt S g1 ad b lg wt := by
  intro f
  induction f with
  | zero =>
    intro n k g e1 e2 hP hL hPc hLc
    obtain ⟨n, rfl⟩ : ∃ z, n = z + 1 := ⟨n - 1, by omega⟩
    obtain rfl : k = 8 := by omega
    refine ⟨g, ?_, Fr.rf, fun w hw => ⟨(hL w hw).1, (hL w hw).2.2 hw⟩⟩
    show b_X1_copy_160 N (n_X1_copy_160 N n) S g _ _ _ = _
    unfold b_X1_copy_160
    rw [if_pos (by decide)]
  | succ f ih =>
    intro n k g e1 e2 hP hL hPc hLc
    obtain ⟨n, rfl⟩ : ∃ z, n = z + 1 := ⟨n - 1, by omega⟩
    have hk : k < 8 := by omega
    obtain ⟨y1, y2, _⟩ := hL k hk
    obtain ⟨z1, z2⟩ := hLc k hk
    obtain ⟨g1, a1, a2, a3⟩ := c_wCopy (N := N) hI (b := b + 500 + 2 * k) (c := c + 500 + 2 * k) (by omega) y2 z2
    have hL2 : CWp S g1 ad b (k + 1) lg wt := fun w hw => by
      obtain ⟨x1, x2, x3⟩ := hL w hw
      refine ⟨by rw [a2.P]; exact x1, x2.fr a2.1, fun h => ?_⟩
      by_cases cw : w = k
      · subst cw; exact a3
      · exact (x3 (by omega)).fr a2 (fun q q1 q2 => by omega)
    obtain ⟨g3, c1, c2', c3⟩ := ih n (k + 1) g1 (by omega) (by omega) (hP.fr a2.1) hL2 (hPc.fr a2.1) (hLc.mv (Mv.fr a2) (fun r h => by omega))
    refine ⟨g3, ?_, (a2.mono (fun r h => by omega)).tr c2', c3⟩
    have l7 := hP.2.2.2.2.2.2.2
    have l7c := hPc.2.2.2.2.2.2.2
    show b_X1_copy_160 N (n_X1_copy_160 N n) S g _ _ _ = _
    unfold b_X1_copy_160
    rw [if_neg (show ¬ (8 : Int32) ≤ nI k from nI_ge (b := 8) hk (by decide)), hP.1.2.2.2.2.2.2, nn_S, l7, inb_nI hk (by decide), ck_T, nI_clamp (by omega), y1, nn_S, hPc.1.2.2.2.2.2.2, nn_S, l7c, inb_nI hk (by decide), ck_T, z1, nn_S, a1, c2_S, nm_D, nI_1]
    exact c1
theorem WtO.cong {S : Hs} {g : Hg} {ad : Nat → Nat} {b : Nat} {A A1 : ALog} {W : AWt} (h : WtO S g ad b A W) (e : W.1 = true → lks A1 = lks A ∧ lK A1 = lK A) : WtO S g ad b A1 W := by
  refine ⟨h.1, h.2.1, fun hw => ?_⟩
  obtain ⟨h1, h2⟩ := h.2.2 hw
  obtain ⟨e1, e2⟩ := e hw
  refine ⟨h1, fun q hq => ?_⟩
  rw [e1, e2]
  exact h2 q hq
/-- a copied house: the LOGS are cut at their full count -/
def cpH (h : AHo) (od : Nat → Nat → Nat) : AHo := ((h.1.1, fun i => cutL (h.1.2 i) (lsz (h.1.2 i)) (od i)), h.2)
def phH (S : Hs) (ad : Nat → Nat) (b : Nat) (m : Nat × Nat) : Nat := 12000 * (6 - m.1) + 100 * (60 - m.2) + phS S ad b
theorem c_hcopy {N B : Nat} (hN : 40000 ≤ N) {S : Hs} {g : Hg} {ad : Nat → Nat} {b c : Nat} {m mc : Nat × Nat} {h0 h : AHo} (hb : 100 ≤ b) (hbc : b + 1200 ≤ c ∨ c + 1200 ≤ b) (hw : ∀ s, s < 16 → (h.2.1 s).2.1.1 ≤ 40 ∧ (h.2.1 s).2.2.1 ≤ 256) (hwt : ∀ w, w < 8 → (h.2.2.2.2 w).1 = true → wlg (h.2.2.2.2 w) < h.1.1) (hA : AdOk B ad S) (hB : hpN S + phH S ad b m < B) (hC : CHo S g ad b m h0) (hCc : CHo S g ad c mc h) :
    ∃ ad1 S1 g1 kk w m1, ∃ od : Nat → Nat → Nat, f_X1_copy N S g (ad b) (ad c) = some ((), S1, g1, kk, w) ∧ Mv (fun r => b ≤ r ∧ r < b + 1200) ad S g ad1 S1 g1 ∧ AdOk B ad1 S1 ∧ ad1 b = ad b ∧ CHo S1 g1 ad1 b m1 (cpH h od) ∧ (hpN S1 = hpN S + kk ∧ 4 * kk + phH S1 ad1 b m1 ≤ phH S ad b m ∧ w + phH S1 ad1 b m1 ≤ phH S ad b m) := by
  have hI := hA.1
  unfold phH at hB
  obtain ⟨p1, p2, p3, p4, p5, p6, p7⟩ := hC
  obtain ⟨q1, q2, q3, q4, q5, q6, q7⟩ := id hCc
  obtain ⟨x1, x2, x3, x4, x5⟩ := id p3
  have hnl : h.1.1 ≤ 6 := Nat.le_trans q3.1 q3.2.1
  let g0 : Hg := rowI g (ad b) (upd (g.1 (ad b)) 1 (nI 0))
  have f0 : Fr ad (fun r => r = b) g g0 := Fr.row hI rfl
  have mv0 : Mv (fun r => r = b) ad S g ad S g0 := Mv.fr f0
  have hC0 : HoC g0 ad b 0 h0.2.2.2.1.1 := ⟨by show (rowI g _ _).1 _ _ = _; rw [rowI_same, upd_same], by show (rowI g _ _).1 _ _ = _; rw [rowI_same, upd_ne _ _ (by decide)]; exact p2.2⟩
  have hL0 : CLs S g0 ad b m.1 0 (fun i => cutL (h.1.2 i) (lsz (h.1.2 i)) ((fun _ _ => 0 : Nat → Nat → Nat) i)) := ⟨Nat.zero_le _, x2, fun i hi => by rw [f0.P]; exact x3 i hi, fun i hi => (x4 i hi).fr f0.1, fun i hi => absurd hi (by omega)⟩
  obtain ⟨ad1, S1, g1, k1, w1, ml1, od, a1, a2, a3, ab, a4, a5, a6, ⟨a7, a8, a9⟩⟩ := c_hcopy7 (N := N) (B := B) hN hb hbc hnl h.1.1 N 0 ad S g0 m.1 (fun _ _ => 0) (by omega) (by omega) hA (by omega) (p1.fr f0.1) hC0 hL0 (q1.fr f0.1) (q2.mv mv0 (by omega)) (q3.mv mv0 (fun r h => by omega))
  have M01 : Mv (fun r => r = b ∨ r = b + 1 ∨ b + 100 ≤ r ∧ r < b + 220) ad S g ad1 S1 g1 := (mv0.mono (fun r h => by omega)).tr a2
  have hI1 := a3.1
  let g1' : Hg := rowI g1 (ad1 b) (upd (g1.1 (ad1 b)) 7 (nI 0))
  have f1 : Fr ad1 (fun r => r = b) g1 g1' := Fr.row hI1 rfl
  have M1 : Mv (fun r => r = b ∨ r = b + 1 ∨ b + 100 ≤ r ∧ r < b + 220) ad S g ad1 S1 g1' := M01.tr (Mv.fr (f1.mono (fun r h => by omega)))
  have hC1 : HoC g1' ad1 b h.1.1 0 := ⟨by show (rowI g1 _ _).1 _ _ = _; rw [rowI_same, upd_ne _ _ (by decide)]; exact a5.1, by show (rowI g1 _ _).1 _ _ = _; rw [rowI_same, upd_same]⟩
  have p6' := p6.mv M1 (fun r h => by omega)
  have hBl : CBl S1 g1' ad1 b m.2 0 h.2.2.2.1.2.1 h.2.2.2.1.2.2 := ⟨Nat.zero_le _, p6'.2.1, p6'.2.2.1, p6'.2.2.2.1, fun k hk => absurd hk (by omega)⟩
  have q1' := q1.mv M1 (fun r r1 r2 => by omega)
  obtain ⟨ad2, S2, g2, k2, w2, mb2, b1, b2, b3, bb, b4, b5, b6, ⟨b7, b8, b9⟩⟩ := c_hcopy60 (N := N) (B := B) hN hbc h.2.2.2.1.1 N 0 ad1 S1 g1' m.2 (by omega) (by have := q6.1; have := q6.2.1; omega) a3 (by omega) (a4.fr f1.1) hC1 hBl q1' (q2.mv M1 (by omega)) (q6.mv M1 (fun r h => by omega))
  have M2 : Mv (fun r => r = b ∨ r = b + 1 ∨ b + 100 ≤ r ∧ r < b + 220 ∨ r = b + 5 ∨ r = b + 6 ∨ b + 600 ≤ r ∧ r < b + 1140) ad S g ad2 S2 g2 := (M1.mono (fun r h => by omega)).tr (b2.mono (fun r h => by omega))
  have hph2 : phS S2 ad2 b = phS S ad b := sumS_congr 16 (fun i hi => by
    show 4096 - 2 * hpL S2 (ad2 (b + 300 + 4 * i + 3)) = 4096 - 2 * hpL S (ad (b + 300 + 4 * i + 3))
    rw [M2.len (by omega)])
  have p4' := p4.mv M2 (fun r h => by omega)
  have hSp : CSp S2 g2 ad2 b 0 h.2.1 := fun s hs => ⟨(p4' s hs).1, (p4' s hs).2.1, fun h => absurd h (by omega)⟩
  have q1'' := q1.mv M2 (fun r r1 r2 => by omega)
  obtain ⟨ad3, S3, g3, k3, w3, d1, d2, d3, d4, ⟨d5, d6, d7⟩⟩ := c_hcopy90 (N := N) (B := B) hN hbc hw 16 N 0 ad2 S2 g2 (by omega) (by omega) b3 (by rw [hph2]; omega) b4 hSp q1'' (q4.mv M2 (fun r h => by omega))
  have hI3 := d3.1
  have M3 : Mv (fun r => r = b ∨ r = b + 1 ∨ b + 100 ≤ r ∧ r < b + 220 ∨ r = b + 5 ∨ r = b + 6 ∨ b + 600 ≤ r ∧ r < b + 1140 ∨ b + 300 ≤ r ∧ r < b + 364) ad S g ad3 S3 g3 := (M2.mono (fun r h => by omega)).tr (d2.mono (fun r h => by omega))
  have p5' := p5.mv M3 (fun r h => by omega)
  have hHp : CHp S3 g3 ad3 b 0 h.2.2.1.1 h.2.2.1.2 := fun r hr => ⟨(p5' r hr).1, (p5' r hr).2.1.1, fun h => absurd h (by omega)⟩
  have b4' := b4.mv d2 (fun r r1 r2 => by omega)
  have q1c := q1.mv M3 (fun r r1 r2 => by omega)
  obtain ⟨g4, e1, e2, e3⟩ := c_hcopy119 (N := N) hN hI3 hbc 12 N 0 g3 (by omega) (by omega) b4' hHp q1c (q5.mv M3 (fun r h => by omega))
  have M4 : Mv (fun r => r = b ∨ r = b + 1 ∨ b + 100 ≤ r ∧ r < b + 220 ∨ r = b + 5 ∨ r = b + 6 ∨ b + 600 ≤ r ∧ r < b + 1140 ∨ b + 300 ≤ r ∧ r < b + 364 ∨ r = b + 4 ∨ b + 400 ≤ r ∧ r < b + 448) ad S g ad3 S3 g4 := (M3.mono (fun r h => by omega)).tr (Mv.fr (e2.mono (fun r h => by omega)))
  have p7' := p7.mv M4 (fun r h => by omega)
  have hWp : CWp S3 g4 ad3 b 0 h.1.2 h.2.2.2.2 := fun w hw => ⟨(p7' w hw).1, (p7' w hw).2.1, fun h => absurd h (by omega)⟩
  obtain ⟨g5, i1, i2, i3⟩ := c_hcopy160 (N := N) hN hI3 hbc 8 N 0 g4 (by omega) (by omega) (b4'.fr e2.1) hWp (q1c.fr e2.1) (q7.mv M4 (fun r h => by omega))
  have M5 : Mv (fun r => b ≤ r ∧ r < b + 1200) ad S g ad3 S3 g5 := (M4.mono (fun r h => by omega)).tr (Mv.fr (i2.mono (fun r h => by omega)))
  have eb3 : ad3 b = ad b := ((d2.ad (by omega)).trans bb).trans ab
  have ec1 : ad1 c = ad c := M1.ad (by omega)
  have ec2 : ad2 c = ad c := M2.ad (by omega)
  have ec3 : ad3 c = ad c := M3.ad (by omega)
  refine ⟨ad3, S3, g5, k1 + (k2 + k3), w1 + (w2 + w3), (ml1, mb2), od, ?_, M5, d3, eb3, ⟨?_, ?_, ?_, ?_, ?_, ?_, fun w hw => ⟨(i3 w hw).1, (i3 w hw).2.cong (fun ht => ?_)⟩⟩, ⟨by omega, ?_, ?_⟩⟩
  · show b_X1_copy_0 N S g (ad b) (ad c) = _
    unfold b_X1_copy_0
    rw [nm_D, wrI_row]
    refine Eq.trans a1 ?_
    rw [show rowI g1 (ad1 b) (upd (g1.1 (ad1 b)) 7 (nI 0)) = g1' from rfl, b1, d1, e1, i1, tk_tk, tk_tk, tk_S]
    simp only [Nat.add_assoc, Nat.add_zero]
  · exact ((b4'.fr e2.1).fr i2.1)
  · exact ((b5.mv d2 (by omega)).mv (Mv.fr (S := S3) e2) (by omega)).mv (Mv.fr (S := S3) i2) (by omega)
  · exact ((((a6.mv (Mv.fr f1) (fun r h => by omega)).mv b2 (fun r h => by omega)).mv d2 (fun r h => by omega)).mv (Mv.fr e2) (fun r h => by omega)).mv (Mv.fr i2) (fun r h => by omega)
  · exact (d4.mv (Mv.fr e2) (fun r h => by omega)).mv (Mv.fr i2) (fun r h => by omega)
  · exact e3.mv (Mv.fr i2) (fun r h => by omega)
  · exact ((b6.mv d2 (fun r h => by omega)).mv (Mv.fr e2) (fun r h => by omega)).mv (Mv.fr i2) (fun r h => by omega)
  · have hK := (q3.2.2.2.2 (wlg (h.2.2.2.2 w)) (hwt w hw ht)).2.2.2.2.2.2.1
    exact ⟨unl_all hK, rfl⟩
  · show 4 * (k1 + (k2 + k3)) + (12000 * (6 - ml1) + 100 * (60 - mb2) + phS S3 ad3 b) ≤ 12000 * (6 - m.1) + 100 * (60 - m.2) + phS S ad b
    omega
  · show w1 + (w2 + w3) + (12000 * (6 - ml1) + 100 * (60 - mb2) + phS S3 ad3 b) ≤ 12000 * (6 - m.1) + 100 * (60 - m.2) + phS S ad b
    omega
