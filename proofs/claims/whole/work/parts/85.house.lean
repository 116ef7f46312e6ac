/-! a new LOG at role c -/
theorem c_newLog {B : Nat} {S : Hs} {g : Hg} {ad : Nat → Nat} (N c : Nat) (hA : AdOk B ad S) (hB : hpN S + 14 < B) :
    ∃ ad1 S1 g1, (∀ {ρ : Type} (k : Nat → Hs → Hg → Option (ρ × Hs × Hg × Nat × Nat)), al S g 3 10 (fun a S_2 g_3 => c5 (f_X3_init N S_2 g_3 a) (fun _ S_10 g_8 => k a S_10 g_8)) = tk 14 11902 (k (ad1 c) S1 g1)) ∧ Mv (fun r => c ≤ r ∧ r < c + 14) ad S g ad1 S1 g1 ∧ AdOk B ad1 S1 ∧ hpN S1 = hpN S + 14 ∧ LgP S1 g1 ad1 c := by
  -- the object
  obtain ⟨m1, m2, m3, m4, m5, m6⟩ := al_mv (g := g) hA (show hpN S < B by omega) 3 10 c
  have ec : va_up ad c (hpN S) c = hpN S := va_same _ _ _
  generalize hA1 : va_up ad c (hpN S) = A1 at *
  generalize hS1 : nwS S 3 10 = S1 at *
  have hpS1 : hpN S1 = hpN S + 1 := by rw [← hS1]; rfl
  generalize hG1 : nwG S g = G1 at *
  -- Keys
  obtain ⟨A2, k1, k2, k3, k4, k5⟩ := mkO_new (fun k => c + 8 + k) (c + 1) 2 4 [(0, 20, 400), (1, 20, 3200), (2, 20, 400)] (g := G1) m2 (by show hpN S1 + 1 + 3 < B; omega) (by decide) (fun e _ => by show c + 8 + e.1 ≠ c + 1; omega) (fun e e1 _ _ h => by have h : c + 8 + e.1 = c + 8 + e1.1 := h; omega)
  have i2 := fun {S : Hs} {g : Hg} {a : Nat} => i_X2 (N := N) (S := S) (g := g) (a := a)
  generalize hK : mkF (hpN S1) [(0, 20, 400), (1, 20, 3200), (2, 20, 400)] (nwS S1 2 4) (nwG S1 G1) = K2 at *
  have k5 : hpN K2.1 = hpN S1 + 4 := k5
  obtain ⟨_, kA, _, _, _, k9⟩ := k3
  rw [va_same, ← k1] at k9
  have k2' : Mv (fun r => r = c + 1 ∨ c + 8 ≤ r ∧ r < c + 11) A1 S1 G1 A2 K2.1 K2.2 := k2.mono (fun r h => by
    rcases h with h | ⟨e, h1, h2⟩
    · omega
    · simp only [List.mem_cons, List.not_mem_nil, or_false] at h1
      have h2 : r = c + 8 + e.1 := h2
      rcases h1 with h1 | h1 | h1 <;> subst h1 <;> simp only at h2 <;> omega)
  have ec2 : A2 c = hpN S := (k2'.ad (by omega)).trans ec
  have w2 := wrR_mv kA.1 (S := K2.1) (g := K2.2) (o := c) (k := 0) (v := some (hpN S1))
  rw [ec2] at w2
  generalize hG2 : wrR K2.2 (hpN S) 0 (some (hpN S1)) = G2 at *
  -- Marks
  obtain ⟨A3, r1, r2, r3, r4, r5⟩ := mkO_new (fun k => c + 11 + k) (c + 2) 5 4 [(0, 20, 100), (1, 20, 100), (2, 22, 100)] (g := G2) kA (by show hpN K2.1 + 1 + 3 < B; omega) (by decide) (fun e _ => by show c + 11 + e.1 ≠ c + 2; omega) (fun e e1 _ _ h => by have h : c + 11 + e.1 = c + 11 + e1.1 := h; omega)
  have i5 := fun {S : Hs} {g : Hg} {a : Nat} => i_X5 (N := N) (S := S) (g := g) (a := a)
  generalize hM : mkF (hpN K2.1) [(0, 20, 100), (1, 20, 100), (2, 22, 100)] (nwS K2.1 5 4) (nwG K2.1 G2) = K3 at *
  have r5 : hpN K3.1 = hpN K2.1 + 4 := r5
  obtain ⟨_, rA, _, _, _, r9⟩ := r3
  rw [va_same, ← r1] at r9
  have r2' : Mv (fun r => r = c + 2 ∨ c + 11 ≤ r ∧ r < c + 14) A2 K2.1 G2 A3 K3.1 K3.2 := r2.mono (fun r h => by
    rcases h with h | ⟨e, h1, h2⟩
    · omega
    · simp only [List.mem_cons, List.not_mem_nil, or_false] at h1
      have h2 : r = c + 11 + e.1 := h2
      rcases h1 with h1 | h1 | h1 <;> subst h1 <;> simp only at h2 <;> omega)
  have ec3 : A3 c = hpN S := (r2'.ad (by omega)).trans ec2
  have w3 := wrR_mv rA.1 (S := K3.1) (g := K3.2) (o := c) (k := 1) (v := some (hpN K2.1))
  rw [ec3] at w3
  generalize hG3 : wrR K3.2 (hpN S) 1 (some (hpN K2.1)) = G3 at *
  -- rows
  obtain ⟨A4, hO⟩ := mkF_ok (B := B) (fun k => if k = 8 then c + 7 else c + 1 + k) c [(2, 20, 400), (3, 20, 400), (4, 21, 400), (5, 20, 6376), (8, 20, 8)] A3 K3.1 G3 rA (by show hpN K3.1 + 5 < B; omega) (by decide) (fun e he => by
    simp only [List.mem_cons, List.not_mem_nil, or_false] at he
    rcases he with he | he | he | he | he <;> subst he <;> simp <;> omega) (fun e e1 he he1 h => by
    simp only [List.mem_cons, List.not_mem_nil, or_false] at he he1
    rcases he with he | he | he | he | he <;> rcases he1 with he1 | he1 | he1 | he1 | he1 <;> subst he <;> subst he1 <;> simp at h ⊢) (by rw [ec3]; omega)
  rw [ec3] at hO
  generalize hF : mkF (hpN S) [(2, 20, 400), (3, 20, 400), (4, 21, 400), (5, 20, 6376), (8, 20, 8)] K3.1 G3 = K4 at *
  obtain ⟨f1, fA, f3, f4, ⟨f5, f6, f7, f8⟩, f9⟩ := hO
  rw [ec3] at f3 f5 f6 f7 f8 f9
  have f4 : hpN K4.1 = hpN K3.1 + 5 := f4
  have f1' : Mv (fun r => r = c ∨ c + 3 ≤ r ∧ r < c + 8) A3 K3.1 G3 A4 K4.1 K4.2 := f1.mono (fun r h => by
    rcases h with h | ⟨e, h1, h2⟩
    · omega
    · simp only [List.mem_cons, List.not_mem_nil, or_false] at h1
      rcases h1 with h1 | h1 | h1 | h1 | h1 <;> subst h1 <;> simp at h2 <;> omega)
  have t2 := f9 (2, 20, 400) (by simp)
  have t3 := f9 (3, 20, 400) (by simp)
  have t4 := f9 (4, 21, 400) (by simp)
  have t5 := f9 (5, 20, 6376) (by simp)
  have t8 := f9 (8, 20, 8) (by simp)
  have y0 := k9 (0, 20, 400) (by simp)
  have y1 := k9 (1, 20, 3200) (by simp)
  have y2 := k9 (2, 20, 400) (by simp)
  have z0 := r9 (0, 20, 100) (by simp)
  have z1 := r9 (1, 20, 100) (by simp)
  have z2 := r9 (2, 22, 100) (by simp)
  have fI : Fr A4 (fun r => r = c) K4.2 (wrI K4.2 (hpN S) 9 (-1)) := by
    rw [wrI_row, ← f3]
    exact Fr.row fA.1 rfl
  -- what stays from one stage to the next
  have s24 : Mv (fun r => r = c ∨ r = c + 2 ∨ c + 3 ≤ r ∧ r < c + 8 ∨ c + 11 ≤ r ∧ r < c + 14) A2 K2.1 K2.2 A4 K4.1 (wrI K4.2 (hpN S) 9 (-1)) := (((w2.mono (fun r h => by omega)).tr (r2'.mono (fun r h => by omega))).tr (w3.mono (fun r h => by omega))).tr ((f1'.mono (fun r h => by omega)).tr (Mv.fr (fI.mono (fun r h => by omega))))
  have s34 : Mv (fun r => r = c ∨ c + 3 ≤ r ∧ r < c + 8) A3 K3.1 K3.2 A4 K4.1 (wrI K4.2 (hpN S) 9 (-1)) := (w3.mono (fun r h => by omega)).tr ((f1'.mono (fun r h => by omega)).tr (Mv.fr (fI.mono (fun r h => by omega))))
  have sall : Mv (fun r => c ≤ r ∧ r < c + 14) ad S g A4 K4.1 (wrI K4.2 (hpN S) 9 (-1)) := ((m1.mono (fun r h => by omega)).tr (k2'.mono (fun r h => by omega))).tr (s24.mono (fun r h => by omega))
  have pR : ∀ k, rdR (wrI K4.2 (hpN S) 9 (-1)) (hpN S) k = rdR K4.2 (hpN S) k := fun k => rfl
  have p0 : rdR K4.2 (hpN S) 0 = some (A4 (c + 1)) := by
    rw [f8 0 (fun e he => by
      simp only [List.mem_cons, List.not_mem_nil, or_false] at he
      rcases he with he | he | he | he | he <;> subst he <;> decide), ← hG3, wrR_rd, if_neg (fun h => absurd h.2 (by decide))]
    have := r2'.R (r := c) (by omega) 0
    rw [ec3, ec2] at this
    rw [this, ← hG2, wrR_rd, if_pos ⟨rfl, rfl⟩, s24.ad (by omega), k1]
  have p1 : rdR K4.2 (hpN S) 1 = some (A4 (c + 2)) := by
    rw [f8 1 (fun e he => by
      simp only [List.mem_cons, List.not_mem_nil, or_false] at he
      rcases he with he | he | he | he | he <;> subst he <;> decide), ← hG3, wrR_rd, if_pos ⟨rfl, rfl⟩, s34.ad (by omega), r1]
  refine ⟨A4, K4.1, wrI K4.2 (hpN S) 9 (-1), fun k => ?_, sall, fA, by omega, ?_⟩
  · have hin : f_X3_init N S1 G1 (hpN S) = some ((), K4.1, wrI K4.2 (hpN S) 9 (-1), 13, 11892) := by
      show b_X3_init_0 N S1 G1 (hpN S) = _
      unfold b_X3_init_0
      rw [al_D, i2, hK, c5_S, nm_D, hG2, al_D, i5, hM, c5_S, nm_D, hG3, ← hF]
      simp (disch := decide) only [lit, lenok_nI, ck_T, al_D, nm_D, nI_clamp, tk_S]
      rfl
    rw [al_D, hS1, hG1, hin, c5_S, tk_tk, f3]
  · refine ⟨?_, ⟨?_, ?_, ?_⟩, ⟨?_, ?_, ?_⟩, ?_, ?_⟩
    · rw [f3]
      simp only [pR]
      exact ⟨p0, p1, t2.1, t3.1, t4.1, t5.1, t8.1⟩
    · exact s24.P (r := c + 1) (q := c + 8) (by omega) (by omega) y0.1
    · exact s24.P (r := c + 1) (q := c + 9) (by omega) (by omega) y1.1
    · exact s24.P (r := c + 1) (q := c + 10) (by omega) (by omega) y2.1
    · exact s34.P (r := c + 2) (q := c + 11) (by omega) (by omega) z0.1
    · exact s34.P (r := c + 2) (q := c + 12) (by omega) (by omega) z1.1
    · exact s34.P (r := c + 2) (q := c + 13) (by omega) (by omega) z2.1
    · exact ⟨t2.2.1, t3.2.1, t4.2.1, t5.2.1, t8.2.1⟩
    · refine ⟨?_, ?_, ?_, ?_, ?_, ?_⟩
      · rw [s24.len (r := c + 8) (by omega)]; exact y0.2.1
      · rw [s24.len (r := c + 9) (by omega)]; exact y1.2.1
      · rw [s24.len (r := c + 10) (by omega)]; exact y2.2.1
      · rw [s34.len (r := c + 11) (by omega)]; exact z0.2.1
      · rw [s34.len (r := c + 12) (by omega)]; exact z1.2.1
      · rw [s34.len (r := c + 13) (by omega)]; exact z2.2.1
/-! a house at role b -/
abbrev AHo : Type := (Nat × (Nat → ALog)) × (Nat → ASl) × ((Nat → AHd) × (Nat → Int32)) × (Nat × (Nat → AHd) × (Nat → AHd)) × (Nat → AWt)
def HoP (S : Hs) (g : Hg) (ad : Nat → Nat) (b : Nat) : Prop := (rdR g (ad b) 0 = some (ad (b + 1)) ∧ rdR g (ad b) 2 = some (ad (b + 2)) ∧ rdR g (ad b) 3 = some (ad (b + 3)) ∧ rdR g (ad b) 4 = some (ad (b + 4)) ∧ rdR g (ad b) 5 = some (ad (b + 5)) ∧ rdR g (ad b) 6 = some (ad (b + 6)) ∧ rdR g (ad b) 8 = some (ad (b + 7))) ∧ (hpL S (ad (b + 1)) = 6 ∧ hpL S (ad (b + 2)) = 16 ∧ hpL S (ad (b + 3)) = 12 ∧ hpL S (ad (b + 4)) = 12 ∧ hpL S (ad (b + 5)) = 60 ∧ hpL S (ad (b + 6)) = 60 ∧ hpL S (ad (b + 7)) = 8)
def HoC (g : Hg) (ad : Nat → Nat) (b nl nbm : Nat) : Prop := g.1 (ad b) 1 = nI nl ∧ g.1 (ad b) 7 = nI nbm
def CLs (S : Hs) (g : Hg) (ad : Nat → Nat) (b ml nl : Nat) (lg : Nat → ALog) : Prop := nl ≤ ml ∧ ml ≤ 6 ∧ (∀ i, i < 6 → rdR g (ad (b + 1)) i = if i < ml then some (ad (b + 100 + 20 * i)) else none) ∧ (∀ i, i < ml → LgP S g ad (b + 100 + 20 * i)) ∧ (∀ i, i < nl → CLO S g ad (b + 100 + 20 * i) (lg i))
def CSl (S : Hs) (g : Hg) (ad : Nat → Nat) (b : Nat) (sl : Nat → ASl) : Prop := ∀ s, s < 16 → rdR g (ad (b + 2)) s = some (ad (b + 300 + 4 * s)) ∧ PfO S g ad (b + 300 + 4 * s) (sl s)
def CHd (S : Hs) (g : Hg) (ad : Nat → Nat) (b : Nat) (hd : Nat → AHd) (tm : Nat → Int32) : Prop := ∀ r, r < 12 → rdR g (ad (b + 3)) r = some (ad (b + 400 + 4 * r)) ∧ HdO S g ad (b + 400 + 4 * r) (hd r) ∧ g.1 (ad (b + 4)) r = tm r
def CBl (S : Hs) (g : Hg) (ad : Nat → Nat) (b mb nbm : Nat) (h1 h2 : Nat → AHd) : Prop := nbm ≤ mb ∧ mb ≤ 60 ∧ (∀ k, k < 60 → rdR g (ad (b + 5)) k = (if k < mb then some (ad (b + 600 + 4 * k)) else none) ∧ rdR g (ad (b + 6)) k = (if k < mb then some (ad (b + 900 + 4 * k)) else none)) ∧ (∀ k, k < mb → HdP S g ad (b + 600 + 4 * k) ∧ HdP S g ad (b + 900 + 4 * k)) ∧ (∀ k, k < nbm → HdO S g ad (b + 600 + 4 * k) (h1 k) ∧ HdO S g ad (b + 900 + 4 * k) (h2 k))
def wlg (W : AWt) : Nat := W.2.1.1.toNatClampNeg
def CWt (S : Hs) (g : Hg) (ad : Nat → Nat) (b : Nat) (lg : Nat → ALog) (wt : Nat → AWt) : Prop := ∀ w, w < 8 → rdR g (ad (b + 7)) w = some (ad (b + 500 + 2 * w)) ∧ WtO S g ad (b + 500 + 2 * w) (lg (wlg (wt w))) (wt w)
theorem HoP.fr {S : Hs} {g g1 : Hg} {ad : Nat → Nat} {b : Nat} (h : HoP S g ad b) (hg : g1.2.2 = g.2.2) : HoP S g1 ad b := by
  have e : ∀ a k, rdR g1 a k = rdR g a k := fun a k => by show g1.2.2 a k = g.2.2 a k; rw [hg]
  simp only [HoP, e]
  exact h
theorem HoP.mv {R : Nat → Prop} {ad ad1 : Nat → Nat} {S S1 : Hs} {g g1 : Hg} {b : Nat} (h : HoP S g ad b) (hm : Mv R ad S g ad1 S1 g1) (n : ∀ r, b ≤ r → r < b + 8 → ¬ R r) : HoP S1 g1 ad1 b := by
  obtain ⟨⟨p0, p2, p3, p4, p5, p6, p8⟩, l1, l2, l3, l4, l5, l6, l7⟩ := h
  have n0 := n b (by omega) (by omega)
  have n1 := n (b + 1) (by omega) (by omega)
  have n2 := n (b + 2) (by omega) (by omega)
  have n3 := n (b + 3) (by omega) (by omega)
  have n4 := n (b + 4) (by omega) (by omega)
  have n5 := n (b + 5) (by omega) (by omega)
  have n6 := n (b + 6) (by omega) (by omega)
  have n7 := n (b + 7) (by omega) (by omega)
  exact ⟨⟨hm.P n0 n1 p0, hm.P n0 n2 p2, hm.P n0 n3 p3, hm.P n0 n4 p4, hm.P n0 n5 p5, hm.P n0 n6 p6, hm.P n0 n7 p8⟩, by rw [hm.len n1]; exact l1, by rw [hm.len n2]; exact l2, by rw [hm.len n3]; exact l3, by rw [hm.len n4]; exact l4, by rw [hm.len n5]; exact l5, by rw [hm.len n6]; exact l6, by rw [hm.len n7]; exact l7⟩
theorem HoC.mv {R : Nat → Prop} {ad ad1 : Nat → Nat} {S S1 : Hs} {g g1 : Hg} {b nl nbm : Nat} (h : HoC g ad b nl nbm) (hm : Mv R ad S g ad1 S1 g1) (n : ¬ R b) : HoC g1 ad1 b nl nbm := by
  unfold HoC
  rw [hm.I n]
  exact h
theorem CLs.mv {R : Nat → Prop} {ad ad1 : Nat → Nat} {S S1 : Hs} {g g1 : Hg} {b ml nl : Nat} {lg : Nat → ALog} (h : CLs S g ad b ml nl lg) (hm : Mv R ad S g ad1 S1 g1) (n : ∀ r, r = b + 1 ∨ b + 100 ≤ r ∧ r < b + 220 → ¬ R r) : CLs S1 g1 ad1 b ml nl lg := by
  obtain ⟨h1, h2, h3, h4, h5⟩ := h
  refine ⟨h1, h2, fun i hi => ?_, fun i hi => (h4 i hi).mv hm (fun r r1 r2 => n r (by omega)), fun i hi => (h5 i hi).mv hm (fun r r1 r2 => n r (by omega))⟩
  rw [hm.R (n (b + 1) (by omega)), h3 i hi, hm.ad (n (b + 100 + 20 * i) (by omega))]
theorem CSl.mv {R : Nat → Prop} {ad ad1 : Nat → Nat} {S S1 : Hs} {g g1 : Hg} {b : Nat} {sl : Nat → ASl} (h : CSl S g ad b sl) (hm : Mv R ad S g ad1 S1 g1) (n : ∀ r, r = b + 2 ∨ b + 300 ≤ r ∧ r < b + 364 → ¬ R r) : CSl S1 g1 ad1 b sl := fun s hs =>
  ⟨hm.P (n (b + 2) (by omega)) (n (b + 300 + 4 * s) (by omega)) (h s hs).1, (h s hs).2.mv hm (fun r r1 r2 => n r (by omega))⟩
theorem CHd.mv {R : Nat → Prop} {ad ad1 : Nat → Nat} {S S1 : Hs} {g g1 : Hg} {b : Nat} {hd : Nat → AHd} {tm : Nat → Int32} (h : CHd S g ad b hd tm) (hm : Mv R ad S g ad1 S1 g1) (n : ∀ r, r = b + 3 ∨ r = b + 4 ∨ b + 400 ≤ r ∧ r < b + 448 → ¬ R r) : CHd S1 g1 ad1 b hd tm := fun r hr =>
  ⟨hm.P (n (b + 3) (by omega)) (n (b + 400 + 4 * r) (by omega)) (h r hr).1, (h r hr).2.1.mv hm (fun q q1 q2 => n q (by omega)), by rw [hm.I (n (b + 4) (by omega))]; exact (h r hr).2.2⟩
theorem CBl.mv {R : Nat → Prop} {ad ad1 : Nat → Nat} {S S1 : Hs} {g g1 : Hg} {b mb nbm : Nat} {h1 h2 : Nat → AHd} (h : CBl S g ad b mb nbm h1 h2) (hm : Mv R ad S g ad1 S1 g1) (n : ∀ r, r = b + 5 ∨ r = b + 6 ∨ b + 600 ≤ r ∧ r < b + 840 ∨ b + 900 ≤ r ∧ r < b + 1140 → ¬ R r) : CBl S1 g1 ad1 b mb nbm h1 h2 := by
  obtain ⟨q1, q2, q3, q4, q5⟩ := h
  refine ⟨q1, q2, fun k hk => ⟨?_, ?_⟩, fun k hk => ⟨(q4 k hk).1.mv hm (fun r r1 r2 => n r (by omega)), (q4 k hk).2.mv hm (fun r r1 r2 => n r (by omega))⟩, fun k hk => ⟨(q5 k hk).1.mv hm (fun r r1 r2 => n r (by omega)), (q5 k hk).2.mv hm (fun r r1 r2 => n r (by omega))⟩⟩
  · rw [hm.R (n (b + 5) (by omega)), (q3 k hk).1, hm.ad (n (b + 600 + 4 * k) (by omega))]
  · rw [hm.R (n (b + 6) (by omega)), (q3 k hk).2, hm.ad (n (b + 900 + 4 * k) (by omega))]
theorem CWt.mv {R : Nat → Prop} {ad ad1 : Nat → Nat} {S S1 : Hs} {g g1 : Hg} {b : Nat} {lg : Nat → ALog} {wt : Nat → AWt} (h : CWt S g ad b lg wt) (hm : Mv R ad S g ad1 S1 g1) (n : ∀ r, r = b + 7 ∨ b + 500 ≤ r ∧ r < b + 516 → ¬ R r) : CWt S1 g1 ad1 b lg wt := fun w hw =>
  ⟨hm.P (n (b + 7) (by omega)) (n (b + 500 + 2 * w) (by omega)) (h w hw).1, (h w hw).2.mv hm (fun q q1 q2 => n q (by omega))⟩
def CHo (S : Hs) (g : Hg) (ad : Nat → Nat) (b : Nat) (m : Nat × Nat) (h : AHo) : Prop := HoP S g ad b ∧ HoC g ad b h.1.1 h.2.2.2.1.1 ∧ CLs S g ad b m.1 h.1.1 h.1.2 ∧ CSl S g ad b h.2.1 ∧ CHd S g ad b h.2.2.1.1 h.2.2.1.2 ∧ CBl S g ad b m.2 h.2.2.2.1.1 h.2.2.2.1.2.1 h.2.2.2.1.2.2 ∧ CWt S g ad b h.1.2 h.2.2.2.2
theorem CHo.mv {R : Nat → Prop} {ad ad1 : Nat → Nat} {S S1 : Hs} {g g1 : Hg} {b : Nat} {m : Nat × Nat} {h : AHo} (hC : CHo S g ad b m h) (hm : Mv R ad S g ad1 S1 g1) (n : ∀ r, b ≤ r → r < b + 1200 → ¬ R r) : CHo S1 g1 ad1 b m h := by
  obtain ⟨c1, c2, c3, c4, c5, c6, c7⟩ := hC
  exact ⟨c1.mv hm (fun r r1 r2 => n r (by omega) (by omega)), c2.mv hm (n b (by omega) (by omega)), c3.mv hm (fun r h => n r (by omega) (by omega)), c4.mv hm (fun r h => n r (by omega) (by omega)), c5.mv hm (fun r h => n r (by omega) (by omega)), c6.mv hm (fun r h => n r (by omega) (by omega)), c7.mv hm (fun r h => n r (by omega) (by omega))⟩
/-! asked of a house -/
theorem c_logAt {N : Nat} {S : Hs} {g : Hg} {ad : Nat → Nat} {b ml nl nbm l : Nat} {lg : Nat → ALog} (hP : HoP S g ad b) (hC : HoC g ad b nl nbm) (hL : CLs S g ad b ml nl lg) (hl : l < nl) : f_X1_logAt N S g (ad b) (nI l) = some (some (ad (b + 100 + 20 * l)), g) := by
  obtain ⟨h1, h2, h3, _⟩ := hL
  have e := h3 l (by omega)
  rw [if_pos (by omega)] at e
  have l1 := hP.2.1
  show b_X1_logAt_0 N S g (ad b) (nI l) = _
  unfold b_X1_logAt_0
  simp (disch := (first | assumption | omega | (apply Inj.ne <;> first | assumption | omega) | fail)) only [nn_S, nm_D, ck_T, c2_S, on_N, on_S, lit, mNEG, nI_add, pk_mul, inb_nI, nI_clamp, wrI_row, wrL_row, rdR_rowI, rdR_rowL, rdI_def, rdL_def, rowI_same, rowI_ne, rowI_rowI, rowL_same, rowL_ne, rowL_1, rowI_21, upd_same, upd_ne, nI_le_T, nI_le_F, nI_lt_T, nI_lt_F, nI_eq_F, nI_NEG, NEG_lt0, nI_p, eq_self, if_true, if_false, hC.1, hP.1.1, l1, e]
theorem c_logAtF {N : Nat} {S : Hs} {g : Hg} {ad : Nat → Nat} {b nl nbm : Nat} {x : Int32} (hC : HoC g ad b nl nbm) (h : x < 0 ∨ nI nl ≤ x) : f_X1_logAt N S g (ad b) x = some (none, g) := by
  show b_X1_logAt_0 N S g (ad b) x = _
  unfold b_X1_logAt_0
  by_cases c : x < 0
  · rw [if_pos c]
  · rcases h with h | h
    · exact absurd h c
    · rw [if_neg c, rdI_def, hC.1, if_pos h]
theorem c_slotAt {N : Nat} {S : Hs} {g : Hg} {ad : Nat → Nat} {b s : Nat} {sl : Nat → ASl} (hP : HoP S g ad b) (hL : CSl S g ad b sl) (hs : s < 16) : f_X1_slotAt N S g (ad b) (nI s) = some (some (ad (b + 300 + 4 * s)), g) := by
  have e := (hL s hs).1
  have l1 := hP.2.2.1
  show b_X1_slotAt_0 N S g (ad b) (nI s) = _
  unfold b_X1_slotAt_0
  simp (disch := (first | assumption | omega | (apply Inj.ne <;> first | assumption | omega) | fail)) only [nn_S, nm_D, ck_T, c2_S, on_N, on_S, lit, mNEG, nI_add, pk_mul, inb_nI, nI_clamp, wrI_row, wrL_row, rdR_rowI, rdR_rowL, rdI_def, rdL_def, rowI_same, rowI_ne, rowI_rowI, rowL_same, rowL_ne, rowL_1, rowI_21, upd_same, upd_ne, nI_le_T, nI_le_F, nI_lt_T, nI_lt_F, nI_eq_F, nI_NEG, NEG_lt0, nI_p, eq_self, if_true, if_false, hP.1.2.1, l1, e]
theorem c_slotAtF {N : Nat} {S : Hs} {g : Hg} {a : Nat} {x : Int32} (h : x < 0 ∨ nI 16 ≤ x) : f_X1_slotAt N S g a x = some (none, g) := by
  show b_X1_slotAt_0 N S g a x = _
  unfold b_X1_slotAt_0
  by_cases c : x < 0
  · rw [if_pos c]
  · rcases h with h | h
    · exact absurd h c
    · rw [if_neg c, if_pos (show (16 : Int32) ≤ x from h)]
theorem c_headOfT {N : Nat} {S : Hs} {g : Hg} {ad : Nat → Nat} {b r : Nat} {hd : Nat → AHd} {tm : Nat → Int32} (hP : HoP S g ad b) (hL : CHd S g ad b hd tm) (hr : r < 12) (ht : (hd r).1 = true) : f_X1_headOf N S g (ad b) (nI r) = some (some (ad (b + 400 + 4 * r)), g) := by
  obtain ⟨e, e2, _⟩ := hL r hr
  have l1 := hP.2.2.2.1
  have e3 : g.1 (ad (b + 400 + 4 * r)) 3 = nI 1 := by rw [e2.2.1.1, ht]; rfl
  show b_X1_headOf_0 N S g (ad b) (nI r) = _
  unfold b_X1_headOf_0
  simp (disch := (first | assumption | omega | (apply Inj.ne <;> first | assumption | omega) | fail)) only [nn_S, nm_D, ck_T, c2_S, on_N, on_S, lit, mNEG, nI_add, pk_mul, inb_nI, nI_clamp, wrI_row, wrL_row, rdR_rowI, rdR_rowL, rdI_def, rdL_def, rowI_same, rowI_ne, rowI_rowI, rowL_same, rowL_ne, rowL_1, rowI_21, upd_same, upd_ne, nI_le_T, nI_le_F, nI_lt_T, nI_lt_F, nI_eq_F, nI_NEG, NEG_lt0, nI_p, eq_self, if_true, if_false, hP.1.2.2.1, l1, e, e3]
theorem c_headOfN {N : Nat} {S : Hs} {g : Hg} {ad : Nat → Nat} {b r : Nat} {hd : Nat → AHd} {tm : Nat → Int32} (hP : HoP S g ad b) (hL : CHd S g ad b hd tm) (hr : r < 12) (ht : (hd r).1 = false) : f_X1_headOf N S g (ad b) (nI r) = some (none, g) := by
  obtain ⟨e, e2, _⟩ := hL r hr
  have l1 := hP.2.2.2.1
  have e3 : g.1 (ad (b + 400 + 4 * r)) 3 = nI 0 := by rw [e2.2.1.1, ht]; rfl
  show b_X1_headOf_0 N S g (ad b) (nI r) = _
  unfold b_X1_headOf_0
  simp (disch := (first | assumption | omega | (apply Inj.ne <;> first | assumption | omega) | fail)) only [nn_S, nm_D, ck_T, c2_S, on_N, on_S, lit, mNEG, nI_add, pk_mul, inb_nI, nI_clamp, wrI_row, wrL_row, rdR_rowI, rdR_rowL, rdI_def, rdL_def, rowI_same, rowI_ne, rowI_rowI, rowL_same, rowL_ne, rowL_1, rowI_21, upd_same, upd_ne, nI_le_T, nI_le_F, nI_lt_T, nI_lt_F, nI_eq_F, nI_NEG, NEG_lt0, nI_p, eq_self, if_true, if_false, hP.1.2.2.1, l1, e, e3]
theorem c_headOfF {N : Nat} {S : Hs} {g : Hg} {a : Nat} {x : Int32} (h : x < 0 ∨ nI 12 ≤ x) : f_X1_headOf N S g a x = some (none, g) := by
  show b_X1_headOf_0 N S g a x = _
  unfold b_X1_headOf_0
  by_cases c : x < 0
  · rw [if_pos c]
  · rcases h with h | h
    · exact absurd h c
    · rw [if_neg c, if_pos (show (12 : Int32) ≤ x from h)]
theorem c_watcherAtT {N : Nat} {S : Hs} {g : Hg} {ad : Nat → Nat} {b w : Nat} {lg : Nat → ALog} {wt : Nat → AWt} (hP : HoP S g ad b) (hL : CWt S g ad b lg wt) (hw : w < 8) (ht : (wt w).1 = true) : f_X1_watcherAt N S g (ad b) (nI w) = some (some (ad (b + 500 + 2 * w)), g) := by
  obtain ⟨e, e2⟩ := hL w hw
  have l1 := hP.2.2.2.2.2.2.2
  have e3 : g.1 (ad (b + 500 + 2 * w)) 1 = nI 1 := by rw [e2.2.1, ht]; rfl
  show b_X1_watcherAt_0 N S g (ad b) (nI w) = _
  unfold b_X1_watcherAt_0
  simp (disch := (first | assumption | omega | (apply Inj.ne <;> first | assumption | omega) | fail)) only [nn_S, nm_D, ck_T, c2_S, on_N, on_S, lit, mNEG, nI_add, pk_mul, inb_nI, nI_clamp, wrI_row, wrL_row, rdR_rowI, rdR_rowL, rdI_def, rdL_def, rowI_same, rowI_ne, rowI_rowI, rowL_same, rowL_ne, rowL_1, rowI_21, upd_same, upd_ne, nI_le_T, nI_le_F, nI_lt_T, nI_lt_F, nI_eq_F, nI_NEG, NEG_lt0, nI_p, eq_self, if_true, if_false, hP.1.2.2.2.2.2.2, l1, e, e3]
theorem c_watcherAtN {N : Nat} {S : Hs} {g : Hg} {ad : Nat → Nat} {b w : Nat} {lg : Nat → ALog} {wt : Nat → AWt} (hP : HoP S g ad b) (hL : CWt S g ad b lg wt) (hw : w < 8) (ht : (wt w).1 = false) : f_X1_watcherAt N S g (ad b) (nI w) = some (none, g) := by
  obtain ⟨e, e2⟩ := hL w hw
  have l1 := hP.2.2.2.2.2.2.2
  have e3 : g.1 (ad (b + 500 + 2 * w)) 1 = nI 0 := by rw [e2.2.1, ht]; rfl
  show b_X1_watcherAt_0 N S g (ad b) (nI w) = _
  unfold b_X1_watcherAt_0
  simp (disch := (first | assumption | omega | (apply Inj.ne <;> first | assumption | omega) | fail)) only [nn_S, nm_D, ck_T, c2_S, on_N, on_S, lit, mNEG, nI_add, pk_mul, inb_nI, nI_clamp, wrI_row, wrL_row, rdR_rowI, rdR_rowL, rdI_def, rdL_def, rowI_same, rowI_ne, rowI_rowI, rowL_same, rowL_ne, rowL_1, rowI_21, upd_same, upd_ne, nI_le_T, nI_le_F, nI_lt_T, nI_lt_F, nI_eq_F, nI_NEG, NEG_lt0, nI_p, eq_self, if_true, if_false, hP.1.2.2.2.2.2.2, l1, e, e3]
theorem c_watcherAtF {N : Nat} {S : Hs} {g : Hg} {a : Nat} {x : Int32} (h : x < 0 ∨ nI 8 ≤ x) : f_X1_watcherAt N S g a x = some (none, g) := by
  show b_X1_watcherAt_0 N S g a x = _
  unfold b_X1_watcherAt_0
  by_cases c : x < 0
  · rw [if_pos c]
  · rcases h with h | h
    · exact absurd h c
    · rw [if_neg c, if_pos (show (8 : Int32) ≤ x from h)]
theorem c_firstBlamed {N : Nat} {S : Hs} {g : Hg} {ad : Nat → Nat} {b mb nl nbm k : Nat} {h1 h2 : Nat → AHd} (hP : HoP S g ad b) (hC : HoC g ad b nl nbm) (hL : CBl S g ad b mb nbm h1 h2) (hk : k < nbm) : f_X1_firstBlamed N S g (ad b) (nI k) = some (some (ad (b + 600 + 4 * k)), g) := by
  obtain ⟨q1, q2, q3, _⟩ := hL
  have e := (q3 k (by omega)).1
  rw [if_pos (by omega)] at e
  have l1 := hP.2.2.2.2.2.1
  have c7 := hC.2
  show b_X1_firstBlamed_0 N S g (ad b) (nI k) = _
  unfold b_X1_firstBlamed_0
  simp (disch := (first | assumption | omega | (apply Inj.ne <;> first | assumption | omega) | fail)) only [nn_S, nm_D, ck_T, c2_S, on_N, on_S, lit, mNEG, nI_add, pk_mul, inb_nI, nI_clamp, wrI_row, wrL_row, rdR_rowI, rdR_rowL, rdI_def, rdL_def, rowI_same, rowI_ne, rowI_rowI, rowL_same, rowL_ne, rowL_1, rowI_21, upd_same, upd_ne, nI_le_T, nI_le_F, nI_lt_T, nI_lt_F, nI_eq_F, nI_NEG, NEG_lt0, nI_p, eq_self, if_true, if_false, c7, hP.1.2.2.2.2.1, l1, e]
theorem c_secondBlamed {N : Nat} {S : Hs} {g : Hg} {ad : Nat → Nat} {b mb nl nbm k : Nat} {h1 h2 : Nat → AHd} (hP : HoP S g ad b) (hC : HoC g ad b nl nbm) (hL : CBl S g ad b mb nbm h1 h2) (hk : k < nbm) : f_X1_secondBlamed N S g (ad b) (nI k) = some (some (ad (b + 900 + 4 * k)), g) := by
  obtain ⟨q1, q2, q3, _⟩ := hL
  have e := (q3 k (by omega)).2
  rw [if_pos (by omega)] at e
  have l1 := hP.2.2.2.2.2.2.1
  have c7 := hC.2
  show b_X1_secondBlamed_0 N S g (ad b) (nI k) = _
  unfold b_X1_secondBlamed_0
  simp (disch := (first | assumption | omega | (apply Inj.ne <;> first | assumption | omega) | fail)) only [nn_S, nm_D, ck_T, c2_S, on_N, on_S, lit, mNEG, nI_add, pk_mul, inb_nI, nI_clamp, wrI_row, wrL_row, rdR_rowI, rdR_rowL, rdI_def, rdL_def, rowI_same, rowI_ne, rowI_rowI, rowL_same, rowL_ne, rowL_1, rowI_21, upd_same, upd_ne, nI_le_T, nI_le_F, nI_lt_T, nI_lt_F, nI_eq_F, nI_NEG, NEG_lt0, nI_p, eq_self, if_true, if_false, c7, hP.1.2.2.2.2.2.1, l1, e]
theorem c_firstBlamedF {N : Nat} {S : Hs} {g : Hg} {ad : Nat → Nat} {b nl nbm : Nat} {x : Int32} (hC : HoC g ad b nl nbm) (h : x < 0 ∨ nI nbm ≤ x) : f_X1_firstBlamed N S g (ad b) x = some (none, g) := by
  show b_X1_firstBlamed_0 N S g (ad b) x = _
  unfold b_X1_firstBlamed_0
  by_cases c : x < 0
  · rw [if_pos c]
  · rcases h with h | h
    · exact absurd h c
    · rw [if_neg c, rdI_def, hC.2, if_pos h]
theorem c_secondBlamedF {N : Nat} {S : Hs} {g : Hg} {ad : Nat → Nat} {b nl nbm : Nat} {x : Int32} (hC : HoC g ad b nl nbm) (h : x < 0 ∨ nI nbm ≤ x) : f_X1_secondBlamed N S g (ad b) x = some (none, g) := by
  show b_X1_secondBlamed_0 N S g (ad b) x = _
  unfold b_X1_secondBlamed_0
  by_cases c : x < 0
  · rw [if_pos c]
  · rcases h with h | h
    · exact absurd h c
    · rw [if_neg c, rdI_def, hC.2, if_pos h]
