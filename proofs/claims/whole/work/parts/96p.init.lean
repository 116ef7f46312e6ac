/-! the start: both objects are made -/
theorem wrR_same (g : Hg) (a k : Nat) (v : Option Nat) : rdR (wrR g a k v) a k = v := by rw [wrR_rd, if_pos ⟨rfl, rfl⟩]
theorem wrR_ob (g : Hg) {a b : Nat} (k j : Nat) (v : Option Nat) (h : b ≠ a) : rdR (wrR g a k v) b j = rdR g b j := by rw [wrR_rd, if_neg (fun c => h c.1)]
theorem wrR_fd (g : Hg) (a b : Nat) {k j : Nat} (v : Option Nat) (h : j ≠ k) : rdR (wrR g a k v) b j = rdR g b j := by rw [wrR_rd, if_neg (fun c => h c.2)]
theorem mkN {B : Nat} (ro : Nat → Nat) (o K n : Nat) (l : List (Nat × Nat × Nat)) {ad : Nat → Nat} {S : Hs} (g : Hg) (hA : AdOk B ad S) (hB : hpN S + 1 + l.length < B) (hn : (l.map (fun e => e.1)).Nodup) (ho : ∀ e, e ∈ l → ro e.1 ≠ o) (hr : ∀ e e1, e ∈ l → e1 ∈ l → ro e.1 = ro e1.1 → e.1 = e1.1) :
    ∃ ad1, ∃ P : Hs × Hg, mkF (hpN S) l (nwS S K n) (nwG S g) = P ∧ ad1 o = hpN S ∧ Mv (fun r => r = o ∨ ∃ e, e ∈ l ∧ r = ro e.1) ad S g ad1 P.1 P.2 ∧ AdOk B ad1 P.1 ∧ hpN P.1 = hpN S + 1 + l.length ∧ (∀ j, P.2.1 (ad1 o) j = 0) ∧ (∀ k, (∀ e, e ∈ l → e.1 ≠ k) → rdR P.2 (ad1 o) k = none) ∧ ∀ e, e ∈ l → rdR P.2 (ad1 o) e.1 = some (ad1 (ro e.1)) ∧ hpL P.1 (ad1 (ro e.1)) = e.2.2 ∧ (∀ j, P.2.1 (ad1 (ro e.1)) j = 0) ∧ (∀ j, P.2.2.1 (ad1 (ro e.1)) j = 0) := by
  obtain ⟨ad1, a1, a2, a3, a4, a5⟩ := mkO_new ro o K n l (g := g) hA hB hn ho hr
  obtain ⟨q1, q2, q3, q4, ⟨q5, q6, q7, q8⟩, q9⟩ := a3
  rw [va_same] at q8 q9
  refine ⟨ad1, _, rfl, a1, a2, q2, a5, fun j => by rw [a1]; exact a4 j, fun k hk => ?_, fun e he => ?_⟩
  · rw [a1, q8 k hk]
    simp [rdR, nwG, va_up, hpN]
  · rw [a1]
    have := q9 e he
    exact ⟨this.1, this.2.1, this.2.2.1, this.2.2.2.1⟩
def G1 (S : Hs) (g : Hg) (ad : Nat → Nat) : Prop := rdR g (ad 1) 0 = some (ad 2) ∧ rdR g (ad 1) 1 = some (ad 3) ∧ hpL S (ad 2) = 20 ∧ hpL S (ad 3) = 8
def G4 (S : Hs) (g : Hg) (ad : Nat → Nat) : Prop := rdR g (ad 4) 0 = some (ad 1) ∧ rdR g (ad 4) 1 = some (ad 5) ∧ rdR g (ad 4) 2 = some (ad 6) ∧ rdR g (ad 4) 3 = some (ad 7) ∧ rdR g (ad 4) 4 = some (ad 8) ∧ hpL S (ad 5) = 400 ∧ hpL S (ad 6) = 400 ∧ hpL S (ad 7) = 2064 ∧ hpL S (ad 8) = 8
def G9 (S : Hs) (g : Hg) (ad : Nat → Nat) : Prop := rdR g (ad 9) 0 = some (ad 1) ∧ rdR g (ad 9) 1 = some (ad 4) ∧ rdR g (ad 9) 2 = some (ad 10) ∧ rdR g (ad 9) 3 = some (ad 14) ∧ rdR g (ad 9) 4 = some (ad 15) ∧ hpL S (ad 14) = 8 ∧ hpL S (ad 15) = 8
def G10 (S : Hs) (g : Hg) (ad : Nat → Nat) : Prop := rdR g (ad 10) 0 = some (ad 1) ∧ rdR g (ad 10) 1 = some (ad 11) ∧ rdR g (ad 10) 2 = some (ad 12) ∧ rdR g (ad 10) 3 = some (ad 13) ∧ hpL S (ad 11) = 12 ∧ hpL S (ad 12) = 12 ∧ hpL S (ad 13) = 96
theorem G1.mv {R : Nat → Prop} {ad ad1 : Nat → Nat} {S S1 : Hs} {g g1 : Hg} (h : G1 S g ad) (hm : Mv R ad S g ad1 S1 g1) (n : ∀ r, 1 ≤ r → r ≤ 15 → R r → False) : G1 S1 g1 ad1 := ⟨hm.P (n _ (by omega) (by omega)) (n _ (by omega) (by omega)) h.1, hm.P (n _ (by omega) (by omega)) (n _ (by omega) (by omega)) h.2.1, (hm.len (n _ (by omega) (by omega))).trans h.2.2.1, (hm.len (n _ (by omega) (by omega))).trans h.2.2.2⟩
theorem G1.mv3 {R : Nat → Prop} {ad ad1 : Nat → Nat} {S S1 : Hs} {g g1 : Hg} (h : G1 S g ad) (hm : Mv R ad S g ad1 S1 g1) (n : ∀ r, 1 ≤ r → r ≤ 3 → R r → False) : G1 S1 g1 ad1 := ⟨hm.P (n _ (by omega) (by omega)) (n _ (by omega) (by omega)) h.1, hm.P (n _ (by omega) (by omega)) (n _ (by omega) (by omega)) h.2.1, (hm.len (n _ (by omega) (by omega))).trans h.2.2.1, (hm.len (n _ (by omega) (by omega))).trans h.2.2.2⟩
theorem G4.mv8 {R : Nat → Prop} {ad ad1 : Nat → Nat} {S S1 : Hs} {g g1 : Hg} (h : G4 S g ad) (hm : Mv R ad S g ad1 S1 g1) (n : ∀ r, 1 ≤ r → r ≤ 8 → R r → False) : G4 S1 g1 ad1 := by
  obtain ⟨a1, a2, a3, a4, a5, b1, b2, b3, b4⟩ := h
  exact ⟨hm.P (n _ (by omega) (by omega)) (n _ (by omega) (by omega)) a1, hm.P (n _ (by omega) (by omega)) (n _ (by omega) (by omega)) a2, hm.P (n _ (by omega) (by omega)) (n _ (by omega) (by omega)) a3, hm.P (n _ (by omega) (by omega)) (n _ (by omega) (by omega)) a4, hm.P (n _ (by omega) (by omega)) (n _ (by omega) (by omega)) a5, (hm.len (n _ (by omega) (by omega))).trans b1, (hm.len (n _ (by omega) (by omega))).trans b2, (hm.len (n _ (by omega) (by omega))).trans b3, (hm.len (n _ (by omega) (by omega))).trans b4⟩
theorem G9.mv {R : Nat → Prop} {ad ad1 : Nat → Nat} {S S1 : Hs} {g g1 : Hg} (h : G9 S g ad) (hm : Mv R ad S g ad1 S1 g1) (n : ∀ r, 1 ≤ r → r ≤ 15 → R r → False) : G9 S1 g1 ad1 := by
  obtain ⟨a1, a2, a3, a4, a5, b1, b2⟩ := h
  exact ⟨hm.P (n _ (by omega) (by omega)) (n _ (by omega) (by omega)) a1, hm.P (n _ (by omega) (by omega)) (n _ (by omega) (by omega)) a2, hm.P (n _ (by omega) (by omega)) (n _ (by omega) (by omega)) a3, hm.P (n _ (by omega) (by omega)) (n _ (by omega) (by omega)) a4, hm.P (n _ (by omega) (by omega)) (n _ (by omega) (by omega)) a5, (hm.len (n _ (by omega) (by omega))).trans b1, (hm.len (n _ (by omega) (by omega))).trans b2⟩
theorem G10.mv {R : Nat → Prop} {ad ad1 : Nat → Nat} {S S1 : Hs} {g g1 : Hg} (h : G10 S g ad) (hm : Mv R ad S g ad1 S1 g1) (n : ∀ r, 1 ≤ r → r ≤ 15 → R r → False) : G10 S1 g1 ad1 := by
  obtain ⟨a1, a2, a3, a4, b1, b2, b3⟩ := h
  exact ⟨hm.P (n _ (by omega) (by omega)) (n _ (by omega) (by omega)) a1, hm.P (n _ (by omega) (by omega)) (n _ (by omega) (by omega)) a2, hm.P (n _ (by omega) (by omega)) (n _ (by omega) (by omega)) a3, hm.P (n _ (by omega) (by omega)) (n _ (by omega) (by omega)) a4, (hm.len (n _ (by omega) (by omega))).trans b1, (hm.len (n _ (by omega) (by omega))).trans b2, (hm.len (n _ (by omega) (by omega))).trans b3⟩
theorem nw_rd {B : Nat} {ad : Nat → Nat} {S : Hs} {g : Hg} (hA : AdOk B ad S) (hB : hpN S < B) (k : Nat) (K n : Nat) : rdR (nwG S g) (ad 0) k = rdR g (ad 0) k := by
  have := (al_mv (g := g) hA hB K n 1).1.R (r := 0) (by decide) k
  rw [va_ne _ _ (by decide)] at this
  exact this
theorem s_mix {B N : Nat} {S : Hs} {g : Hg} {ad : Nat → Nat} (hA : AdOk B ad S) (hB : hpN S + 3 < B) :
    ∃ ad1 S1 g1, (∀ {ρ : Type} (k : Hs → Hg → Option (ρ × Hs × Hg × Nat × Nat)), al S g 6 2 (fun a_6 S_1 g_2 => c5 (f_X6_init N S_1 g_2 a_6) (fun u_8 S_9 g_7 => nm (wrR g_7 (ad 0) 0 (some a_6)) (fun g_14 => k S_9 g_14))) = tk 3 30 (k S1 g1)) ∧ Mv (fun r => r ≤ 3) ad S g ad1 S1 g1 ∧ AdOk B ad1 S1 ∧ hpN S1 = hpN S + 3 ∧ ad1 0 = ad 0 ∧ G1 S1 g1 ad1 ∧ rdR g1 (ad1 0) 0 = some (ad1 1) ∧ ∀ k, k ≠ 0 → rdR g1 (ad1 0) k = rdR g (ad 0) k := by
  obtain ⟨ad1, P, hF, a1, a2, a3, a4, a5, a6, a7⟩ := mkN (fun k => 2 + k) 1 6 2 [(0, 20, 20), (1, 20, 8)] g hA (by show hpN S + 1 + 2 < B; omega) (by decide) (fun e _ => by show 2 + e.1 ≠ 1; omega) (fun e e1 _ _ h => by have h : 2 + e.1 = 2 + e1.1 := h; omega)
  have e0 := a7 (0, 20, 20) (by simp)
  have e1 := a7 (1, 20, 8) (by simp)
  have a2' : Mv (fun r => 1 ≤ r ∧ r ≤ 3) ad S g ad1 P.1 P.2 := a2.mono (fun r h => by
    rcases h with h | ⟨e, h1, h2⟩
    · omega
    · simp only [List.mem_cons, List.not_mem_nil, or_false] at h1
      rcases h1 with h1 | h1 <;> subst h1 <;> simp only at h2 <;> omega)
  have z0 : ad1 0 = ad 0 := a2'.ad (by omega)
  have hI := a3.1
  have m2 : Mv (fun r => r = 0) ad1 P.1 P.2 ad1 P.1 (wrR P.2 (ad1 0) 0 (some (ad1 1))) := wrR_mv a3.1
  refine ⟨ad1, P.1, wrR P.2 (ad1 0) 0 (some (ad1 1)), fun k => ?_, (a2'.mono (fun r hr => by omega)).tr (m2.mono (fun r hr => by omega)), a3, a4, z0, ⟨?_, ?_, e0.2.1, e1.2.1⟩, wrR_same _ _ _ _, fun k hk => ?_⟩
  · rw [al_D, i_X6, hF, c5_S, tk_tk, nm_D, ← a1, ← z0]
  · rw [wrR_ob _ _ _ _ (hI.ne (by decide))]; exact e0.1
  · rw [wrR_ob _ _ _ _ (hI.ne (by decide))]; exact e1.1
  · rw [wrR_fd _ _ _ _ hk]; exact a2'.R (by omega) k
theorem i_X4 {N : Nat} {S : Hs} {g : Hg} {a a1 : Nat} : f_X4_init N S g a a1 = some ((), (mkF a [(1, 20, 400), (2, 20, 400), (3, 20, 2064), (4, 20, 8)] S g).1, wrR (mkF a [(1, 20, 400), (2, 20, 400), (3, 20, 2064), (4, 20, 8)] S g).2 a 0 (some a1), 4, 2872) := by
  show b_X4_init_0 N S g a a1 = _
  unfold b_X4_init_0
  simp (disch := decide) only [lit, lenok_nI, ck_T, al_D, nm_D, nI_clamp, tk_S]
  rfl
theorem s_map {B N : Nat} {S : Hs} {g : Hg} {ad : Nat → Nat} (hA : AdOk B ad S) (hB : hpN S + 5 < B) (h0 : rdR g (ad 0) 0 = some (ad 1)) :
    ∃ ad1 S1 g1, (∀ {ρ : Type} (k : Hs → Hg → Option (ρ × Hs × Hg × Nat × Nat)), al S g 4 6 (fun a_20 S_15 g_16 => nn (rdR g_16 (ad 0) 0) (fun a_21 => c5 (f_X4_init N S_15 g_16 a_20 a_21) (fun u_23 S_24 g_22 => nm (wrR g_22 (ad 0) 1 (some a_20)) (fun g_29 => k S_24 g_29)))) = tk 5 2878 (k S1 g1)) ∧ Mv (fun r => r = 0 ∨ 4 ≤ r ∧ r ≤ 8) ad S g ad1 S1 g1 ∧ AdOk B ad1 S1 ∧ hpN S1 = hpN S + 5 ∧ ad1 0 = ad 0 ∧ G4 S1 g1 ad1 ∧ rdR g1 (ad1 0) 1 = some (ad1 4) ∧ ∀ k, k ≠ 1 → rdR g1 (ad1 0) k = rdR g (ad 0) k := by
  obtain ⟨ad1, P, hF, a1, a2, a3, a4, a5, a6, a7⟩ := mkN (fun k => 4 + k) 4 4 6 [(1, 20, 400), (2, 20, 400), (3, 20, 2064), (4, 20, 8)] g hA (by show hpN S + 1 + 4 < B; omega) (by decide) (fun e he => by
    simp only [List.mem_cons, List.not_mem_nil, or_false] at he
    rcases he with he | he | he | he <;> subst he <;> simp) (fun e e1 _ _ h => by have h : 4 + e.1 = 4 + e1.1 := h; omega)
  have e1 := a7 (1, 20, 400) (by simp)
  have e2 := a7 (2, 20, 400) (by simp)
  have e3 := a7 (3, 20, 2064) (by simp)
  have e4 := a7 (4, 20, 8) (by simp)
  have a2' : Mv (fun r => 4 ≤ r ∧ r ≤ 8) ad S g ad1 P.1 P.2 := a2.mono (fun r h => by
    rcases h with h | ⟨e, h1, h2⟩
    · omega
    · simp only [List.mem_cons, List.not_mem_nil, or_false] at h1
      rcases h1 with h1 | h1 | h1 | h1 <;> subst h1 <;> simp only at h2 <;> omega)
  have z0 : ad1 0 = ad 0 := a2'.ad (by omega)
  have z1 : ad1 1 = ad 1 := a2'.ad (by omega)
  have hI := a3.1
  let g2 : Hg := wrR P.2 (ad1 4) 0 (some (ad1 1))
  let g3 : Hg := wrR g2 (ad1 0) 1 (some (ad1 4))
  have m2 : Mv (fun r => r = 4) ad1 P.1 P.2 ad1 P.1 g2 := wrR_mv a3.1
  have m3 : Mv (fun r => r = 0) ad1 P.1 g2 ad1 P.1 g3 := wrR_mv a3.1
  have r4 : ∀ k, rdR g3 (ad1 4) k = rdR g2 (ad1 4) k := fun k => wrR_ob _ _ _ _ (hI.ne (by decide))
  have r4' : ∀ k, k ≠ 0 → rdR g2 (ad1 4) k = rdR P.2 (ad1 4) k := fun k hk => wrR_fd _ _ _ _ hk
  refine ⟨ad1, P.1, g3, fun k => ?_, (a2'.mono (fun r hr => by omega)).tr ((m2.mono (fun r hr => by omega)).tr (m3.mono (fun r hr => by omega))), a3, a4, z0, ⟨(r4 0).trans (wrR_same _ _ _ _), ?_, ?_, ?_, ?_, e1.2.1, e2.2.1, e3.2.1, e4.2.1⟩, wrR_same _ _ _ _, fun k hk => ?_⟩
  · rw [al_D, nw_rd hA (by omega) 0 4 6, h0, nn_S, i_X4, hF, c5_S, tk_tk, nm_D, ← a1, ← z0, ← z1]
  · rw [r4, r4' 1 (by decide)]; exact e1.1
  · rw [r4, r4' 2 (by decide)]; exact e2.1
  · rw [r4, r4' 3 (by decide)]; exact e3.1
  · rw [r4, r4' 4 (by decide)]; exact e4.1
  · show rdR (wrR g2 _ _ _) _ _ = _
    rw [wrR_fd _ _ _ _ hk]
    show rdR (wrR P.2 _ _ _) _ _ = _
    rw [wrR_ob _ _ _ _ (hI.ne (by decide))]; exact a2'.R (by omega) k
theorem i_X9 {N : Nat} {S : Hs} {g : Hg} {a a1 : Nat} : f_X9_init N S g a a1 = some ((), (mkF a [(1, 20, 12), (2, 20, 12), (3, 20, 96)] S g).1, wrR (mkF a [(1, 20, 12), (2, 20, 12), (3, 20, 96)] S g).2 a 0 (some a1), 3, 120) := by
  show b_X9_init_0 N S g a a1 = _
  unfold b_X9_init_0
  simp (disch := decide) only [lit, lenok_nI, ck_T, al_D, nm_D, nI_clamp, tk_S]
  rfl
theorem i_X8 {N : Nat} {S : Hs} {g : Hg} {a a1 a2 : Nat} : f_X8_init N S g a a1 a2 = tk 2 16 (al (mkF a [(3, 20, 8), (4, 20, 8)] S g).1 (wrR (wrR (mkF a [(3, 20, 8), (4, 20, 8)] S g).2 a 0 (some a1)) a 1 (some a2)) 9 5 (fun a_22 S_17 g_18 => c5 (f_X9_init N S_17 g_18 a_22 a1) (fun u_24 S_25 g_23 => nm (wrR g_23 a 2 (some a_22)) (fun g_30 => some ((), S_25, g_30, 0, 0))))) := by
  show b_X8_init_0 N S g a a1 a2 = _
  unfold b_X8_init_0
  simp (disch := decide) only [lit, lenok_nI, ck_T, al_D, nm_D, nI_clamp, tk_tk]
  rfl
theorem s_rec {B N : Nat} {S : Hs} {g : Hg} {ad : Nat → Nat} (hA : AdOk B ad S) (hB : hpN S + 7 < B) (h0 : rdR g (ad 0) 0 = some (ad 1)) (h1 : rdR g (ad 0) 1 = some (ad 4)) :
    ∃ ad1 S1 g1, (∀ {ρ : Type} (k : Hs → Hg → Option (ρ × Hs × Hg × Nat × Nat)), al S g 8 5 (fun a_35 S_30 g_31 => nn (rdR g_31 (ad 0) 0) (fun a_36 => nn (rdR g_31 (ad 0) 1) (fun a_37 => c5 (f_X8_init N S_30 g_31 a_35 a_36 a_37) (fun u_39 S_40 g_38 => nm (wrR g_38 (ad 0) 2 (some a_35)) (fun g_45 => k S_40 g_45))))) = tk 7 146 (k S1 g1)) ∧ Mv (fun r => r = 0 ∨ 9 ≤ r ∧ r ≤ 15) ad S g ad1 S1 g1 ∧ AdOk B ad1 S1 ∧ hpN S1 = hpN S + 7 ∧ ad1 0 = ad 0 ∧ (G9 S1 g1 ad1 ∧ G10 S1 g1 ad1) ∧ rdR g1 (ad1 0) 2 = some (ad1 9) ∧ ∀ k, k ≠ 2 → rdR g1 (ad1 0) k = rdR g (ad 0) k := by
  obtain ⟨ad1, P, hF, a1, a2, a3, a4, a5, a6, a7⟩ := mkN (fun k => 11 + k) 9 8 5 [(3, 20, 8), (4, 20, 8)] g hA (by show hpN S + 1 + 2 < B; omega) (by decide) (fun e _ => by show 11 + e.1 ≠ 9; omega) (fun e e1 _ _ h => by have h : 11 + e.1 = 11 + e1.1 := h; omega)
  have e3 := a7 (3, 20, 8) (by simp)
  have e4 := a7 (4, 20, 8) (by simp)
  have a4 : hpN P.1 = hpN S + 3 := a4
  have a2' : Mv (fun r => r = 9 ∨ 14 ≤ r ∧ r ≤ 15) ad S g ad1 P.1 P.2 := a2.mono (fun r h => by
    rcases h with h | ⟨e, h1, h2⟩
    · omega
    · simp only [List.mem_cons, List.not_mem_nil, or_false] at h1
      rcases h1 with h1 | h1 <;> subst h1 <;> simp only at h2 <;> omega)
  have z0 : ad1 0 = ad 0 := a2'.ad (by omega)
  have z1 : ad1 1 = ad 1 := a2'.ad (by omega)
  have z4 : ad1 4 = ad 4 := a2'.ad (by omega)
  let gA : Hg := wrR (wrR P.2 (ad1 9) 0 (some (ad1 1))) (ad1 9) 1 (some (ad1 4))
  have mA : Mv (fun r => r = 9) ad1 P.1 P.2 ad1 P.1 gA := (wrR_mv a3.1).tr (wrR_mv a3.1)
  obtain ⟨ad2, Q, hG, b1, b2, b3, b4, b5, b6, b7⟩ := mkN (fun k => 10 + k) 10 9 5 [(1, 20, 12), (2, 20, 12), (3, 20, 96)] gA a3 (by show hpN P.1 + 1 + 3 < B; omega) (by decide) (fun e he => by
    simp only [List.mem_cons, List.not_mem_nil, or_false] at he
    rcases he with he | he | he <;> subst he <;> simp) (fun e e1 _ _ h => by have h : 10 + e.1 = 10 + e1.1 := h; omega)
  have f1 := b7 (1, 20, 12) (by simp)
  have f2 := b7 (2, 20, 12) (by simp)
  have f3 := b7 (3, 20, 96) (by simp)
  have b4 : hpN Q.1 = hpN P.1 + 4 := b4
  have b2' : Mv (fun r => 10 ≤ r ∧ r ≤ 13) ad1 P.1 gA ad2 Q.1 Q.2 := b2.mono (fun r h => by
    rcases h with h | ⟨e, h1, h2⟩
    · omega
    · simp only [List.mem_cons, List.not_mem_nil, or_false] at h1
      rcases h1 with h1 | h1 | h1 <;> subst h1 <;> simp only at h2 <;> omega)
  have y0 : ad2 0 = ad1 0 := b2'.ad (by omega)
  have y1 : ad2 1 = ad1 1 := b2'.ad (by omega)
  have y4 : ad2 4 = ad1 4 := b2'.ad (by omega)
  have y9 : ad2 9 = ad1 9 := b2'.ad (by omega)
  have hI := b3.1
  let gB : Hg := wrR Q.2 (ad2 10) 0 (some (ad2 1))
  let gC : Hg := wrR gB (ad2 9) 2 (some (ad2 10))
  let gD : Hg := wrR gC (ad2 0) 2 (some (ad2 9))
  have mB : Mv (fun r => r = 10) ad2 Q.1 Q.2 ad2 Q.1 gB := wrR_mv b3.1
  have mC : Mv (fun r => r = 9) ad2 Q.1 gB ad2 Q.1 gC := wrR_mv b3.1
  have mD : Mv (fun r => r = 0) ad2 Q.1 gC ad2 Q.1 gD := wrR_mv b3.1
  have rA : ∀ k, rdR Q.2 (ad2 9) k = rdR gA (ad1 9) k := fun k => b2'.R (by omega) k
  have rD : ∀ r k, r ≠ 0 → rdR gD (ad2 r) k = rdR gC (ad2 r) k := fun r k hr => wrR_ob _ _ _ _ (hI.ne hr)
  have rC9 : ∀ k, k ≠ 2 → rdR gC (ad2 9) k = rdR gB (ad2 9) k := fun k hk => wrR_fd _ _ _ _ hk
  have rC10 : ∀ k, rdR gC (ad2 10) k = rdR gB (ad2 10) k := fun k => wrR_ob _ _ _ _ (hI.ne (by decide))
  have rB9 : ∀ k, rdR gB (ad2 9) k = rdR Q.2 (ad2 9) k := fun k => wrR_ob _ _ _ _ (hI.ne (by decide))
  have rB10 : ∀ k, k ≠ 0 → rdR gB (ad2 10) k = rdR Q.2 (ad2 10) k := fun k hk => wrR_fd _ _ _ _ hk
  have gA0 : rdR gA (ad1 9) 0 = some (ad1 1) := (wrR_fd _ _ _ _ (by decide)).trans (wrR_same _ _ _ _)
  have gA1 : rdR gA (ad1 9) 1 = some (ad1 4) := wrR_same _ _ _ _
  have gAk : ∀ k, k ≠ 0 → k ≠ 1 → rdR gA (ad1 9) k = rdR P.2 (ad1 9) k := fun k h0 h1 => (wrR_fd _ _ _ _ h1).trans (wrR_fd _ _ _ _ h0)
  refine ⟨ad2, Q.1, gD, fun k => ?_, ((a2'.mono (fun r hr => by omega)).tr (mA.mono (fun r hr => by omega))).tr ((b2'.mono (fun r hr => by omega)).tr ((mB.mono (fun r hr => by omega)).tr ((mC.mono (fun r hr => by omega)).tr (mD.mono (fun r hr => by omega))))), b3, by omega, y0.trans z0, ⟨⟨?_, ?_, ?_, ?_, ?_, ?_, ?_⟩, ⟨?_, ?_, ?_, ?_, f1.2.1, f2.2.1, f3.2.1⟩⟩, wrR_same _ _ _ _, fun k hk => ?_⟩
  · rw [al_D, nw_rd hA (by omega) 0 8 5, h0, nn_S, nw_rd hA (by omega) 1 8 5, h1, nn_S, i_X8, hF, al_D, i_X9, ← z1, ← z4, ← a1, show wrR (wrR P.2 (ad1 9) 0 (some (ad1 1))) (ad1 9) 1 (some (ad1 4)) = gA from rfl, hG, c5_S, nm_D, tk_S, tk_S, tk_S, c5_S, tk_tk, nm_D, ← b1, ← z0, ← y0, ← y9, ← y1]
  · rw [rD 9 _ (by decide), rC9 0 (by decide), rB9, rA, gA0, y1]
  · rw [rD 9 _ (by decide), rC9 1 (by decide), rB9, rA, gA1, y4]
  · rw [rD 9 _ (by decide)]; exact wrR_same _ _ _ _
  · rw [rD 9 _ (by decide), rC9 3 (by decide), rB9, rA, gAk 3 (by decide) (by decide), show rdR P.2 (ad1 9) 3 = some (ad1 14) from e3.1, b2'.ad (by omega)]
  · rw [rD 9 _ (by decide), rC9 4 (by decide), rB9, rA, gAk 4 (by decide) (by decide), show rdR P.2 (ad1 9) 4 = some (ad1 15) from e4.1, b2'.ad (by omega)]
  · exact (b2'.len (by omega)).trans e3.2.1
  · exact (b2'.len (by omega)).trans e4.2.1
  · rw [rD 10 _ (by decide), rC10]; exact wrR_same _ _ _ _
  · rw [rD 10 _ (by decide), rC10, rB10 1 (by decide)]; exact f1.1
  · rw [rD 10 _ (by decide), rC10, rB10 2 (by decide)]; exact f2.1
  · rw [rD 10 _ (by decide), rC10, rB10 3 (by decide)]; exact f3.1
  · show rdR (wrR gC _ _ _) _ _ = _
    rw [wrR_fd _ _ _ _ hk]
    show rdR (wrR gB _ _ _) _ _ = _
    rw [wrR_ob _ _ _ _ (hI.ne (by decide))]
    show rdR (wrR Q.2 _ _ _) _ _ = _
    rw [wrR_ob _ _ _ _ (hI.ne (by decide)), b2'.R (by omega) k, mA.R (by omega) k]
    exact a2'.R (by omega) k
theorem s_house {B N : Nat} (hN : 40000 ≤ N) {S : Hs} {g : Hg} {ad : Nat → Nat} (hA : AdOk B ad S) (hB : hpN S + 136 < B) :
    ∃ ad1 S1 g1, (∀ {ρ : Type} (k : Hs → Hg → Option (ρ × Hs × Hg × Nat × Nat)), al S g 1 9 (fun a_20 S_15 g_16 => c5 (f_X1_init N S_15 g_16 a_20) (fun u_23 S_24 g_22 => nm (wrR g_22 (ad 0) 3 (some a_20)) (fun g_29 => k S_24 g_29))) = tk 136 7331 (k S1 g1)) ∧ Mv (fun r => r = 0 ∨ 100 ≤ r ∧ r < 1300) ad S g ad1 S1 g1 ∧ AdOk B ad1 S1 ∧ hpN S1 = hpN S + 136 ∧ ad1 0 = ad 0 ∧ (CHo S1 g1 ad1 100 (0, 0) hNew ∧ phS S1 ad1 100 = 61440) ∧ rdR g1 (ad1 0) 3 = some (ad1 100) ∧ ∀ k, k ≠ 3 → rdR g1 (ad1 0) k = rdR g (ad 0) k := by
  obtain ⟨ad1, S1, g1, a1, a2, a3, a4, a5, a6⟩ := c_newHouse (B := B) (S := S) (g := g) (ad := ad) hN 100 hA hB
  have z0 : ad1 0 = ad 0 := a2.ad (by omega)
  have m2 : Mv (fun r => r = 0) ad1 S1 g1 ad1 S1 (wrR g1 (ad1 0) 3 (some (ad1 100))) := wrR_mv a3.1
  refine ⟨ad1, S1, wrR g1 (ad1 0) 3 (some (ad1 100)), fun k => ?_, (a2.mono (fun r hr => by omega)).tr (m2.mono (fun r hr => by omega)), a3, a4, z0, ⟨a5.mv m2 (fun r r1 r2 => by omega), a6⟩, wrR_same _ _ _ _, fun k hk => ?_⟩
  · rw [a1, nm_D, ← z0]
  · rw [wrR_fd _ _ _ _ hk]; exact a2.R (by omega) k
theorem s_head {B N : Nat} (hN : 40000 ≤ N) {S : Hs} {g : Hg} {ad : Nat → Nat} (hA : AdOk B ad S) (hB : hpN S + 4 < B) :
    ∃ ad1 S1 g1, (∀ {ρ : Type} (k : Hs → Hg → Option (ρ × Hs × Hg × Nat × Nat)), al S g 0 7 (fun a_20 S_15 g_16 => c5 (f_X0_init N S_15 g_16 a_20) (fun u_23 S_24 g_22 => nm (wrR g_22 (ad 0) 4 (some a_20)) (fun g_29 => k S_24 g_29))) = tk 4 31 (k S1 g1)) ∧ Mv (fun r => r = 0 ∨ 16 ≤ r ∧ r < 20) ad S g ad1 S1 g1 ∧ AdOk B ad1 S1 ∧ hpN S1 = hpN S + 4 ∧ ad1 0 = ad 0 ∧ (HdP S1 g1 ad1 16) ∧ rdR g1 (ad1 0) 4 = some (ad1 16) ∧ ∀ k, k ≠ 4 → rdR g1 (ad1 0) k = rdR g (ad 0) k := by
  obtain ⟨ad1, S1, g1, a1, a2, a3, a4, a5, a6⟩ := c_newHead (B := B) (S := S) (g := g) (ad := ad) N 16 hA hB
  have z0 : ad1 0 = ad 0 := a2.ad (by omega)
  have m2 : Mv (fun r => r = 0) ad1 S1 g1 ad1 S1 (wrR g1 (ad1 0) 4 (some (ad1 16))) := wrR_mv a3.1
  refine ⟨ad1, S1, wrR g1 (ad1 0) 4 (some (ad1 16)), fun k => ?_, (a2.mono (fun r hr => by omega)).tr (m2.mono (fun r hr => by omega)), a3, a4, z0, a5.mv m2 (fun r r1 r2 => by omega), wrR_same _ _ _ _, fun k hk => ?_⟩
  · rw [a1, nm_D, ← z0]
  · rw [wrR_fd _ _ _ _ hk]; exact a2.R (by omega) k
theorem s_proof {B N : Nat} (hN : 40000 ≤ N) {S : Hs} {g : Hg} {ad : Nat → Nat} (hA : AdOk B ad S) (hB : hpN S + 4 < B) :
    ∃ ad1 S1 g1, (∀ {ρ : Type} (k : Hs → Hg → Option (ρ × Hs × Hg × Nat × Nat)), al S g 7 12 (fun a_20 S_15 g_16 => c5 (f_X7_init N S_15 g_16 a_20) (fun u_23 S_24 g_22 => nm (wrR g_22 (ad 0) 5 (some a_20)) (fun g_29 => k S_24 g_29))) = tk 4 220 (k S1 g1)) ∧ Mv (fun r => r = 0 ∨ 20 ≤ r ∧ r < 24) ad S g ad1 S1 g1 ∧ AdOk B ad1 S1 ∧ hpN S1 = hpN S + 4 ∧ ad1 0 = ad 0 ∧ (PfP S1 g1 ad1 20 ∧ hpL S1 (ad1 23) = 128) ∧ rdR g1 (ad1 0) 5 = some (ad1 20) ∧ ∀ k, k ≠ 5 → rdR g1 (ad1 0) k = rdR g (ad 0) k := by
  obtain ⟨ad1, S1, g1, a1, a2, a3, a4, a5, a6⟩ := c_newProof (B := B) (S := S) (g := g) (ad := ad) N 20 hA hB
  have z0 : ad1 0 = ad 0 := a2.ad (by omega)
  have m2 : Mv (fun r => r = 0) ad1 S1 g1 ad1 S1 (wrR g1 (ad1 0) 5 (some (ad1 20))) := wrR_mv a3.1
  refine ⟨ad1, S1, wrR g1 (ad1 0) 5 (some (ad1 20)), fun k => ?_, (a2.mono (fun r hr => by omega)).tr (m2.mono (fun r hr => by omega)), a3, a4, z0, ⟨a5.1.mv m2 (fun r r1 r2 => by omega), a6⟩, wrR_same _ _ _ _, fun k hk => ?_⟩
  · rw [a1, nm_D, ← z0]
  · rw [wrR_fd _ _ _ _ hk]; exact a2.R (by omega) k
/-- the class's object -/
theorem s_X11 {B N : Nat} (hN : 40000 ≤ N) {S : Hs} {g : Hg} {ad : Nat → Nat} (hA : AdOk B ad S) (hB : hpN S + 200 < B) (h6 : rdR g (ad 0) 6 = none) :
    ∃ ad1 S1 g1, f_X11_init N S g (ad 0) = some ((), S1, g1, 159, 10636) ∧ Mv (fun r => r < 20000) ad S g ad1 S1 g1 ∧ AdOk B ad1 S1 ∧ hpN S1 = hpN S + 159 ∧ ad1 0 = ad 0 ∧ (ScP S1 g1 ad1 ∧ HdP S1 g1 ad1 16 ∧ PfP S1 g1 ad1 20) ∧ hpL S1 (ad1 23) = 128 ∧ (CHo S1 g1 ad1 100 (0, 0) hNew ∧ phS S1 ad1 100 = 61440) ∧ rdR g1 (ad1 0) 6 = none := by
  obtain ⟨ad1, S1, g1, a1, a2, a3, a4, a5, a6, a7, a8⟩ := s_mix (N := N) (g := g) hA (by omega)
  obtain ⟨ad2, S2, g2, b1, b2, b3, b4, b5, b6, b7, b8⟩ := s_map (N := N) (g := g1) a3 (by omega) a7
  have r20 : rdR g2 (ad2 0) 0 = some (ad2 1) := by rw [b8 0 (by decide), a7, b2.ad (by omega)]
  obtain ⟨ad3, S3, g3, c1, c2', c3, c4, c5', ⟨c6, c7⟩, c8, c9⟩ := s_rec (N := N) (g := g2) b3 (by omega) r20 b7
  obtain ⟨ad4, S4, g4, d1, d2, d3, d4, d5, ⟨d6, d7⟩, d8, d9⟩ := s_house (N := N) (g := g3) hN c3 (by omega)
  obtain ⟨ad5, S5, g5, e1, e2, e3, e4, e5, e6, e7, e8⟩ := s_head (N := N) (g := g4) hN d3 (by omega)
  obtain ⟨ad6, S6, g6, f1, f2, f3, f4, f5, ⟨f6, f7⟩, f8, f9⟩ := s_proof (N := N) (g := g5) hN e3 (by omega)
  have z1 : ad1 0 = ad 0 := a5
  have z2 : ad2 0 = ad 0 := b5.trans z1
  have z3 : ad3 0 = ad 0 := c5'.trans z2
  have z4 : ad4 0 = ad 0 := d5.trans z3
  have z5 : ad5 0 = ad 0 := e5.trans z4
  rw [z1] at b1
  rw [z2] at c1
  rw [z3] at d1
  rw [z4] at e1
  rw [z5] at f1
  have m46 : Mv (fun r => r = 0 ∨ 16 ≤ r ∧ r < 24 ∨ 100 ≤ r ∧ r < 1300) ad3 S3 g3 ad6 S6 g6 := (d2.mono (fun r hr => by omega)).tr ((e2.mono (fun r hr => by omega)).tr (f2.mono (fun r hr => by omega)))
  have m56 : Mv (fun r => r = 0 ∨ 16 ≤ r ∧ r < 24) ad4 S4 g4 ad6 S6 g6 := (e2.mono (fun r hr => by omega)).tr (f2.mono (fun r hr => by omega))
  have hG1 : G1 S6 g6 ad6 := ((a6.mv3 b2 (fun r r1 r2 q => by omega)).mv3 c2' (fun r r1 r2 q => by omega)).mv3 m46 (fun r r1 r2 q => by omega)
  have hG4 : G4 S6 g6 ad6 := (b6.mv8 c2' (fun r r1 r2 q => by omega)).mv8 m46 (fun r r1 r2 q => by omega)
  have hG9 : G9 S6 g6 ad6 := c6.mv m46 (fun r r1 r2 q => by omega)
  have hG10 : G10 S6 g6 ad6 := c7.mv m46 (fun r r1 r2 q => by omega)
  have k0 : rdR g6 (ad6 0) 0 = some (ad6 1) := by rw [f9 0 (by decide), e8 0 (by decide), d9 0 (by decide), c9 0 (by decide), r20, m46.ad (by omega), c2'.ad (by omega)]
  have k1 : rdR g6 (ad6 0) 1 = some (ad6 4) := by rw [f9 1 (by decide), e8 1 (by decide), d9 1 (by decide), c9 1 (by decide), b7, m46.ad (by omega), c2'.ad (by omega)]
  have k2 : rdR g6 (ad6 0) 2 = some (ad6 9) := by rw [f9 2 (by decide), e8 2 (by decide), d9 2 (by decide), c8, m46.ad (by omega)]
  have k3 : rdR g6 (ad6 0) 3 = some (ad6 100) := by rw [f9 3 (by decide), e8 3 (by decide), d8, m56.ad (by omega)]
  have k4 : rdR g6 (ad6 0) 4 = some (ad6 16) := by rw [f9 4 (by decide), e7, f2.ad (by omega)]
  have k6 : rdR g6 (ad6 0) 6 = none := by rw [f9 6 (by decide), e8 6 (by decide), d9 6 (by decide), c9 6 (by decide), b8 6 (by decide), a8 6 (by decide), h6]
  refine ⟨ad6, S6, g6, ?_, (a2.mono (fun r hr => by omega)).tr ((b2.mono (fun r hr => by omega)).tr ((c2'.mono (fun r hr => by omega)).tr (m46.mono (fun r hr => by omega)))), f3, by omega, f5.trans z5, ⟨⟨hG1, hG4, hG9, hG10, k0, k1, k2, k3, k4, f8⟩, e6.mv f2 (fun r r1 r2 => by omega), f6⟩, f7, ⟨d6.mv m56 (fun r r1 r2 => by omega), ?_⟩, k6⟩
  · show b_X11_init_0 N S g (ad 0) = _
    unfold b_X11_init_0
    rw [a1 (fun S_9 g_14 => _), b1 (fun S_24 g_29 => _), c1 (fun S_40 g_45 => _), d1 (fun S_54 g_59 => _), e1 (fun S_68 g_73 => _), f1 (fun S_82 g_87 => some ((), S_82, g_87, 0, 0)), tk_tk, tk_tk, tk_tk, tk_tk, tk_tk, tk_S]
  · rw [phS_mv m56 (fun r r1 r2 => by omega)]; exact d7
def xl472 : List (Nat × Nat × Nat) := [(61, 20, 8), (64, 20, 8), (65, 20, 8)]
theorem i_X12_472 {N : Nat} {S : Hs} {g : Hg} {a : Nat} : b_X12_init_472 N S g a = some ((), (mkF a xl472 S g).1, (mkF a xl472 S g).2, 3, 24) := by
  unfold b_X12_init_472
  simp (disch := decide) only [lit, lenok_nI, ck_T, al_D, nm_D, nI_clamp, tk_S]
  rfl
def xl420 : List (Nat × Nat × Nat) := [(54, 20, 3200), (55, 20, 400), (56, 20, 400), (58, 20, 4160), (59, 20, 28), (60, 20, 8)]
theorem i_X12_420 {N : Nat} {S : Hs} {g : Hg} {a : Nat} : b_X12_init_420 N S g a = tk 6 8196 (b_X12_init_472 N (mkF a xl420 S g).1 (mkF a xl420 S g).2 a) := by
  unfold b_X12_init_420
  simp (disch := decide) only [lit, lenok_nI, ck_T, al_D, nm_D, nI_clamp, tk_tk]
  rfl
def xl369 : List (Nat × Nat × Nat) := [(47, 20, 64), (48, 20, 512), (50, 20, 8), (51, 20, 8), (52, 20, 400), (53, 20, 400)]
theorem i_X12_369 {N : Nat} {S : Hs} {g : Hg} {a : Nat} : b_X12_init_369 N S g a = tk 6 1392 (b_X12_init_420 N (mkF a xl369 S g).1 (mkF a xl369 S g).2 a) := by
  unfold b_X12_init_369
  simp (disch := decide) only [lit, lenok_nI, ck_T, al_D, nm_D, nI_clamp, tk_tk]
  rfl
def xl318 : List (Nat × Nat × Nat) := [(41, 20, 3200), (42, 20, 3200), (43, 20, 24), (44, 20, 8), (45, 20, 256), (46, 20, 64)]
theorem i_X12_318 {N : Nat} {S : Hs} {g : Hg} {a : Nat} : b_X12_init_318 N S g a = tk 6 6752 (b_X12_init_369 N (mkF a xl318 S g).1 (mkF a xl318 S g).2 a) := by
  unfold b_X12_init_318
  simp (disch := decide) only [lit, lenok_nI, ck_T, al_D, nm_D, nI_clamp, tk_tk]
  rfl
def xl268 : List (Nat × Nat × Nat) := [(34, 20, 32768), (35, 20, 336), (36, 22, 12), (37, 20, 3360), (39, 20, 40), (40, 22, 8)]
theorem i_X12_268 {N : Nat} {S : Hs} {g : Hg} {a : Nat} : b_X12_init_268 N S g a = tk 6 36524 (b_X12_init_318 N (mkF a xl268 S g).1 (mkF a xl268 S g).2 a) := by
  unfold b_X12_init_268
  simp (disch := decide) only [lit, lenok_nI, ck_T, al_D, nm_D, nI_clamp, tk_tk]
  rfl
def xl214 : List (Nat × Nat × Nat) := [(28, 20, 600), (29, 20, 600), (30, 22, 600), (31, 20, 128), (32, 20, 640), (33, 21, 640)]
theorem i_X12_214 {N : Nat} {S : Hs} {g : Hg} {a : Nat} : b_X12_init_214 N S g a = tk 6 3208 (b_X12_init_268 N (mkF a xl214 S g).1 (mkF a xl214 S g).2 a) := by
  unfold b_X12_init_214
  simp (disch := decide) only [lit, lenok_nI, ck_T, al_D, nm_D, nI_clamp, tk_tk]
  rfl
def xl161 : List (Nat × Nat × Nat) := [(20, 20, 3200), (22, 20, 24), (24, 20, 2400), (25, 21, 2400), (26, 22, 2400), (27, 22, 2400)]
theorem i_X12_161 {N : Nat} {S : Hs} {g : Hg} {a : Nat} : b_X12_init_161 N S g a = tk 6 12824 (b_X12_init_214 N (mkF a xl161 S g).1 (mkF a xl161 S g).2 a) := by
  unfold b_X12_init_161
  simp (disch := decide) only [lit, lenok_nI, ck_T, al_D, nm_D, nI_clamp, tk_tk]
  rfl
def xl110 : List (Nat × Nat × Nat) := [(13, 20, 336), (14, 22, 12), (15, 20, 3360), (17, 20, 40), (18, 22, 8), (19, 20, 3200)]
theorem i_X12_110 {N : Nat} {S : Hs} {g : Hg} {a : Nat} : b_X12_init_110 N S g a = tk 6 6956 (b_X12_init_161 N (mkF a xl110 S g).1 (mkF a xl110 S g).2 a) := by
  unfold b_X12_init_110
  simp (disch := decide) only [lit, lenok_nI, ck_T, al_D, nm_D, nI_clamp, tk_tk]
  rfl
def xl57 : List (Nat × Nat × Nat) := [(7, 20, 600), (8, 22, 600), (9, 20, 128), (10, 20, 640), (11, 21, 640), (12, 20, 32768)]
theorem i_X12_57 {N : Nat} {S : Hs} {g : Hg} {a : Nat} : b_X12_init_57 N S g a = tk 6 35376 (b_X12_init_110 N (mkF a xl57 S g).1 (mkF a xl57 S g).2 a) := by
  unfold b_X12_init_57
  simp (disch := decide) only [lit, lenok_nI, ck_T, al_D, nm_D, nI_clamp, tk_tk]
  rfl
def xl0 : List (Nat × Nat × Nat) := [(0, 20, 24), (2, 20, 2400), (3, 21, 2400), (4, 22, 2400), (5, 22, 2400), (6, 20, 600)]
theorem i_X12_0 {N : Nat} {S : Hs} {g : Hg} {a : Nat} : b_X12_init_0 N S g a = tk 6 10224 (b_X12_init_57 N (mkF a xl0 S g).1 (mkF a xl0 S g).2 a) := by
  unfold b_X12_init_0
  simp (disch := decide) only [lit, lenok_nI, ck_T, al_D, nm_D, nI_clamp, tk_tk]
  rfl
theorem mkF_app (a : Nat) : ∀ (l l1 : List (Nat × Nat × Nat)) (S : Hs) (g : Hg), mkF a (l ++ l1) S g = mkF a l1 (mkF a l S g).1 (mkF a l S g).2
  | [], _, _, _ => rfl
  | _ :: l, l1, _, _ => mkF_app a l l1 _ _
def xlA : List (Nat × Nat × Nat) := xl0 ++ (xl57 ++ (xl110 ++ (xl161 ++ (xl214 ++ (xl268 ++ (xl318 ++ (xl369 ++ (xl420 ++ (xl472)))))))))
theorem i_X12 {N : Nat} {S : Hs} {g : Hg} {a : Nat} : f_X12_init N S g a = some ((), (mkF a xlA S g).1, (mkF a xlA S g).2, 57, 121476) := by
  show b_X12_init_0 N S g a = _
  unfold xlA
  rw [i_X12_0, i_X12_57, i_X12_110, i_X12_161, i_X12_214, i_X12_268, i_X12_318, i_X12_369, i_X12_420, i_X12_472, tk_S, tk_S, tk_S, tk_S, tk_S, tk_S, tk_S, tk_S, tk_S]
  simp only [mkF_app]
theorem xlA_nd : (xlA.map (fun e => e.1)).Nodup := by decide
theorem xlA_b : (List.range 66).all (fun k => mln k == 0 || (xlA.contains (k, 20, mln k) || (xlA.contains (k, 21, mln k) || xlA.contains (k, 22, mln k)))) = true := by decide
theorem xlA_in (k : Nat) (h1 : k < 66) (h2 : mln k ≠ 0) : ((k, 20, mln k) ∈ xlA ∨ (k, 21, mln k) ∈ xlA ∨ (k, 22, mln k) ∈ xlA) := by
  have h := List.all_eq_true.mp xlA_b k (List.mem_range.mpr h1)
  simp only [Bool.or_eq_true, beq_iff_eq, List.contains_iff_mem] at h
  exact h.resolve_left h2
theorem xlA_len : xlA.length = 57 := by decide
/-- the reference's object, at role 20000 -/
theorem s_X12 {B N : Nat} {S : Hs} {g : Hg} {ad : Nat → Nat} (hA : AdOk B ad S) (hB : hpN S + 100 < B) :
    ∃ ad1 S1 g1, (∀ {ρ : Type} (k : Nat → Hs → Hg → Option (ρ × Hs × Hg × Nat × Nat)), al S g 12 66 (fun a_19 S_14 g_15 => c5 (f_X12_init N S_14 g_15 a_19) (fun u_21 S_22 g_20 => k a_19 S_22 g_20)) = tk 58 121542 (k (ad1 20000) S1 g1)) ∧ Mv (fun r => 20000 ≤ r) ad S g ad1 S1 g1 ∧ AdOk B ad1 S1 ∧ hpN S1 = hpN S + 58 ∧ RfP S1 g1 ad1 ∧ (∀ j, g1.1 (ad1 20000) j = 0) ∧ ∀ k, k < 66 → mln k ≠ 0 → (∀ j, g1.1 (ad1 (20001 + k)) j = 0) ∧ (∀ j, g1.2.1 (ad1 (20001 + k)) j = 0) := by
  obtain ⟨ad1, P, hF, a1, a2, a3, a4, a5, a6, a7⟩ := mkN (fun k => 20001 + k) 20000 12 66 xlA g hA (by rw [xlA_len]; omega) xlA_nd (fun e _ => by show 20001 + e.1 ≠ 20000; omega) (fun e e1 _ _ h => by have h : 20001 + e.1 = 20001 + e1.1 := h; omega)
  rw [xlA_len] at a4
  have fin : ∀ k, k < 66 → mln k ≠ 0 → (rdR P.2 (ad1 20000) k = some (ad1 (20001 + k)) ∧ hpL P.1 (ad1 (20001 + k)) = mln k) ∧ (∀ j, P.2.1 (ad1 (20001 + k)) j = 0) ∧ (∀ j, P.2.2.1 (ad1 (20001 + k)) j = 0) := fun k h1 h2 => by
    rcases xlA_in k h1 h2 with h | h | h
    · have := a7 _ h; exact ⟨⟨this.1, this.2.1⟩, this.2.2.1, this.2.2.2⟩
    · have := a7 _ h; exact ⟨⟨this.1, this.2.1⟩, this.2.2.1, this.2.2.2⟩
    · have := a7 _ h; exact ⟨⟨this.1, this.2.1⟩, this.2.2.1, this.2.2.2⟩
  refine ⟨ad1, P.1, P.2, fun k => ?_, a2.mono (fun r h => ?_), a3, by omega, fun k h1 h2 => (fin k h1 h2).1, a5, fun k h1 h2 => (fin k h1 h2).2⟩
  · rw [al_D, i_X12, hF, c5_S, tk_tk, ← a1]
  · rcases h with h | ⟨e, h1, h2⟩
    · omega
    · have h2 : r = 20001 + e.1 := h2
      omega
