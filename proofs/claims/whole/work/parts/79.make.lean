/-! making: arrays as fields of an object, one behind the other -/
theorem Mv.R {R : Nat → Prop} {ad ad1 : Nat → Nat} {S S1 : Hs} {g g1 : Hg} (h : Mv R ad S g ad1 S1 g1) {r : Nat} (hr : ¬ R r) (k : Nat) : rdR g1 (ad1 r) k = rdR g (ad r) k := by
  obtain ⟨e1, _, _, _, e5⟩ := h r hr
  rw [e1]
  show g1.2.2 (ad r) k = g.2.2 (ad r) k
  rw [e5]
theorem lenok_nI {n : Nat} (h : n ≤ 1000000) : lenok (nI n) = true := by
  unfold lenok
  rw [nI_clamp (by omega)]
  simp [nI_pos (show n < 2 ^ 31 by omega), h]
theorem al_D {ρ : Type} {S : Hs} {g : Hg} {K n : Nat} {k : Nat → Hs → Hg → Option (ρ × Hs × Hg × Nat × Nat)} : al S g K n k = tk 1 n (k (hpN S) (nwS S K n) (nwG S g)) := rfl
theorem tk_tk {ρ : Type} {k w k1 w1 : Nat} {o : Option (ρ × Hs × Hg × Nat × Nat)} : tk k w (tk k1 w1 o) = tk (k + k1) (w + w1) o := by
  match o with
  | none => rfl
  | some (r, S, g, c, s) =>
    show some (r, S, g, k + (k1 + c), w + (w1 + s)) = some (r, S, g, k + k1 + c, w + w1 + s)
    rw [Nat.add_assoc, Nat.add_assoc]
theorem tk_0 {ρ : Type} {o : Option (ρ × Hs × Hg × Nat × Nat)} : tk 0 0 o = o := by
  match o with
  | none => rfl
  | some (r, S, g, c, s) =>
    show some (r, S, g, 0 + c, 0 + s) = _
    rw [Nat.zero_add, Nat.zero_add]
def mkF (o : Nat) : List (Nat × Nat × Nat) → Hs → Hg → Hs × Hg
  | [], S, g => (S, g)
  | e :: l, S, g => mkF o l (nwS S e.2.1 e.2.2) (wrR (nwG S g) o e.1 (some (hpN S)))
def mkW : List (Nat × Nat × Nat) → Nat
  | [] => 0
  | e :: l => e.2.2 + mkW l
theorem wrR_rd (g : Hg) (a k b j : Nat) (v : Option Nat) : rdR (wrR g a k v) b j = if b = a ∧ j = k then v else rdR g b j := rfl
theorem wrR_mv {ad : Nat → Nat} (hI : Inj ad) {S : Hs} {g : Hg} {o k : Nat} {v : Option Nat} : Mv (fun r => r = o) ad S g ad S (wrR g (ad o) k v) := fun r hr => ⟨rfl, rfl, rfl, rfl, by
  funext j
  show (if ad r = ad o ∧ j = k then v else g.2.2 (ad r) j) = g.2.2 (ad r) j
  rw [if_neg (fun h => hr (hI _ _ h.1))]⟩
/-- a new cell for role r -/
theorem al_mv {B : Nat} {ad : Nat → Nat} {S : Hs} {g : Hg} (hA : AdOk B ad S) (hB : hpN S < B) (K n r : Nat) : Mv (fun q => q = r) ad S g (va_up ad r (hpN S)) (nwS S K n) (nwG S g) ∧ AdOk B (va_up ad r (hpN S)) (nwS S K n) ∧ hpL (nwS S K n) (hpN S) = n ∧ (∀ j, (nwG S g).1 (hpN S) j = 0) ∧ (∀ j, (nwG S g).2.1 (hpN S) j = 0) ∧ (∀ j, rdR (nwG S g) (hpN S) j = none) := by
  refine ⟨fun q hq => ?_, nw_adok hA hB K n r, ?_, fun j => ?_, fun j => ?_, fun j => ?_⟩
  · have hne : ad q ≠ S.1 := by
      have := hA.2 q
      unfold hpN at *
      omega
    refine ⟨va_ne _ _ hq, ?_, ?_, ?_, ?_⟩
    · show va_up S.2.2 S.1 n (ad q) = S.2.2 (ad q)
      exact va_ne _ _ hne
    · show va_up g.1 S.1 _ (ad q) = _
      exact va_ne _ _ hne
    · show va_up g.2.1 S.1 _ (ad q) = _
      exact va_ne _ _ hne
    · show va_up g.2.2 S.1 _ (ad q) = _
      exact va_ne _ _ hne
  · show va_up S.2.2 S.1 n S.1 = n
    exact va_same _ _ _
  · show va_up g.1 S.1 (fun _ => 0) S.1 j = 0
    rw [va_same]
  · show va_up g.2.1 S.1 (fun _ => 0) S.1 j = 0
    rw [va_same]
  · show va_up g.2.2 S.1 (fun _ => none) S.1 j = none
    rw [va_same]
/-- what is so behind mkF: the fields of l point to the roles ro, new rows of nought -/
def MkO (B : Nat) (ro : Nat → Nat) (o : Nat) (l : List (Nat × Nat × Nat)) (ad : Nat → Nat) (S : Hs) (g : Hg) (ad1 : Nat → Nat) (S1 : Hs) (g1 : Hg) : Prop :=
  Mv (fun r => r = o ∨ ∃ e, e ∈ l ∧ r = ro e.1) ad S g ad1 S1 g1 ∧ AdOk B ad1 S1 ∧ ad1 o = ad o ∧ hpN S1 = hpN S + l.length ∧
  (g1.1 (ad o) = g.1 (ad o) ∧ g1.2.1 (ad o) = g.2.1 (ad o) ∧ hpL S1 (ad o) = hpL S (ad o) ∧ ∀ k, (∀ e, e ∈ l → e.1 ≠ k) → rdR g1 (ad o) k = rdR g (ad o) k) ∧
  ∀ e, e ∈ l → rdR g1 (ad o) e.1 = some (ad1 (ro e.1)) ∧ hpL S1 (ad1 (ro e.1)) = e.2.2 ∧ (∀ j, g1.1 (ad1 (ro e.1)) j = 0) ∧ (∀ j, g1.2.1 (ad1 (ro e.1)) j = 0) ∧ (∀ j, rdR g1 (ad1 (ro e.1)) j = none)
theorem mkF_ok {B : Nat} (ro : Nat → Nat) (o : Nat) : ∀ (l : List (Nat × Nat × Nat)) (ad : Nat → Nat) (S : Hs) (g : Hg), AdOk B ad S → hpN S + l.length < B → (l.map (fun e => e.1)).Nodup → (∀ e, e ∈ l → ro e.1 ≠ o) → (∀ e e1, e ∈ l → e1 ∈ l → ro e.1 = ro e1.1 → e.1 = e1.1) → ad o < hpN S →
    ∃ ad1, MkO B ro o l ad S g ad1 (mkF (ad o) l S g).1 (mkF (ad o) l S g).2
  | [], ad, S, g, hA, _, _, _, _, _ => ⟨ad, Mv.rf, hA, rfl, rfl, ⟨rfl, rfl, rfl, fun _ _ => rfl⟩, fun e he => absurd he (by simp)⟩
  | e :: l, ad, S, g, hA, hB, hn, ho, hr, h0 => by
    have hB1 : hpN S < B := by simp only [List.length_cons] at hB; omega
    obtain ⟨m1, m2, m3, m4, m5, m6⟩ := al_mv (g := g) hA hB1 e.2.1 e.2.2 (ro e.1)
    have hro : ro e.1 ≠ o := ho e (by simp)
    have eo : va_up ad (ro e.1) (hpN S) o = ad o := va_ne _ _ (Ne.symm hro)
    have er : va_up ad (ro e.1) (hpN S) (ro e.1) = hpN S := va_same _ _ _
    have hI1 := m2.1
    have hw : Mv (fun r => r = o) (va_up ad (ro e.1) (hpN S)) (nwS S e.2.1 e.2.2) (nwG S g) (va_up ad (ro e.1) (hpN S)) (nwS S e.2.1 e.2.2) (wrR (nwG S g) (ad o) e.1 (some (hpN S))) := by
      have := wrR_mv hI1 (S := nwS S e.2.1 e.2.2) (g := nwG S g) (o := o) (k := e.1) (v := some (hpN S))
      rw [eo] at this
      exact this
    have hnd := List.nodup_cons.mp hn
    obtain ⟨ad1, h⟩ := mkF_ok ro o l (va_up ad (ro e.1) (hpN S)) (nwS S e.2.1 e.2.2) (wrR (nwG S g) (ad o) e.1 (some (hpN S))) m2 (by
      simp only [List.length_cons] at hB
      show hpN S + 1 + l.length < B
      omega) hnd.2 (fun e1 h1 => ho e1 (List.mem_cons_of_mem _ h1)) (fun e1 e2 h1 h2 => hr e1 e2 (List.mem_cons_of_mem _ h1) (List.mem_cons_of_mem _ h2)) (by rw [eo]; show ad o < hpN S + 1; omega)
    rw [eo] at h
    refine ⟨ad1, ?_⟩
    show MkO B ro o (e :: l) ad S g ad1 (mkF (ad o) l (nwS S e.2.1 e.2.2) (wrR (nwG S g) (ad o) e.1 (some (hpN S)))).1 (mkF (ad o) l (nwS S e.2.1 e.2.2) (wrR (nwG S g) (ad o) e.1 (some (hpN S)))).2
    generalize hSF : mkF (ad o) l (nwS S e.2.1 e.2.2) (wrR (nwG S g) (ad o) e.1 (some (hpN S))) = SF at *
    obtain ⟨q1, q2, q3, q4, ⟨q5, q6, q7, q8⟩, q9⟩ := h
    rw [eo] at q3 q5 q6 q7 q8 q9
    have hnot : ¬ (ro e.1 = o ∨ ∃ e1, e1 ∈ l ∧ ro e.1 = ro e1.1) := by
      intro h
      rcases h with h | ⟨e1, h1, h2⟩
      · exact hro h
      · have := hr e e1 (by simp) (List.mem_cons_of_mem _ h1) h2
        exact hnd.1 (by show e.1 ∈ _; rw [this]; exact List.mem_map_of_mem h1)
    have hno : ad o ≠ hpN S := by omega
    have mo := m1 o (Ne.symm hro)
    refine ⟨?_, q2, q3, ?_, ⟨?_, ?_, ?_, fun k hk => ?_⟩, fun e1 he1 => ?_⟩
    · have a1 : Mv (fun r => r = o ∨ ∃ e1, e1 ∈ e :: l ∧ r = ro e1.1) ad S g (va_up ad (ro e.1) (hpN S)) (nwS S e.2.1 e.2.2) (nwG S g) := m1.mono (fun r h => Or.inr ⟨e, by simp, h⟩)
      have a2 : Mv (fun r => r = o ∨ ∃ e1, e1 ∈ e :: l ∧ r = ro e1.1) (va_up ad (ro e.1) (hpN S)) (nwS S e.2.1 e.2.2) (nwG S g) (va_up ad (ro e.1) (hpN S)) (nwS S e.2.1 e.2.2) (wrR (nwG S g) (ad o) e.1 (some (hpN S))) := hw.mono (fun r h => Or.inl h)
      have a3 : Mv (fun r => r = o ∨ ∃ e1, e1 ∈ e :: l ∧ r = ro e1.1) (va_up ad (ro e.1) (hpN S)) (nwS S e.2.1 e.2.2) (wrR (nwG S g) (ad o) e.1 (some (hpN S))) ad1 SF.1 SF.2 := q1.mono (fun r h => h.imp id (fun ⟨e1, h1, h2⟩ => ⟨e1, List.mem_cons_of_mem _ h1, h2⟩))
      exact (a1.tr a2).tr a3
    · rw [q4]
      show hpN S + 1 + l.length = hpN S + (e :: l).length
      simp only [List.length_cons]
      omega
    · rw [q5]; exact mo.2.2.1
    · rw [q6]; exact mo.2.2.2.1
    · rw [q7]; exact mo.2.1
    · rw [q8 k (fun e1 h1 => hk e1 (List.mem_cons_of_mem _ h1)), wrR_rd, if_neg (fun h => hk e (by simp) h.2.symm)]
      show (nwG S g).2.2 (ad o) k = g.2.2 (ad o) k
      rw [mo.2.2.2.2]
    · rcases List.mem_cons.mp he1 with h1 | h1
      · subst h1
        obtain ⟨z1, z2, z3, z4, z5⟩ := q1 (ro e1.1) hnot
        rw [er] at z1 z2 z3 z4 z5
        rw [z1]
        refine ⟨?_, ?_, fun j => ?_, fun j => ?_, fun j => ?_⟩
        · rw [q8 e1.1 (fun e2 h2 h3 => hnd.1 (by show e1.1 ∈ _; rw [← h3]; exact List.mem_map_of_mem h2)), wrR_rd, if_pos ⟨rfl, rfl⟩]
        · rw [z2]; exact m3
        · rw [z3]; exact m4 j
        · rw [z4]; exact m5 j
        · show SF.2.2.2 (hpN S) j = none
          rw [z5]
          show rdR (wrR (nwG S g) (ad o) e1.1 (some (hpN S))) (hpN S) j = none
          rw [wrR_rd, if_neg (fun h => hno h.1.symm)]
          exact m6 j
      · exact q9 e1 h1
/-- an object with such fields, new at role o -/
theorem mkO_new {B : Nat} (ro : Nat → Nat) (o K n : Nat) (l : List (Nat × Nat × Nat)) {ad : Nat → Nat} {S : Hs} {g : Hg} (hA : AdOk B ad S) (hB : hpN S + 1 + l.length < B) (hn : (l.map (fun e => e.1)).Nodup) (ho : ∀ e, e ∈ l → ro e.1 ≠ o) (hr : ∀ e e1, e ∈ l → e1 ∈ l → ro e.1 = ro e1.1 → e.1 = e1.1) :
    ∃ ad1, ad1 o = hpN S ∧ Mv (fun r => r = o ∨ ∃ e, e ∈ l ∧ r = ro e.1) ad S g ad1 (mkF (hpN S) l (nwS S K n) (nwG S g)).1 (mkF (hpN S) l (nwS S K n) (nwG S g)).2 ∧ MkO B ro o l (va_up ad o (hpN S)) (nwS S K n) (nwG S g) ad1 (mkF (hpN S) l (nwS S K n) (nwG S g)).1 (mkF (hpN S) l (nwS S K n) (nwG S g)).2 ∧ (∀ j, (mkF (hpN S) l (nwS S K n) (nwG S g)).2.1 (hpN S) j = 0) ∧ hpN (mkF (hpN S) l (nwS S K n) (nwG S g)).1 = hpN S + 1 + l.length := by
  obtain ⟨m1, m2, m3, m4, m5, m6⟩ := al_mv (g := g) hA (show hpN S < B by omega) K n o
  have eo : va_up ad o (hpN S) o = hpN S := va_same _ _ _
  obtain ⟨ad1, h⟩ := mkF_ok ro o l (va_up ad o (hpN S)) (nwS S K n) (nwG S g) m2 hB hn ho hr (by rw [eo]; show hpN S < hpN S + 1; omega)
  rw [eo] at h
  have h' := h
  obtain ⟨q1, q2, q3, q4, ⟨q5, _, _, _⟩, _⟩ := h
  rw [eo] at q3 q5
  exact ⟨ad1, q3, (m1.mono (fun r h => Or.inl h)).tr q1, h', fun j => by rw [q5]; exact m4 j, q4⟩
/-! the makers, as mkF -/
theorem i_X0 {N : Nat} {S : Hs} {g : Hg} {a : Nat} : f_X0_init N S g a = some ((), (mkF a [(0, 20, 8), (1, 20, 8), (2, 20, 8)] S g).1, (mkF a [(0, 20, 8), (1, 20, 8), (2, 20, 8)] S g).2, 3, 24) := by
  show b_X0_init_0 N S g a = _
  unfold b_X0_init_0
  simp (disch := decide) only [lit, lenok_nI, ck_T, al_D, nm_D, nI_clamp, tk_S]
  rfl
theorem i_X7 {N : Nat} {S : Hs} {g : Hg} {a : Nat} : f_X7_init N S g a = some ((), (mkF a [(0, 20, 40), (1, 21, 40), (2, 20, 128)] S g).1, (mkF a [(0, 20, 40), (1, 21, 40), (2, 20, 128)] S g).2, 3, 208) := by
  show b_X7_init_0 N S g a = _
  unfold b_X7_init_0
  simp (disch := decide) only [lit, lenok_nI, ck_T, al_D, nm_D, nI_clamp, tk_S]
  rfl
theorem i_X10 {N : Nat} {S : Hs} {g : Hg} {a : Nat} : f_X10_init N S g a = some ((), (mkF a [(0, 20, 400)] S g).1, (mkF a [(0, 20, 400)] S g).2, 1, 400) := by
  show b_X10_init_0 N S g a = _
  unfold b_X10_init_0
  simp (disch := decide) only [lit, lenok_nI, ck_T, al_D, nm_D, nI_clamp, tk_S]
  rfl
theorem i_X2 {N : Nat} {S : Hs} {g : Hg} {a : Nat} : f_X2_init N S g a = some ((), (mkF a [(0, 20, 400), (1, 20, 3200), (2, 20, 400)] S g).1, (mkF a [(0, 20, 400), (1, 20, 3200), (2, 20, 400)] S g).2, 3, 4000) := by
  show b_X2_init_0 N S g a = _
  unfold b_X2_init_0
  simp (disch := decide) only [lit, lenok_nI, ck_T, al_D, nm_D, nI_clamp, tk_S]
  rfl
theorem i_X5 {N : Nat} {S : Hs} {g : Hg} {a : Nat} : f_X5_init N S g a = some ((), (mkF a [(0, 20, 100), (1, 20, 100), (2, 22, 100)] S g).1, (mkF a [(0, 20, 100), (1, 20, 100), (2, 22, 100)] S g).2, 3, 300) := by
  show b_X5_init_0 N S g a = _
  unfold b_X5_init_0
  simp (disch := decide) only [lit, lenok_nI, ck_T, al_D, nm_D, nI_clamp, tk_S]
  rfl
theorem i_X6 {N : Nat} {S : Hs} {g : Hg} {a : Nat} : f_X6_init N S g a = some ((), (mkF a [(0, 20, 20), (1, 20, 8)] S g).1, (mkF a [(0, 20, 20), (1, 20, 8)] S g).2, 2, 28) := by
  show b_X6_init_0 N S g a = _
  unfold b_X6_init_0
  simp (disch := decide) only [lit, lenok_nI, ck_T, al_D, nm_D, nI_clamp, tk_S]
  rfl
/-- a new HEAD at role p -/
theorem c_newHead {B : Nat} {S : Hs} {g : Hg} {ad : Nat → Nat} (N p : Nat) (hA : AdOk B ad S) (hB : hpN S + 4 < B) :
    ∃ ad1 S1 g1, (∀ {ρ : Type} (k : Nat → Hs → Hg → Option (ρ × Hs × Hg × Nat × Nat)), al S g 0 7 (fun a S_2 g_3 => c5 (f_X0_init N S_2 g_3 a) (fun _ S_10 g_8 => k a S_10 g_8)) = tk 4 31 (k (ad1 p) S1 g1)) ∧ Mv (fun r => p ≤ r ∧ r < p + 4) ad S g ad1 S1 g1 ∧ AdOk B ad1 S1 ∧ hpN S1 = hpN S + 4 ∧ HdP S1 g1 ad1 p ∧ g1.1 (ad1 p) 3 = nI 0 := by
  obtain ⟨ad1, a1, a2, a3, a4, a5⟩ := mkO_new (fun k => p + 1 + k) p 0 7 [(0, 20, 8), (1, 20, 8), (2, 20, 8)] (g := g) hA (by show hpN S + 1 + 3 < B; omega) (by decide) (fun e _ => by show p + 1 + e.1 ≠ p; omega) (fun e e1 _ _ h => by have h : p + 1 + e.1 = p + 1 + e1.1 := h; omega)
  have i0 := fun {S : Hs} {g : Hg} {a : Nat} => i_X0 (N := N) (S := S) (g := g) (a := a)
  generalize hSF : mkF (hpN S) [(0, 20, 8), (1, 20, 8), (2, 20, 8)] (nwS S 0 7) (nwG S g) = SF at *
  obtain ⟨q1, q2, q3, q4, q5, q9⟩ := a3
  rw [va_same] at q9
  refine ⟨ad1, SF.1, SF.2, fun k => ?_, a2.mono (fun r h => ?_), q2, a5, ?_, ?_⟩
  · rw [al_D, i0, hSF, c5_S, tk_tk, a1]
  · rcases h with h | ⟨e, h1, h2⟩
    · omega
    · simp only [List.mem_cons, List.not_mem_nil, or_false] at h1
      have h2 : r = p + 1 + e.1 := h2
      rcases h1 with h1 | h1 | h1 <;> subst h1 <;> simp only at h2 <;> omega
  · have e0 := q9 (0, 20, 8) (by simp)
    have e1 := q9 (1, 20, 8) (by simp)
    have e2 := q9 (2, 20, 8) (by simp)
    rw [← a1] at e0 e1 e2
    exact ⟨e0.1, e1.1, e2.1, e0.2.1, e1.2.1, e2.2.1⟩
  · rw [a1]; exact a4 3
/-- a new PROOF at role p -/
theorem c_newProof {B : Nat} {S : Hs} {g : Hg} {ad : Nat → Nat} (N p : Nat) (hA : AdOk B ad S) (hB : hpN S + 4 < B) :
    ∃ ad1 S1 g1, (∀ {ρ : Type} (k : Nat → Hs → Hg → Option (ρ × Hs × Hg × Nat × Nat)), al S g 7 12 (fun a S_2 g_3 => c5 (f_X7_init N S_2 g_3 a) (fun _ S_10 g_8 => k a S_10 g_8)) = tk 4 220 (k (ad1 p) S1 g1)) ∧ Mv (fun r => p ≤ r ∧ r < p + 4) ad S g ad1 S1 g1 ∧ AdOk B ad1 S1 ∧ hpN S1 = hpN S + 4 ∧ PfO S1 g1 ad1 p (begX 0 0 0) ∧ hpL S1 (ad1 (p + 3)) = 128 := by
  obtain ⟨ad1, a1, a2, a3, a4, a5⟩ := mkO_new (fun k => p + 1 + k) p 7 12 [(0, 20, 40), (1, 21, 40), (2, 20, 128)] (g := g) hA (by show hpN S + 1 + 3 < B; omega) (by decide) (fun e _ => by show p + 1 + e.1 ≠ p; omega) (fun e e1 _ _ h => by have h : p + 1 + e.1 = p + 1 + e1.1 := h; omega)
  have i0 := fun {S : Hs} {g : Hg} {a : Nat} => i_X7 (N := N) (S := S) (g := g) (a := a)
  generalize hSF : mkF (hpN S) [(0, 20, 40), (1, 21, 40), (2, 20, 128)] (nwS S 7 12) (nwG S g) = SF at *
  obtain ⟨q1, q2, q3, q4, q5, q9⟩ := a3
  rw [va_same] at q9
  have e0 := q9 (0, 20, 40) (by simp)
  have e1 := q9 (1, 21, 40) (by simp)
  have e2 := q9 (2, 20, 128) (by simp)
  rw [← a1] at e0 e1 e2
  have hz : ∀ j, SF.2.1 (ad1 p) j = 0 := fun j => by rw [a1]; exact a4 j
  refine ⟨ad1, SF.1, SF.2, fun k => ?_, a2.mono (fun r h => ?_), q2, a5, ⟨⟨e0.1, e1.1, e2.1, e0.2.1, e1.2.1, 0, by decide, e2.2.1⟩, ⟨⟨hz 3, hz 4, hz 5, hz 6, hz 7, hz 8, hz 9, hz 10, hz 11⟩, fun i hi => absurd hi (by show ¬ i < 0; omega), fun i hi => absurd hi (by show ¬ i < 0; omega)⟩, Nat.zero_le _⟩, e2.2.1⟩
  · rw [al_D, i0, hSF, c5_S, tk_tk, a1]
  · rcases h with h | ⟨e, h1, h2⟩
    · omega
    · simp only [List.mem_cons, List.not_mem_nil, or_false] at h1
      have h2 : r = p + 1 + e.1 := h2
      rcases h1 with h1 | h1 | h1 <;> subst h1 <;> simp only at h2 <;> omega
/-- a new watcher at role p -/
theorem c_newWatcher {B : Nat} {S : Hs} {g : Hg} {ad : Nat → Nat} (N p : Nat) (hA : AdOk B ad S) (hB : hpN S + 2 < B) :
    ∃ ad1 S1 g1, (∀ {ρ : Type} (k : Nat → Hs → Hg → Option (ρ × Hs × Hg × Nat × Nat)), al S g 10 7 (fun a S_2 g_3 => c5 (f_X10_init N S_2 g_3 a) (fun _ S_10 g_8 => k a S_10 g_8)) = tk 2 407 (k (ad1 p) S1 g1)) ∧ Mv (fun r => p ≤ r ∧ r < p + 2) ad S g ad1 S1 g1 ∧ AdOk B ad1 S1 ∧ hpN S1 = hpN S + 2 ∧ WtP S1 g1 ad1 p ∧ g1.1 (ad1 p) 1 = nI 0 := by
  obtain ⟨ad1, a1, a2, a3, a4, a5⟩ := mkO_new (fun k => p + 1 + k) p 10 7 [(0, 20, 400)] (g := g) hA (by show hpN S + 1 + 1 < B; omega) (by decide) (fun e _ => by show p + 1 + e.1 ≠ p; omega) (fun e e1 _ _ h => by have h : p + 1 + e.1 = p + 1 + e1.1 := h; omega)
  have i0 := fun {S : Hs} {g : Hg} {a : Nat} => i_X10 (N := N) (S := S) (g := g) (a := a)
  generalize hSF : mkF (hpN S) [(0, 20, 400)] (nwS S 10 7) (nwG S g) = SF at *
  obtain ⟨q1, q2, q3, q4, q5, q9⟩ := a3
  rw [va_same] at q9
  have e0 := q9 (0, 20, 400) (by simp)
  rw [← a1] at e0
  refine ⟨ad1, SF.1, SF.2, fun k => ?_, a2.mono (fun r h => ?_), q2, a5, ⟨e0.1, e0.2.1⟩, by rw [a1]; exact a4 1⟩
  · rw [al_D, i0, hSF, c5_S, tk_tk, a1]
  · rcases h with h | ⟨e, h1, h2⟩
    · omega
    · simp only [List.mem_cons, List.not_mem_nil, or_false] at h1
      have h2 : r = p + 1 + e.1 := h2
      subst h1
      simp only at h2
      omega
