/-! memory as the program sees it: S = (next address, kind of each address, length of each array), g = (ints, longs, references) by address and place -/
abbrev Hs : Type := Nat × (Nat → Nat) × (Nat → Nat)
abbrev Hg : Type := (Nat → Nat → Int32) × (Nat → Nat → Int64) × (Nat → Nat → Option Nat)
def hpN (S : Hs) : Nat := S.1
def hpK (S : Hs) (a : Nat) : Nat := S.2.1 a
def hpL (S : Hs) (a : Nat) : Nat := S.2.2 a
def rdI (g : Hg) (a j : Nat) : Int32 := g.1 a j
def rdL (g : Hg) (a j : Nat) : Int64 := g.2.1 a j
def rdR (g : Hg) (a j : Nat) : Option Nat := g.2.2 a j
def up2 {α : Type} (f : Nat → Nat → α) (a j : Nat) (x : α) : Nat → Nat → α := fun b k => if b = a ∧ k = j then x else f b k
def wrI (g : Hg) (a j : Nat) (x : Int32) : Hg := (up2 g.1 a j x, g.2.1, g.2.2)
def wrL (g : Hg) (a j : Nat) (x : Int64) : Hg := (g.1, up2 g.2.1 a j x, g.2.2)
def wrR (g : Hg) (a j : Nat) (x : Option Nat) : Hg := (g.1, g.2.1, up2 g.2.2 a j x)
def cpI (g : Hg) (a sp b dp n : Nat) : Hg := (va_up g.1 b (va_cpy (g.1 a) (g.1 b) sp dp n), g.2.1, g.2.2)
def cpL (g : Hg) (a sp b dp n : Nat) : Hg := (g.1, va_up g.2.1 b (va_cpy (g.2.1 a) (g.2.1 b) sp dp n), g.2.2)
def nwS (S : Hs) (k n : Nat) : Hs := (S.1 + 1, va_up S.2.1 S.1 k, va_up S.2.2 S.1 n)
def nwG (S : Hs) (g : Hg) : Hg := (va_up g.1 S.1 (fun _ => 0), va_up g.2.1 S.1 (fun _ => 0), va_up g.2.2 S.1 (fun _ => none))
def rkT : List (List Nat) := [[21, 21, 21, 0, 0, 0, 0], [24, 0, 25, 26, 21, 26, 26, 0, 27], [21, 21, 21, 0], [3, 6, 21, 21, 22, 21, 0, 0, 21, 0], [7, 21, 21, 21, 21, 0], [21, 21, 23, 0], [21, 21], [21, 22, 21, 0, 0, 0, 0, 0, 0, 0, 0, 0], [7, 5, 10, 21, 21], [7, 21, 21, 21, 0], [21, 0, 0, 0, 0, 0, 0], [7, 5, 9, 2, 1, 8, 2], [21, 0, 21, 22, 23, 23, 21, 21, 23, 21, 21, 22, 21, 21, 23, 21, 0, 21, 23, 21, 21, 0, 21, 0, 21, 22, 23, 23, 21, 21, 23, 21, 21, 22, 21, 21, 23, 21, 0, 21, 23, 21, 21, 21, 21, 21, 21, 21, 21, 0, 21, 21, 21, 21, 21, 21, 21, 0, 21, 21, 21, 21, 0, 0, 21, 21]]
def nfT : List Nat := [7, 9, 4, 10, 6, 4, 2, 12, 5, 5, 7, 7, 66]
def rk (K k : Nat) : Nat := if K = 23 then 4 else if K = 24 then 8 else if K = 25 then 1 else if K = 26 then 11 else (rkT.getD K []).getD k 0
def nf (K : Nat) : Nat := nfT.getD K 0
def fvX (S : Hs) (g : Hg) (a k : Nat) : Value := if rk (hpK S a) k = 0 then .int (rdI g a k) else va_rf (rdR g a k)
def evX (S : Hs) (g : Hg) (a j : Nat) : Value := if hpK S a = 21 then .long (rdL g a j) else if 23 ≤ hpK S a then va_rf (rdR g a j) else .int (rdI g a j)
def cellX (D : va_G) (cA : Nat → ClassId) (S : Hs) (g : Hg) (a : Nat) (H : Heap) : Prop :=
  (hpK S a < 13 → t_OB a (D.1 (hpK S a)) (nf (hpK S a)) (D.2 (hpK S a)) H (fvX S g a)) ∧ (13 ≤ hpK S a → H[a]? = some (arrV (cA (hpK S a)) (hpL S a) (evX S g a)))
theorem cellX.kept {D : va_G} {cA : Nat → ClassId} {S S1 : Hs} {g g1 : Hg} {a : Nat} {H H1 : Heap} (h : cellX D cA S g a H) (hq : H1[a]? = H[a]?) (e1 : hpK S1 a = hpK S a) (e2 : hpL S1 a = hpL S a) (e3 : ∀ k, rdI g1 a k = rdI g a k) (e4 : ∀ k, rdL g1 a k = rdL g a k) (e5 : ∀ k, rdR g1 a k = rdR g a k) : cellX D cA S1 g1 a H1 := by
  have f1 : fvX S1 g1 a = fvX S g a := by funext k; simp only [fvX, e1, e3, e5]
  have f2 : evX S1 g1 a = evX S g a := by funext k; simp only [evX, e1, e3, e4, e5]
  refine ⟨fun hk => ?_, fun hk => ?_⟩
  · rw [f1]
    rw [e1] at hk ⊢
    exact (h.1 hk).kept hq
  · rw [f2, e2, hq]
    rw [e1] at hk ⊢
    exact h.2 hk
def Hold (D : va_G) (cA : Nat → ClassId) (lo : Nat) (S : Hs) (g : Hg) (H : Heap) : Prop := lo ≤ hpN S ∧ H.size = hpN S ∧ ∀ a, lo ≤ a → a < hpN S → cellX D cA S g a H
def Okk (lo : Nat) (S : Hs) (g : Hg) : Prop := ∀ a j b, lo ≤ a → a < hpN S → rdR g a j = some b → lo ≤ b ∧ b < hpN S ∧ hpK S b + 1 = rk (hpK S a) j
def Rf (lo : Nat) (S : Hs) (a K : Nat) : Prop := lo ≤ a ∧ a < hpN S ∧ hpK S a = K
def Ro (lo : Nat) (S : Hs) (v : Option Nat) (K : Nat) : Prop := ∀ b, v = some b → Rf lo S b K
def Ext (lo : Nat) (S S1 : Hs) : Prop := hpN S ≤ hpN S1 ∧ ∀ a, lo ≤ a → a < hpN S → hpK S1 a = hpK S a
theorem Ext.rf {lo : Nat} {S : Hs} : Ext lo S S := ⟨Nat.le_refl _, fun _ _ _ => rfl⟩
theorem Ext.tr {lo : Nat} {S S1 S2 : Hs} (h : Ext lo S S1) (h1 : Ext lo S1 S2) : Ext lo S S2 := ⟨Nat.le_trans h.1 h1.1, fun a h2 h3 => (h1.2 a h2 (Nat.lt_of_lt_of_le h3 h.1)).trans (h.2 a h2 h3)⟩
theorem Ext.nw {lo : Nat} {S : Hs} (k n : Nat) : Ext lo S (nwS S k n) := ⟨Nat.le_succ _, fun a _ h => by
  show va_up S.2.1 S.1 k a = S.2.1 a
  simp [va_up, Nat.ne_of_lt (show a < S.1 from h)]⟩
theorem Rf.ext {lo : Nat} {S S1 : Hs} {a K : Nat} (h : Rf lo S a K) (hE : Ext lo S S1) : Rf lo S1 a K := ⟨h.1, Nat.lt_of_lt_of_le h.2.1 hE.1, (hE.2 a h.1 h.2.1).trans h.2.2⟩
theorem Ro.ext {lo : Nat} {S S1 : Hs} {v : Option Nat} {K : Nat} (h : Ro lo S v K) (hE : Ext lo S S1) : Ro lo S1 v K := fun b e => (h b e).ext hE
theorem Rf.new {lo : Nat} {S : Hs} (h : lo ≤ hpN S) (k n : Nat) : Rf lo (nwS S k n) (hpN S) k := ⟨h, Nat.lt_succ_self _, by show va_up S.2.1 S.1 k S.1 = k; simp [va_up]⟩
theorem Rf.ro {lo : Nat} {S : Hs} {a K : Nat} (h : Rf lo S a K) : Ro lo S (some a) K := fun b e => by cases e; exact h
theorem Ro.none {lo : Nat} {S : Hs} {K : Nat} : Ro lo S none K := fun b e => by cases e
theorem Okk.ro {lo : Nat} {S : Hs} {g : Hg} {a ci k K : Nat} (h : Okk lo S g) (r : Rf lo S a ci) (hr : rk ci k = K + 1) : Ro lo S (rdR g a k) K := fun b e => by
  obtain ⟨h1, h2, h3⟩ := h a k b r.1 r.2.1 e
  rw [r.2.2, hr] at h3
  exact ⟨h1, h2, Nat.succ.inj h3⟩
theorem Okk.wrI {lo : Nat} {S : Hs} {g : Hg} (h : Okk lo S g) (a j : Nat) (x : Int32) : Okk lo S (wrI g a j x) := h
theorem Okk.wrL {lo : Nat} {S : Hs} {g : Hg} (h : Okk lo S g) (a j : Nat) (x : Int64) : Okk lo S (wrL g a j x) := h
theorem Okk.wrR {lo : Nat} {S : Hs} {g : Hg} (h : Okk lo S g) {a j ci K : Nat} {x : Option Nat} (r : Rf lo S a ci) (hr : rk ci j = K + 1) (hx : Ro lo S x K) : Okk lo S (wrR g a j x) := by
  intro b k q h1 h2 h3
  have h4 : (if b = a ∧ k = j then x else g.2.2 b k) = some q := h3
  by_cases hc : b = a ∧ k = j
  · rw [if_pos hc] at h4
    obtain ⟨u1, u2, u3⟩ := hx q h4
    rw [hc.1, hc.2]
    exact ⟨u1, u2, by rw [u3, r.2.2, hr]⟩
  · rw [if_neg hc] at h4
    exact h b k q h1 h2 h4
theorem Okk.nw {lo : Nat} {S : Hs} {g : Hg} (h : Okk lo S g) (k n : Nat) : Okk lo (nwS S k n) (nwG S g) := by
  intro b j q h1 h2 h3
  by_cases hb : b = S.1
  · simp [rdR, nwG, va_up, hb] at h3
  · have h3 : rdR g b j = some q := by simpa [rdR, nwG, va_up, hb] using h3
    have hlt : b < hpN S := by
      have : b < S.1 + 1 := h2
      show b < S.1
      omega
    obtain ⟨u1, u2, u3⟩ := h b j q h1 hlt h3
    have e := (Ext.nw (lo := lo) (S := S) k n).2
    exact ⟨u1, Nat.lt_succ_of_lt u2, by rw [e q u1 u2, e b h1 hlt]; exact u3⟩
def Mm (D : va_G) (cA : Nat → ClassId) (lo : Nat) (S : Hs) (g : Hg) (s : State) (H : Heap) (locs : List Loc) : Prop := Hold D cA lo S g H ∧ Okk lo S g ∧ va_S (fun q : Nat => lo ≤ q) s.heap H locs
theorem Mm.one {D : va_G} {cA : Nat → ClassId} {lo : Nat} {S : Hs} {g g1 : Hg} {s : State} {H H1 : Heap} {locs L : List Loc} {a : Nat} (M : Mm D cA lo S g s H locs) (ha : lo ≤ a) (hL : ∀ q ∈ L, q.base = a) (z : H1.size = H.size) (oq : ∀ q : Nat, q ≠ a → H1[q]? = H[q]?) (hc : cellX D cA S g1 a H1)
    (e3 : ∀ b, b ≠ a → ∀ k, rdI g1 b k = rdI g b k) (e4 : ∀ b, b ≠ a → ∀ k, rdL g1 b k = rdL g b k) (e5 : ∀ b, b ≠ a → ∀ k, rdR g1 b k = rdR g b k) (ho : Okk lo S g1) : Mm D cA lo S g1 s H1 (locs ++ L) := by
  obtain ⟨⟨h0, h1, h2⟩, -, hS⟩ := M
  refine ⟨⟨h0, z.trans h1, fun b hb hn => ?_⟩, ho, ⟨by rw [z]; exact hS.1, fun q g1 g2 => ?_, fun q hq => ?_⟩⟩
  · by_cases hba : b = a
    · subst hba
      exact hc
    · exact (h2 b hb hn).kept (oq b hba) rfl rfl (e3 b hba) (e4 b hba) (e5 b hba)
  · rw [oq q (fun e => g2 (by rw [e]; exact ha))]
    exact hS.2.1 q g1 g2
  · rcases List.mem_append.mp hq with h | h
    · exact hS.2.2 q h
    · show lo ≤ q.base
      rw [hL q h]
      exact ha
theorem Mm.born {D : va_G} {cA : Nat → ClassId} {lo : Nat} {S : Hs} {g : Hg} {s : State} {H H1 : Heap} {locs : List Loc} (M : Mm D cA lo S g s H locs) (k n : Nat) (z : H1.size = H.size + 1) (oq : ∀ q : Nat, q < H.size → H1[q]? = H[q]?) (hc : cellX D cA (nwS S k n) (nwG S g) (hpN S) H1) : Mm D cA lo (nwS S k n) (nwG S g) s H1 locs := by
  obtain ⟨⟨h0, h1, h2⟩, h3, hS⟩ := M
  refine ⟨⟨Nat.le_succ_of_le h0, by rw [z, h1]; rfl, fun b hb hn => ?_⟩, h3.nw k n, ⟨Nat.le_trans hS.1 (by omega), fun q g1 g2 => (oq q (Nat.lt_of_lt_of_le g1 hS.1)).trans (hS.2.1 q g1 g2), hS.2.2⟩⟩
  by_cases hba : b = hpN S
  · subst hba
    exact hc
  · have hlt : b < hpN S := by
      have : b < hpN S + 1 := hn
      omega
    have hne : b ≠ S.1 := hba
    exact (h2 b hb hlt).kept (oq b (by omega)) (by simp [hpK, nwS, va_up, hne]) (by simp [hpL, nwS, va_up, hne]) (fun j => by simp [rdI, nwG, va_up, hne]) (fun j => by simp [rdL, nwG, va_up, hne]) (fun j => by simp [rdR, nwG, va_up, hne])
