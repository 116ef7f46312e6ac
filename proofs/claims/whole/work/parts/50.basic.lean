/-! PHASE 2: the functions, read as mathematics -/
def rowI (g : Hg) (a : Nat) (r : Nat → Int32) : Hg := (va_up g.1 a r, g.2)
def rowL (g : Hg) (a : Nat) (r : Nat → Int64) : Hg := (g.1, va_up g.2.1 a r, g.2.2)
theorem nn_S {α : Type} {b : Nat} {k : Nat → Option α} : nn (some b) k = k b := rfl
theorem nm_D {α β : Type} {x : β} {k : β → Option α} : nm x k = k x := rfl
theorem ck_T {α : Type} {k : Option α} : ck true k = k := rfl
theorem on_N {α : Type} {A : α} {B : Nat → α} : on none A B = A := rfl
theorem on_S {α : Type} {b : Nat} {A : α} {B : Nat → α} : on (some b) A B = B b := rfl
theorem c2_S {α ρ : Type} {r : ρ} {g : Hg} {k : ρ → Hg → Option α} : c2 (some (r, g)) k = k r g := rfl
theorem wrI_row (g : Hg) (a j : Nat) (x : Int32) : wrI g a j x = rowI g a (upd (g.1 a) j x) := by
  unfold wrI rowI
  congr 1
  funext b k
  by_cases hb : b = a
  · subst hb
    by_cases hk : k = j <;> simp [up2, va_up, upd, hk]
  · simp [up2, va_up, hb]
theorem cpI_row (g : Hg) (a sp b dp n : Nat) : cpI g a sp b dp n = rowI g b (va_cpy (g.1 a) (g.1 b) sp dp n) := rfl
theorem rowI_same (g : Hg) (a : Nat) (r : Nat → Int32) : (rowI g a r).1 a = r := by simp [rowI, va_up]
theorem rowI_ne (g : Hg) {a b : Nat} (r : Nat → Int32) (h : b ≠ a) : (rowI g a r).1 b = g.1 b := by simp [rowI, va_up, h]
theorem rowI_rowI (g : Hg) (a : Nat) (r q : Nat → Int32) : rowI (rowI g a r) a q = rowI g a q := by
  unfold rowI
  congr 1
  funext b
  by_cases hb : b = a <;> simp [va_up, hb]
theorem rowI_self (g : Hg) (a : Nat) : rowI g a (g.1 a) = g := by
  unfold rowI
  have : va_up g.1 a (g.1 a) = g.1 := by
    funext b
    by_cases hb : b = a
    · subst hb; simp [va_up]
    · simp [va_up, hb]
  rw [this]
theorem rdR_rowI (g : Hg) (a b k : Nat) (r : Nat → Int32) : rdR (rowI g a r) b k = rdR g b k := id rfl
theorem rdI_def (g : Hg) (a j : Nat) : rdI g a j = g.1 a j := id rfl
theorem lit (n : Nat) : (OfNat.ofNat n : Int32) = nI n := id rfl
theorem inb_nI {i n : Nat} (h : i < n) (hn : n < 2 ^ 31) : inb (nI i) n = true := in_inb (vp_in_nI h hn)
/-- what a function changes: nothing but rows of ints at A -/
def Ch (A : Nat → Prop) (g g1 : Hg) : Prop := g1.2 = g.2 ∧ ∀ b, ¬ A b → g1.1 b = g.1 b
theorem Ch.rf {A : Nat → Prop} {g : Hg} : Ch A g g := ⟨rfl, fun _ _ => rfl⟩
theorem Ch.tr {A : Nat → Prop} {g g1 g2 : Hg} (h : Ch A g g1) (h1 : Ch A g1 g2) : Ch A g g2 := ⟨h1.1.trans h.1, fun b hb => (h1.2 b hb).trans (h.2 b hb)⟩
theorem Ch.mono {A B : Nat → Prop} {g g1 : Hg} (h : Ch A g g1) (hAB : ∀ b, A b → B b) : Ch B g g1 := ⟨h.1, fun b hb => h.2 b (fun q => hb (hAB b q))⟩
theorem Ch.row {A : Nat → Prop} {g : Hg} {a : Nat} {r : Nat → Int32} (ha : A a) : Ch A g (rowI g a r) := ⟨rfl, fun b hb => rowI_ne g r (fun e => hb (by rw [e]; exact ha))⟩
theorem Ch.rdR {A : Nat → Prop} {g g1 : Hg} (h : Ch A g g1) (a k : Nat) : rdR g1 a k = rdR g a k := by
  show g1.2.2 a k = g.2.2 a k
  rw [h.1]
theorem Ch.rdI {A : Nat → Prop} {g g1 : Hg} (h : Ch A g g1) {b : Nat} (hb : ¬ A b) (k : Nat) : rdI g1 b k = rdI g b k := by
  show g1.1 b k = g.1 b k
  rw [h.2 b hb]
theorem Ch.rdL {A : Nat → Prop} {g g1 : Hg} (h : Ch A g g1) (a k : Nat) : rdL g1 a k = rdL g a k := by
  show g1.2.1 a k = g.2.1 a k
  rw [h.1]
def Run {ρ : Type} (o : Option (ρ × Hg)) (K : ρ → Hg → Prop) : Prop := ∃ r g, o = some (r, g) ∧ K r g
theorem Run.ret {ρ : Type} {r : ρ} {g : Hg} {K : ρ → Hg → Prop} (h : K r g) : Run (some (r, g)) K := ⟨r, g, rfl, h⟩
theorem Run.mono {ρ : Type} {o : Option (ρ × Hg)} {K K1 : ρ → Hg → Prop} (h : Run o K) (hk : ∀ r g, K r g → K1 r g) : Run o K1 := by
  obtain ⟨r, g, h1, h2⟩ := h
  exact ⟨r, g, h1, hk r g h2⟩
theorem Run.ck {ρ : Type} {b : Bool} {o : Option (ρ × Hg)} {K : ρ → Hg → Prop} (hb : b = true) (h : Run o K) : Run (ck b o) K := by subst hb; exact h
theorem Run.nn {ρ : Type} {v : Option Nat} {b : Nat} {k : Nat → Option (ρ × Hg)} {K : ρ → Hg → Prop} (hb : v = some b) (h : Run (k b) K) : Run (nn v k) K := by subst hb; exact h
theorem Run.nm {ρ β : Type} {x : β} {k : β → Option (ρ × Hg)} {K : ρ → Hg → Prop} (h : Run (k x) K) : Run (nm x k) K := h
theorem Run.c2 {α ρ : Type} {o : Option (α × Hg)} {k : α → Hg → Option (ρ × Hg)} {K : ρ → Hg → Prop} (h : Run o (fun r g => Run (k r g) K)) : Run (c2 o k) K := by
  obtain ⟨r, g, h1, h2⟩ := h
  rw [h1]
  exact h2
theorem Run.t {ρ : Type} {c : Prop} {i : Decidable c} {a b : Option (ρ × Hg)} {K : ρ → Hg → Prop} (hc : c) (h : Run a K) : Run (@ite _ c i a b) K := by rw [if_pos hc]; exact h
theorem Run.f {ρ : Type} {c : Prop} {i : Decidable c} {a b : Option (ρ × Hg)} {K : ρ → Hg → Prop} (hc : ¬ c) (h : Run b K) : Run (@ite _ c i a b) K := by rw [if_neg hc]; exact h
theorem Run.ite {ρ : Type} {c : Prop} {i : Decidable c} {a b : Option (ρ × Hg)} {K : ρ → Hg → Prop} (h : c → Run a K) (h2 : ¬ c → Run b K) : Run (@ite _ c i a b) K := by
  by_cases hc : c
  · exact Run.t hc (h hc)
  · exact Run.f hc (h2 hc)
theorem Run.eq {ρ : Type} {o o1 : Option (ρ × Hg)} {K : ρ → Hg → Prop} (e : o = o1) (h : Run o1 K) : Run o K := by rw [e]; exact h
theorem nI_rem8 {a : Nat} (ha : a < 2 ^ 31) : nI a - nI a / nI 8 * nI 8 = nI (a % 8) := pk_rem ha (by decide) (by decide)
