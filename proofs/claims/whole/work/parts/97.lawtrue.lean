theorem RHo_new {g : Hg} {ad : Nat → Nat} (h0 : ∀ j, g.1 (ad 20000) j = 0) (h1 : ∀ k, k < 66 → mln k ≠ 0 → (∀ j, g.1 (ad (20001 + k)) j = 0) ∧ (∀ j, g.2.1 (ad (20001 + k)) j = 0)) : RHo g ad 0 hNew := by
  have i9 : ∀ j, g.1 (ad 20010) j = 0 := (h1 9 (by decide) (by decide)).1
  have i13 : ∀ j, g.1 (ad 20014) j = 0 := (h1 13 (by decide) (by decide)).1
  have i14 : ∀ j, g.1 (ad 20015) j = 0 := (h1 14 (by decide) (by decide)).1
  have i18 : ∀ j, g.1 (ad 20019) j = 0 := (h1 18 (by decide) (by decide)).1
  refine ⟨⟨h0 1, fun l hl => absurd hl (by show ¬ l < 0; omega)⟩, fun s hs => ⟨⟨i9 _, fun i hi => absurd hi (by show ¬ i < 0; omega)⟩, ⟨i9 _, i9 _, i9 _, i9 _, i9 _, i9 _, fun hk => absurd (show (0 : Int32) = nI 4 from hk) (by decide)⟩, fun k hk => absurd hk (by show ¬ k < 0; omega), fun hk => absurd (show (0 : Int32) = nI 3 ∨ (0 : Int32) = nI 4 from hk) (by decide)⟩, fun r hr => ⟨⟨⟨i13 _, i13 _, i13 _⟩, fun j _ => i13 _, fun j _ => i13 _, fun j _ => i13 _⟩, i13 _, i14 _⟩, ⟨h0 16, fun k hk => absurd hk (by show ¬ k < 0; omega)⟩, fun w hw => ⟨i18 _, fun h => absurd (show false = true from h) (by decide)⟩⟩
theorem HoW_new : HoW hNew := ⟨Nat.zero_le _, fun s hs => begX_wf, fun r hr h => absurd (show false = true from h) (by decide), fun w hw h => absurd (show false = true from h) (by decide)⟩
theorem law_true (lo L : Nat) (xs : Nat → Int32) (hL : L ≤ 3072) : ∃ (N : Nat) (S1 : Hs) (g1 : Hg) (k w : Nat), b_L_law_0 N L xs (lw_S0 lo) lw_g0 = some ((1 : Int32), S1, g1, k, w) ∧ k ≤ room_1.cells ∧ w ≤ room_1.slots := by
  obtain ⟨N, hN⟩ : ∃ N : Nat, 40000 ≤ N := ⟨40000, Nat.le_refl _⟩
  obtain ⟨Z, hZ⟩ : ∃ Z : Nat, Z = 1000000 := ⟨_, rfl⟩
  generalize hS0 : lw_S0 lo = S0
  generalize hG0 : lw_g0 = g0
  have hp0 : hpN S0 = lo := by rw [← hS0]; rfl
  have hA0 : AdOk (lo + Z) (fun r => lo + Z + r) S0 := ⟨fun a b h => by have h : lo + Z + a = lo + Z + b := h; omega, fun r => Or.inr (by show lo + Z ≤ lo + Z + r; omega)⟩
  obtain ⟨m1, m2, m3, m4, m5, m6⟩ := al_mv (g := g0) hA0 (show hpN S0 < lo + Z by omega) 11 7 0
  have ec : va_up (fun r => lo + Z + r) 0 (hpN S0) 0 = hpN S0 := va_same _ _ _
  generalize hA1 : va_up (fun r => lo + Z + r) 0 (hpN S0) = ad1 at *
  have hp1 : hpN (nwS S0 11 7) = lo + 1 := by rw [← hp0]; rfl
  obtain ⟨ad2, S2, g2, b1, b2, b3, b4, b5, ⟨b6, b7, b8⟩, b9, ⟨b10, b11⟩, b12⟩ := s_X11 (N := N) (g := nwG S0 g0) hN m2 (by omega) (by rw [ec]; exact m6 6)
  obtain ⟨ad3, S3, g3, c1, c2', c3, c4, c5', c6, c7⟩ := s_X12 (N := N) (g := g2) b3 (by omega)
  have e0 : ad3 0 = hpN S0 := ((c2'.ad (by omega)).trans b5).trans ec
  have h23 : hpL S3 (ad3 23) = 128 := (c2'.len (by omega)).trans b9
  have hph : phi S3 ad3 (0, 0) none = 303280 := by
    unfold phi phH
    rw [phS_mv (b := 100) c2' (fun r r1 r2 => by omega), b11, h23]
    show 12000 * (6 - 0) + 100 * (60 - 0) + 61440 + (4096 - 2 * 128) + 160000 = 303280
    omega
  have hJ : Jn (lo + Z) S3 g3 ad3 (0, 0) hNew none := by
    refine ⟨⟨⟨c3, by omega⟩, ⟨b6.mv c2' (fun r hr => by omega) ⟨c2'.ad (by omega), c2'.ad (by omega), c2'.ad (by omega)⟩, b7.mv c2' (fun r r1 r2 => by omega), b8.mv c2' (fun r r1 r2 => by omega)⟩, b10.mv c2' (fun r r1 r2 => by omega), ?_⟩, ⟨c5', RHo_new c6 c7, c6 21⟩, HoW_new, trivial⟩
    show rdR g3 (ad3 0) 6 = none
    rw [c2'.R (by omega) 6]
    exact b12
  obtain ⟨S4, g4, k, w, d1, d2, d3⟩ := law_loop (B := lo + Z) (N := N) (L := L) (xs := xs) hN hL 512 N 0 S3 g3 ad3 (0, 0) hNew none (by omega) (by omega) (by omega) hJ
  rw [hph] at d2 d3
  refine ⟨N, S4, g4, 1 + (159 + (58 + k)), 7 + (10636 + (121542 + w)), ?_, ?_, ?_⟩
  · unfold b_L_law_0
    rw [ec] at b1
    rw [al_D, b1, c5_S, c1 (fun a_19 S_22 g_20 => n_L_law_18 N L xs N S_22 g_20 (hpN S0) a_19 (0 : Int32)), ← e0, show n_L_law_18 N L xs N S3 g3 (ad3 0) (ad3 20000) (0 : Int32) = _ from d1, tk_S, tk_S, tk_S]
  · show _ ≤ 210260
    omega
  · show _ ≤ 8471470
    omega
