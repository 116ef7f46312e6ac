section XK
variable {p : Program} {l : Launch} {e : Env} {R : Room} {s : State} {m : MethodId} {args : Array Value} {below : List Frame} {meth : Method} {c : Code} {H : Heap} {locs : List Loc} {cells slots : Nat} {Q : State → Prop} {cc : ByteArray} {pc : Nat} {ls : Array Slot} {rest : List Value} {D : va_G} {cA : Nat → ClassId} {lo tS : Nat} {S : Hs} {g : Hg} {a : Nat} {own : String}
def cpok (sp dp n : Int32) (n0 n1 : Nat) : Bool := !(decide (sp < 0)) && !(decide (dp < 0)) && !(decide (n < 0)) && decide (sp.toNatClampNeg + n.toNatClampNeg ≤ n0) && decide (dp.toNatClampNeg + n.toNatClampNeg ≤ n1)
theorem cpok_s {sp dp n : Int32} {n0 n1 : Nat} (h : cpok sp dp n n0 n1 = true) : ¬ sp < 0 ∧ ¬ dp < 0 ∧ ¬ n < 0 ∧ sp.toNatClampNeg + n.toNatClampNeg ≤ n0 ∧ dp.toNatClampNeg + n.toNatClampNeg ≤ n1 := by
  simp [cpok] at h
  obtain ⟨⟨⟨⟨h1, h2⟩, h3⟩, h4⟩, h5⟩ := h
  exact ⟨Int32.not_lt.mpr h1, Int32.not_lt.mpr h2, Int32.not_lt.mpr h3, h4, h5⟩
theorem nn_i {z : Int32} (hz : ¬ z < 0) : z.toInt = (z.toNatClampNeg : Int) := by
  have hz0 : (0 : Int) ≤ z.toInt := by
    have := Int32.not_lt.mp hz
    simpa using Int32.le_iff_toInt_le.mp this
  show z.toInt = ((z.toInt.toNat : Nat) : Int)
  omega
theorem x_copyI (hx : p.tables.exec = Jvm.exec) (hb : c.code = cc) {nL : Nat} (hml : c.maxLocals = nL) (hls : ls.size = nL) (hown : s.vm.findClass own = some m.cls) (hX : Kx D cA lo tS s) (M : Mm D cA lo S g s H locs) {index a0 : Nat} (hlink : Cond.methodLink own index arraycopyName ∈ lw_tbl) (hnat : Cond.native arraycopyName ∈ lw_tbl) (hstat : Cond.static arraycopyName ∈ lw_tbl) (hini : Cond.initialized "java/lang/System" ∈ lw_tbl) (r0 : Rf lo S a0 20) (r1 : Rf lo S a 20)
    {sp dp n : Int32} (hcp : cpok sp dp n (hpL S a0) (hpL S a) = true) (hroom : (rest.map fun v => v.category).sum ≤ 8) (hd : 1 ≤ R.frames ∧ 60 ≤ R.locals) (hdg : decode cc pc = .ok (.invokestatic index, 3))
    (kk : ∀ (H : Heap) (locs : List Loc), Mm D cA lo S (cpI g a0 sp.toNatClampNeg a dp.toNatClampNeg n.toNatClampNeg) s H locs → W p l e R s m args below meth c H locs cells slots Q (F0 m (pc + 3) ls rest)) : W p l e R s m args below meth c H locs cells slots Q (F0 m pc ls (.int n :: .int dp :: .ref a :: .int sp :: .ref a0 :: rest)) := by
  obtain ⟨h1, h2, h3, h4, h5⟩ := cpok_s hcp
  have hts := hX.hts args
  have ev : ∀ b, Rf lo S b 20 → evX S g b = fun j => .int (g.1 b j) := fun b rb => by
    funext j
    simp [evX, rb.2.2, rdI]
  have hc0 : H[a0]? = some (arrV (cA 20) (hpL S a0) (fun j => .int (g.1 a0 j))) := by rw [← ev a0 r0]; exact x_arr M r0 (by decide)
  have hc1 : H[a]? = some (arrV (cA 20) (hpL S a) (fun j => .int (g.1 a j))) := by rw [← ev a r1]; exact x_arr M r1 (by decide)
  intro T hT X
  obtain ⟨-, k0, hk0, cm0, hkk0⟩ := (hX.1.2 0 _ rfl).1 (hpL S a0) (fun j => .int (g.1 a0 j))
  obtain ⟨-, k1, hk1, cm1, hkk1⟩ := (hX.1.2 0 _ rfl).1 (hpL S a) (fun j => .int (g.1 a j))
  obtain ⟨vm', X', step⟩ := X.arraycopy hx hown (hts _ (mw hlink rfl)) (hts _ (mw hnat rfl)) (hts _ (mw hstat rfl)) (hts _ (mw hini rfl)) (src := a0) (dst := a) (cs := arrV (cA 20) (hpL S a0) (fun j => .int (g.1 a0 j))) (cd := arrV (cA 20) (hpL S a) (fun j => .int (g.1 a j))) (srcPos := sp) (destPos := dp) (n := n) (by rw [hT]; exact hc0) (by rw [hT]; exact hc1)
    (fun _ h => by cases h) (fun _ h => by cases h) (fun h => by cases h) (fun h => by cases h) hk0 hk1 hkk0 hkk1 rfl h1 h2 h3
    (by rw [nn_i h1, nn_i h3, arrV_size]; omega)
    (by rw [nn_i h2, nn_i h3, arrV_size]; omega)
    (fun vm₁ _ i hi => by
      have e : (arrV (cA 20) (hpL S a0) (fun j => .int (g.1 a0 j))).slots.getD (sp.toNatClampNeg + i) .null = .int (g.1 a0 (sp.toNatClampNeg + i)) := by
        rw [Array.getD_eq_getD_getElem?, arrV_read _ _ (by omega)]
        rfl
      refine ⟨?_, ?_⟩
      · rw [e]
        rfl
      · rw [e]
        exact trivial)
    (g := F0 m pc ls (.int n :: .int dp :: .ref a :: .int sp :: .ref a0 :: rest)) rfl (hls.trans hml.symm) (rest := rest) rfl (by rw [hb]; exact hdg) hd.1 (by
      have h := lv_room (m := m) (pc := pc) (ls := ls) (rest := (.int n :: .int dp :: .ref a :: .int sp :: .ref a0 :: rest)) hroom
      have h2 := hd.2
      have h3 : nativeFrameWords "java/lang/System" "arraycopy" 5 + 11 ≤ 50 := by decide
      omega)
  have e1 : copied (arrV (cA 20) (hpL S a0) (fun j => .int (g.1 a0 j))) (arrV (cA 20) (hpL S a) (fun j => .int (g.1 a j))) sp dp n = arrV (cA 20) (hpL S a) (fun j => .int (va_cpy (g.1 a0) (g.1 a) sp.toNatClampNeg dp.toNatClampNeg n.toNatClampNeg j)) := va_copied (fun z => .int z) (cA 20) (cA 20) (g.1 a0) (g.1 a) h4
  rw [e1] at X' step
  have hl : a < H.size := (Array.getElem?_eq_some_iff.mp hc1).1
  generalize hcell : arrV (cA 20) (hpL S a) (fun j => .int (va_cpy (g.1 a0) (g.1 a) sp.toNatClampNeg dp.toNatClampNeg n.toNatClampNeg j)) = cell at X' step
  have hheap : ((T.setVm vm').setCell a cell).heap = H.setIfInBounds a cell := by rw [← hT]; rfl
  have oq : ∀ q : Nat, q ≠ a → (H.setIfInBounds a cell)[q]? = H[q]? := fun q hq => by simp [Array.getElem?_setIfInBounds, Ne.symm hq]
  have hat : (H.setIfInBounds a cell)[a]? = some cell := by simp [Array.getElem?_setIfInBounds, hl]
  obtain ⟨t, a1, b1⟩ := kk (H.setIfInBounds a cell) _ (M.one r1.1 (fun q hq => by
      obtain ⟨z, -, hz⟩ := List.mem_map.mp hq
      rw [← hz]) (by simp) oq ⟨fun h => by
      rw [r1.2.2] at h
      exact absurd h (by decide), fun _ => by
      rw [hat, ← hcell, r1.2.2]
      congr 2
      funext j
      simp [evX, r1.2.2, rdI, cpI, va_up]⟩ (fun b hb k1 => by simp [rdI, cpI, va_up, hb]) (fun b hb k1 => rfl) (fun b hb k1 => rfl) M.2.1) _ hheap X'
  exact ⟨t, step t a1, b1⟩
theorem x_copyL (hx : p.tables.exec = Jvm.exec) (hb : c.code = cc) {nL : Nat} (hml : c.maxLocals = nL) (hls : ls.size = nL) (hown : s.vm.findClass own = some m.cls) (hX : Kx D cA lo tS s) (M : Mm D cA lo S g s H locs) {index a0 : Nat} (hlink : Cond.methodLink own index arraycopyName ∈ lw_tbl) (hnat : Cond.native arraycopyName ∈ lw_tbl) (hstat : Cond.static arraycopyName ∈ lw_tbl) (hini : Cond.initialized "java/lang/System" ∈ lw_tbl) (r0 : Rf lo S a0 21) (r1 : Rf lo S a 21)
    {sp dp n : Int32} (hcp : cpok sp dp n (hpL S a0) (hpL S a) = true) (hroom : (rest.map fun v => v.category).sum ≤ 8) (hd : 1 ≤ R.frames ∧ 60 ≤ R.locals) (hdg : decode cc pc = .ok (.invokestatic index, 3))
    (kk : ∀ (H : Heap) (locs : List Loc), Mm D cA lo S (cpL g a0 sp.toNatClampNeg a dp.toNatClampNeg n.toNatClampNeg) s H locs → W p l e R s m args below meth c H locs cells slots Q (F0 m (pc + 3) ls rest)) : W p l e R s m args below meth c H locs cells slots Q (F0 m pc ls (.int n :: .int dp :: .ref a :: .int sp :: .ref a0 :: rest)) := by
  obtain ⟨h1, h2, h3, h4, h5⟩ := cpok_s hcp
  have hts := hX.hts args
  have ev : ∀ b, Rf lo S b 21 → evX S g b = fun j => .long (g.2.1 b j) := fun b rb => by
    funext j
    simp [evX, rb.2.2, rdL]
  have hc0 : H[a0]? = some (arrV (cA 21) (hpL S a0) (fun j => .long (g.2.1 a0 j))) := by rw [← ev a0 r0]; exact x_arr M r0 (by decide)
  have hc1 : H[a]? = some (arrV (cA 21) (hpL S a) (fun j => .long (g.2.1 a j))) := by rw [← ev a r1]; exact x_arr M r1 (by decide)
  intro T hT X
  obtain ⟨-, k0, hk0, cm0, hkk0⟩ := (hX.1.2 1 _ rfl).1 (hpL S a0) (fun j => .long (g.2.1 a0 j))
  obtain ⟨-, k1, hk1, cm1, hkk1⟩ := (hX.1.2 1 _ rfl).1 (hpL S a) (fun j => .long (g.2.1 a j))
  obtain ⟨vm', X', step⟩ := X.arraycopy hx hown (hts _ (mw hlink rfl)) (hts _ (mw hnat rfl)) (hts _ (mw hstat rfl)) (hts _ (mw hini rfl)) (src := a0) (dst := a) (cs := arrV (cA 21) (hpL S a0) (fun j => .long (g.2.1 a0 j))) (cd := arrV (cA 21) (hpL S a) (fun j => .long (g.2.1 a j))) (srcPos := sp) (destPos := dp) (n := n) (by rw [hT]; exact hc0) (by rw [hT]; exact hc1)
    (fun _ h => by cases h) (fun _ h => by cases h) (fun h => by cases h) (fun h => by cases h) hk0 hk1 hkk0 hkk1 rfl h1 h2 h3
    (by rw [nn_i h1, nn_i h3, arrV_size]; omega)
    (by rw [nn_i h2, nn_i h3, arrV_size]; omega)
    (fun vm₁ _ i hi => by
      have e : (arrV (cA 21) (hpL S a0) (fun j => .long (g.2.1 a0 j))).slots.getD (sp.toNatClampNeg + i) .null = .long (g.2.1 a0 (sp.toNatClampNeg + i)) := by
        rw [Array.getD_eq_getD_getElem?, arrV_read _ _ (by omega)]
        rfl
      refine ⟨?_, ?_⟩
      · rw [e]
        rfl
      · rw [e]
        exact trivial)
    (g := F0 m pc ls (.int n :: .int dp :: .ref a :: .int sp :: .ref a0 :: rest)) rfl (hls.trans hml.symm) (rest := rest) rfl (by rw [hb]; exact hdg) hd.1 (by
      have h := lv_room (m := m) (pc := pc) (ls := ls) (rest := (.int n :: .int dp :: .ref a :: .int sp :: .ref a0 :: rest)) hroom
      have h2 := hd.2
      have h3 : nativeFrameWords "java/lang/System" "arraycopy" 5 + 11 ≤ 50 := by decide
      omega)
  have e1 : copied (arrV (cA 21) (hpL S a0) (fun j => .long (g.2.1 a0 j))) (arrV (cA 21) (hpL S a) (fun j => .long (g.2.1 a j))) sp dp n = arrV (cA 21) (hpL S a) (fun j => .long (va_cpy (g.2.1 a0) (g.2.1 a) sp.toNatClampNeg dp.toNatClampNeg n.toNatClampNeg j)) := va_copied (fun z => .long z) (cA 21) (cA 21) (g.2.1 a0) (g.2.1 a) h4
  rw [e1] at X' step
  have hl : a < H.size := (Array.getElem?_eq_some_iff.mp hc1).1
  generalize hcell : arrV (cA 21) (hpL S a) (fun j => .long (va_cpy (g.2.1 a0) (g.2.1 a) sp.toNatClampNeg dp.toNatClampNeg n.toNatClampNeg j)) = cell at X' step
  have hheap : ((T.setVm vm').setCell a cell).heap = H.setIfInBounds a cell := by rw [← hT]; rfl
  have oq : ∀ q : Nat, q ≠ a → (H.setIfInBounds a cell)[q]? = H[q]? := fun q hq => by simp [Array.getElem?_setIfInBounds, Ne.symm hq]
  have hat : (H.setIfInBounds a cell)[a]? = some cell := by simp [Array.getElem?_setIfInBounds, hl]
  obtain ⟨t, a1, b1⟩ := kk (H.setIfInBounds a cell) _ (M.one r1.1 (fun q hq => by
      obtain ⟨z, -, hz⟩ := List.mem_map.mp hq
      rw [← hz]) (by simp) oq ⟨fun h => by
      rw [r1.2.2] at h
      exact absurd h (by decide), fun _ => by
      rw [hat, ← hcell, r1.2.2]
      congr 2
      funext j
      simp [evX, r1.2.2, rdL, cpL, va_up]⟩ (fun b hb k1 => rfl) (fun b hb k1 => by simp [rdL, cpL, va_up, hb]) (fun b hb k1 => rfl) M.2.1) _ hheap X'
  exact ⟨t, step t a1, b1⟩
end XK
