section XR
variable {p : Program} {l : Launch} {e : Env} {R : Room} {s : State} {m : MethodId} {args : Array Value} {below : List Frame} {meth : Method} {c : Code} {H : Heap} {locs : List Loc} {cells slots : Nat} {Q : State → Prop} {cc : ByteArray} {pc : Nat} {ls : Array Slot} {rest : List Value} {D : va_G} {cA : Nat → ClassId} {lo tS : Nat} {S : Hs} {g : Hg} {a : Nat} {own : String}
theorem x_obj (hX : Kx D cA lo tS s) (M : Mm D cA lo S g s H locs) {ci N : Nat} {Cn : String} {T : u_T} {ty0 : Nat → FieldType} (K : ClsOk ci Cn T N ty0) (r : Rf lo S a ci) : ∃ cell : Cell, H[a]? = some cell ∧ cell.cls = D.1 ci ∧ cell.vm = .none ∧ ∀ k, k < N → cell.slots[D.2 ci k]? = some (fvX S g a k) := by
  obtain ⟨h1, h2, h3⟩ := r
  have h := (M.1.2.2 a h1 h2).1 (by rw [h3]; exact K.2.2.1)
  rw [h3, K.2.2.2.1] at h
  exact h
theorem x_recv (hX : Kx D cA lo tS s) (M : Mm D cA lo S g s H locs) {ci N : Nat} {Cn : String} {T : u_T} {ty0 : Nat → FieldType} (K : ClsOk ci Cn T N ty0) (r : Rf lo S a ci) : ∃ cell : Cell, H[a]? = some cell ∧ cell.vm.isStatics = false ∧ s.vm.findClass Cn = some cell.cls := by
  obtain ⟨cell, q1, q2, q3, q4⟩ := x_obj hX M K r
  exact ⟨cell, q1, by rw [q3]; rfl, by rw [q2]; exact (hX.1.1 ci _ K.1).2.1⟩
theorem x_arr (M : Mm D cA lo S g s H locs) {K : Nat} (r : Rf lo S a K) (hK : 13 ≤ K) : H[a]? = some (arrV (cA K) (hpL S a) (evX S g a)) := by
  obtain ⟨h1, h2, h3⟩ := r
  have h := (M.1.2.2 a h1 h2).2 (by rw [h3]; exact hK)
  rw [h3] at h
  exact h
theorem x_getV (hx : p.tables.exec = Jvm.exec) (hb : c.code = cc) (hown : s.vm.findClass own = some m.cls) (hX : Kx D cA lo tS s) (M : Mm D cA lo S g s H locs) {ci k N index : Nat} {Cn : String} {T : u_T} {ty0 : Nat → FieldType} (K : ClsOk ci Cn T N ty0) (r : Rf lo S a ci) (hk : k < N) (hlink : Cond.fieldLink own index (T k).1 (T k).2.1 (T k).2.2.1 ∈ lw_tbl) (hdg : decode cc pc = .ok (.getfield index, 3))
    (kk : W p l e R s m args below meth c H locs cells slots Q (F0 m (pc + 3) ls (fvX S g a k :: rest))) : W p l e R s m args below meth c H locs cells slots Q (F0 m pc ls (.ref a :: rest)) := by
  have hts := hX.hts args
  obtain ⟨cell, q1, q2, q3, q4⟩ := x_obj hX M K r
  obtain ⟨hS, hfc, kC, hkC, hkind⟩ := hX.1.1 ci _ K.1
  obtain ⟨cf, kf, fi, f, hi, hsl⟩ := hS k hk
  refine W.getf hx hb hown (hts _ (mw hlink rfl)) hi (u_facts hfc hkC (u_lays hts K.2.1 hk) hi).1 q1 (by rw [q3]; exact fun h => by cases h) (v := fvX S g a k) ?_ rfl rfl hdg kk
  rw [hsl, q4 k hk]
theorem x_getI (hx : p.tables.exec = Jvm.exec) (hb : c.code = cc) (hown : s.vm.findClass own = some m.cls) (hX : Kx D cA lo tS s) (M : Mm D cA lo S g s H locs) {ci k N index : Nat} {Cn : String} {T : u_T} {ty0 : Nat → FieldType} (K : ClsOk ci Cn T N ty0) (r : Rf lo S a ci) (hk : k < N) (hr : rk ci k = 0) (hlink : Cond.fieldLink own index (T k).1 (T k).2.1 (T k).2.2.1 ∈ lw_tbl) (hdg : decode cc pc = .ok (.getfield index, 3))
    (kk : W p l e R s m args below meth c H locs cells slots Q (F0 m (pc + 3) ls (.int (rdI g a k) :: rest))) : W p l e R s m args below meth c H locs cells slots Q (F0 m pc ls (.ref a :: rest)) := by
  refine x_getV hx hb hown hX M K r hk hlink hdg ?_
  rw [show fvX S g a k = .int (rdI g a k) by simp [fvX, r.2.2, hr]]
  exact kk
theorem x_getO (hx : p.tables.exec = Jvm.exec) (hb : c.code = cc) (hown : s.vm.findClass own = some m.cls) (hX : Kx D cA lo tS s) (M : Mm D cA lo S g s H locs) {ci k N index K1 : Nat} {Cn : String} {T : u_T} {ty0 : Nat → FieldType} (K : ClsOk ci Cn T N ty0) (r : Rf lo S a ci) (hk : k < N) (hr : rk ci k = K1 + 1) (hlink : Cond.fieldLink own index (T k).1 (T k).2.1 (T k).2.2.1 ∈ lw_tbl) (hdg : decode cc pc = .ok (.getfield index, 3))
    (kk : Ro lo S (rdR g a k) K1 → W p l e R s m args below meth c H locs cells slots Q (F0 m (pc + 3) ls (va_rf (rdR g a k) :: rest))) : W p l e R s m args below meth c H locs cells slots Q (F0 m pc ls (.ref a :: rest)) := by
  refine x_getV hx hb hown hX M K r hk hlink hdg ?_
  rw [show fvX S g a k = va_rf (rdR g a k) by simp [fvX, r.2.2, hr]]
  exact kk (M.2.1.ro r hr)
theorem x_getR (hx : p.tables.exec = Jvm.exec) (hb : c.code = cc) (hown : s.vm.findClass own = some m.cls) (hX : Kx D cA lo tS s) (M : Mm D cA lo S g s H locs) {ci k N index K1 b : Nat} {Cn : String} {T : u_T} {ty0 : Nat → FieldType} (hv : rdR g a k = some b) (K : ClsOk ci Cn T N ty0) (r : Rf lo S a ci) (hk : k < N) (hr : rk ci k = K1 + 1) (hlink : Cond.fieldLink own index (T k).1 (T k).2.1 (T k).2.2.1 ∈ lw_tbl) (hdg : decode cc pc = .ok (.getfield index, 3))
    (kk : Rf lo S b K1 → W p l e R s m args below meth c H locs cells slots Q (F0 m (pc + 3) ls (.ref b :: rest))) : W p l e R s m args below meth c H locs cells slots Q (F0 m pc ls (.ref a :: rest)) := by
  refine x_getO hx hb hown hX M K r hk hr hlink hdg (fun ro => ?_)
  rw [hv]
  exact kk (ro b hv)
theorem x_putV (hx : p.tables.exec = Jvm.exec) (hb : c.code = cc) (hown : s.vm.findClass own = some m.cls) (hX : Kx D cA lo tS s) (M : Mm D cA lo S g s H locs) {ci k N index : Nat} {Cn : String} {T : u_T} {ty0 : Nat → FieldType} {v : Value} (K : ClsOk ci Cn T N ty0) (r : Rf lo S a ci) (hk : k < N) (hfin : (T k).2.2.2 = false ∨ ((T k).2.2.2 = true ∧ meth.name = "<init>" ∧ (T k).1 = own)) (hn : narrow (ty0 k) v = v) (hfit : fits (ty0 k) v = true) (hlink : Cond.fieldLink own index (T k).1 (T k).2.1 (T k).2.2.1 ∈ lw_tbl) (hdg : decode cc pc = .ok (.putfield index, 3))
    (kk : ∀ (H1 : Heap) (L : List Loc), (∀ q ∈ L, q.base = a) → H1.size = H.size → (∀ q : Nat, q ≠ a → H1[q]? = H[q]?) → t_OB a (D.1 ci) N (D.2 ci) H1 (updV (fvX S g a) k v) → W p l e R s m args below meth c H1 (locs ++ L) cells slots Q (F0 m (pc + 3) ls (rest))) : W p l e R s m args below meth c H locs cells slots Q (F0 m pc ls (v :: .ref a :: rest)) := by
  have hts := hX.hts args
  have hap := va_apart (own := own) hts K.2.1 ty0 K.2.2.2.2.1 K.2.2.2.2.2 hX.1 K.1
  obtain ⟨cell, q1, q2, q3, q4⟩ := x_obj hX M K r
  obtain ⟨hS, hfc, kC, hkC, hkind⟩ := hX.1.1 ci _ K.1
  obtain ⟨cf, kf, fi, f, hi, hsl⟩ := hS k hk
  have hlay := hts _ (K.2.1 _ (u_in_lay hk))
  unfold u_lay at hlay
  have hst := (u_facts hfc hkC (u_lays hts K.2.1 hk) hi).1
  have hd := K.2.2.2.2.1 k hk
  rcases hfin with hfin | ⟨hfin, hin2, hdecl⟩
  · rw [if_neg (by rw [hfin]; decide)] at hlay
    have h6 := u_store hfc hkC hkind hlay hi hd hn hfit
    refine W.putK hx hb (f := f) ⟨hown, hts _ (mw hlink rfl), ⟨_, _, _, hi⟩, hst⟩ (by rw [q2]; exact h6) q1 q3 (by rw [hsl]; exact k2_hasslot (q4 k hk)) rfl rfl hdg fun H' e1 e2 e3 => ?_
    rw [hsl] at e1 ⊢
    exact kk H' _ (fun q hq => by rw [List.mem_singleton.mp hq]) e2 e3 ⟨_, e1, q2, q3, t_set q4 hap hk v⟩
  · rw [if_pos hfin] at hlay
    have hcf : m.cls = cf := by
      obtain ⟨_, _, c', _, _, _, -, -, hf', -, -, -, hown2, -⟩ := Cond.laysFinal_spec hlay
      have e1 : c' = cf := by have := hi.symm.trans hf'; simp at this; exact this.1.symm
      rw [hdecl] at hown2
      rw [← e1]; exact Option.some.inj (hown.symm.trans hown2)
    have h6 := u_fits hfc hkC hkind (Or.inr hlay) hi hd hn hfit
    refine W.putFinK hx hb hown (hts _ (mw hlink rfl)) hi hst hcf hin2 (by rw [q2]; exact h6) q1 q3 (by rw [hsl]; exact k2_hasslot (q4 k hk)) rfl rfl hdg fun H' e1 e2 e3 => ?_
    rw [hsl] at e1 ⊢
    exact kk H' _ (fun q hq => by rw [List.mem_singleton.mp hq]) e2 e3 ⟨_, e1, q2, q3, t_set q4 hap hk v⟩
theorem x_putI (hx : p.tables.exec = Jvm.exec) (hb : c.code = cc) (hown : s.vm.findClass own = some m.cls) (hX : Kx D cA lo tS s) (M : Mm D cA lo S g s H locs) {ci k N index : Nat} {Cn : String} {T : u_T} {ty0 : Nat → FieldType} {x : Int32} (K : ClsOk ci Cn T N ty0) (r : Rf lo S a ci) (hk : k < N) (hr : rk ci k = 0) (hfin : (T k).2.2.2 = false ∨ ((T k).2.2.2 = true ∧ meth.name = "<init>" ∧ (T k).1 = own)) (hn : narrow (ty0 k) (.int x) = .int x) (hfit : fits (ty0 k) (.int x) = true) (hlink : Cond.fieldLink own index (T k).1 (T k).2.1 (T k).2.2.1 ∈ lw_tbl) (hdg : decode cc pc = .ok (.putfield index, 3))
    (kk : ∀ (H : Heap) (locs : List Loc), Mm D cA lo S (wrI g a k x) s H locs → W p l e R s m args below meth c H locs cells slots Q (F0 m (pc + 3) ls (rest))) : W p l e R s m args below meth c H locs cells slots Q (F0 m pc ls (.int x :: .ref a :: rest)) := by
  refine x_putV hx hb hown hX M K r hk hfin hn hfit hlink hdg (fun H1 L hL z oq ho => ?_)
  refine kk H1 _ (M.one r.1 hL z oq ⟨fun _ => ?_, fun h => ?_⟩ (fun b hb k1 => ?_) (fun b hb k1 => rfl) (fun b hb k1 => rfl) (M.2.1.wrI a k x))
  · rw [r.2.2, K.2.2.2.1]
    refine ho.to (fun j _ => ?_)
    simp only [updV, fvX, r.2.2]
    by_cases hj : j = k
    · subst hj
      rw [if_pos rfl, if_pos hr]
      simp [rdI, wrI, up2]
    · rw [if_neg hj]
      have e : rdI (wrI g a k x) a j = rdI g a j := by simp [rdI, wrI, up2, hj]
      rw [e]
      rfl
  · rw [r.2.2] at h
    exact absurd K.2.2.1 (Nat.not_lt.mpr h)
  · simp [rdI, wrI, up2, hb]
theorem x_putR (hx : p.tables.exec = Jvm.exec) (hb : c.code = cc) (hown : s.vm.findClass own = some m.cls) (hX : Kx D cA lo tS s) (M : Mm D cA lo S g s H locs) {ci k N index K1 b : Nat} {Cn : String} {T : u_T} {ty0 : Nat → FieldType} (K : ClsOk ci Cn T N ty0) (r : Rf lo S a ci) (hk : k < N) (hr : rk ci k = K1 + 1) (rb : Rf lo S b K1) (hfin : (T k).2.2.2 = false ∨ ((T k).2.2.2 = true ∧ meth.name = "<init>" ∧ (T k).1 = own)) (hn : narrow (ty0 k) (.ref b) = .ref b) (hfit : fits (ty0 k) (.ref b) = true) (hlink : Cond.fieldLink own index (T k).1 (T k).2.1 (T k).2.2.1 ∈ lw_tbl) (hdg : decode cc pc = .ok (.putfield index, 3))
    (kk : ∀ (H : Heap) (locs : List Loc), Mm D cA lo S (wrR g a k (some b)) s H locs → W p l e R s m args below meth c H locs cells slots Q (F0 m (pc + 3) ls (rest))) : W p l e R s m args below meth c H locs cells slots Q (F0 m pc ls (.ref b :: .ref a :: rest)) := by
  refine x_putV hx hb hown hX M K r hk hfin hn hfit hlink hdg (fun H1 L hL z oq ho => ?_)
  refine kk H1 _ (M.one r.1 hL z oq ⟨fun _ => ?_, fun h => ?_⟩ (fun b hb k1 => rfl) (fun b hb k1 => rfl) (fun b hb k1 => ?_) (M.2.1.wrR r hr rb.ro))
  · rw [r.2.2, K.2.2.2.1]
    refine ho.to (fun j _ => ?_)
    simp only [updV, fvX, r.2.2]
    by_cases hj : j = k
    · subst hj
      rw [if_pos rfl, if_neg (by rw [hr]; exact Nat.succ_ne_zero _)]
      simp [rdR, wrR, up2, va_rf]
    · rw [if_neg hj]
      have e : rdR (wrR g a k (some b)) a j = rdR g a j := by simp [rdR, wrR, up2, hj]
      rw [e]
      rfl
  · rw [r.2.2] at h
    exact absurd K.2.2.1 (Nat.not_lt.mpr h)
  · simp [rdR, wrR, up2, hb]
theorem x_iald (hx : p.tables.exec = Jvm.exec) (hb : c.code = cc) (hX : Kx D cA lo tS s) (M : Mm D cA lo S g s H locs) (r : Rf lo S a 20) {i : Int32} (hin : vp_in i (hpL S a)) (hdg : decode cc pc = .ok (.iaload, 1))
    (kk : W p l e R s m args below meth c H locs cells slots Q (F0 m (pc + 1) ls (.int (rdI g a i.toNatClampNeg) :: rest))) : W p l e R s m args below meth c H locs cells slots Q (F0 m pc ls (.int i :: .ref a :: rest)) := by
  have hlt : i.toNatClampNeg < hpL S a := Nat.not_le.mp fun q => hin (Or.inr q)
  exact W.iald (v := .int (rdI g a i.toNatClampNeg)) hx hb (x_arr M r (by decide)) ((hX.1.2 0 _ rfl).1 _ _) (fun q => by cases q) (by rw [arrV_size]; exact hin) (by rw [arrV_read _ _ hlt]; simp [evX, r.2.2]) rfl rfl hdg kk
theorem x_lald (hx : p.tables.exec = Jvm.exec) (hb : c.code = cc) (hX : Kx D cA lo tS s) (M : Mm D cA lo S g s H locs) (r : Rf lo S a 21) {i : Int32} (hin : vp_in i (hpL S a)) (hdg : decode cc pc = .ok (.laload, 1))
    (kk : W p l e R s m args below meth c H locs cells slots Q (F0 m (pc + 1) ls (.long (rdL g a i.toNatClampNeg) :: rest))) : W p l e R s m args below meth c H locs cells slots Q (F0 m pc ls (.int i :: .ref a :: rest)) := by
  have hlt : i.toNatClampNeg < hpL S a := Nat.not_le.mp fun q => hin (Or.inr q)
  exact W.lald (v := .long (rdL g a i.toNatClampNeg)) hx hb (x_arr M r (by decide)) ((hX.1.2 1 _ rfl).1 _ _) (fun q => by cases q) (by rw [arrV_size]; exact hin) (by rw [arrV_read _ _ hlt]; simp [evX, r.2.2]) rfl rfl hdg kk
theorem x_zald (hx : p.tables.exec = Jvm.exec) (hb : c.code = cc) (hX : Kx D cA lo tS s) (M : Mm D cA lo S g s H locs) (r : Rf lo S a 22) {i : Int32} (hin : vp_in i (hpL S a)) (hdg : decode cc pc = .ok (.baload, 1))
    (kk : W p l e R s m args below meth c H locs cells slots Q (F0 m (pc + 1) ls (.int (rdI g a i.toNatClampNeg) :: rest))) : W p l e R s m args below meth c H locs cells slots Q (F0 m pc ls (.int i :: .ref a :: rest)) := by
  have hlt : i.toNatClampNeg < hpL S a := Nat.not_le.mp fun q => hin (Or.inr q)
  exact W.zald (v := .int (rdI g a i.toNatClampNeg)) hx hb (x_arr M r (by decide)) ((hX.1.2 2 _ rfl).1 _ _) (fun q => by cases q) (by rw [arrV_size]; exact hin) (by rw [arrV_read _ _ hlt]; simp [evX, r.2.2]) rfl rfl hdg kk
theorem x_aald23 (hx : p.tables.exec = Jvm.exec) (hb : c.code = cc) (hX : Kx D cA lo tS s) (M : Mm D cA lo S g s H locs) (r : Rf lo S a 23) {i : Int32} (hin : vp_in i (hpL S a)) (hdg : decode cc pc = .ok (.aaload, 1))
    (kk : Ro lo S (rdR g a i.toNatClampNeg) 3 → W p l e R s m args below meth c H locs cells slots Q (F0 m (pc + 1) ls (va_rf (rdR g a i.toNatClampNeg) :: rest))) : W p l e R s m args below meth c H locs cells slots Q (F0 m pc ls (.int i :: .ref a :: rest)) := by
  have hlt : i.toNatClampNeg < hpL S a := Nat.not_le.mp fun q => hin (Or.inr q)
  exact W.aald (v := va_rf (rdR g a i.toNatClampNeg)) (ty := .object "GlassLog$Log") hx hb (x_arr M r (by decide)) ((hX.1.2 3 _ rfl).1 _ _) rfl (fun q => by cases q) (by rw [arrV_size]; exact hin) (by rw [arrV_read _ _ hlt]; simp [evX, r.2.2]) rfl rfl hdg (kk (M.2.1.ro r rfl))
theorem x_aaldn23 (hx : p.tables.exec = Jvm.exec) (hb : c.code = cc) (hX : Kx D cA lo tS s) (M : Mm D cA lo S g s H locs) (r : Rf lo S a 23) {i : Int32} {b : Nat} (hv : rdR g a i.toNatClampNeg = some b) (hin : vp_in i (hpL S a)) (hdg : decode cc pc = .ok (.aaload, 1))
    (kk : Rf lo S b 3 → W p l e R s m args below meth c H locs cells slots Q (F0 m (pc + 1) ls (.ref b :: rest))) : W p l e R s m args below meth c H locs cells slots Q (F0 m pc ls (.int i :: .ref a :: rest)) := by
  refine x_aald23 hx hb hX M r hin hdg (fun ro => ?_)
  rw [hv]
  exact kk (ro b hv)
theorem x_aald24 (hx : p.tables.exec = Jvm.exec) (hb : c.code = cc) (hX : Kx D cA lo tS s) (M : Mm D cA lo S g s H locs) (r : Rf lo S a 24) {i : Int32} (hin : vp_in i (hpL S a)) (hdg : decode cc pc = .ok (.aaload, 1))
    (kk : Ro lo S (rdR g a i.toNatClampNeg) 7 → W p l e R s m args below meth c H locs cells slots Q (F0 m (pc + 1) ls (va_rf (rdR g a i.toNatClampNeg) :: rest))) : W p l e R s m args below meth c H locs cells slots Q (F0 m pc ls (.int i :: .ref a :: rest)) := by
  have hlt : i.toNatClampNeg < hpL S a := Nat.not_le.mp fun q => hin (Or.inr q)
  exact W.aald (v := va_rf (rdR g a i.toNatClampNeg)) (ty := .object "GlassLog$Proof") hx hb (x_arr M r (by decide)) ((hX.1.2 4 _ rfl).1 _ _) rfl (fun q => by cases q) (by rw [arrV_size]; exact hin) (by rw [arrV_read _ _ hlt]; simp [evX, r.2.2]) rfl rfl hdg (kk (M.2.1.ro r rfl))
theorem x_aaldn24 (hx : p.tables.exec = Jvm.exec) (hb : c.code = cc) (hX : Kx D cA lo tS s) (M : Mm D cA lo S g s H locs) (r : Rf lo S a 24) {i : Int32} {b : Nat} (hv : rdR g a i.toNatClampNeg = some b) (hin : vp_in i (hpL S a)) (hdg : decode cc pc = .ok (.aaload, 1))
    (kk : Rf lo S b 7 → W p l e R s m args below meth c H locs cells slots Q (F0 m (pc + 1) ls (.ref b :: rest))) : W p l e R s m args below meth c H locs cells slots Q (F0 m pc ls (.int i :: .ref a :: rest)) := by
  refine x_aald24 hx hb hX M r hin hdg (fun ro => ?_)
  rw [hv]
  exact kk (ro b hv)
theorem x_aald25 (hx : p.tables.exec = Jvm.exec) (hb : c.code = cc) (hX : Kx D cA lo tS s) (M : Mm D cA lo S g s H locs) (r : Rf lo S a 25) {i : Int32} (hin : vp_in i (hpL S a)) (hdg : decode cc pc = .ok (.aaload, 1))
    (kk : Ro lo S (rdR g a i.toNatClampNeg) 0 → W p l e R s m args below meth c H locs cells slots Q (F0 m (pc + 1) ls (va_rf (rdR g a i.toNatClampNeg) :: rest))) : W p l e R s m args below meth c H locs cells slots Q (F0 m pc ls (.int i :: .ref a :: rest)) := by
  have hlt : i.toNatClampNeg < hpL S a := Nat.not_le.mp fun q => hin (Or.inr q)
  exact W.aald (v := va_rf (rdR g a i.toNatClampNeg)) (ty := .object "GlassLog$Head") hx hb (x_arr M r (by decide)) ((hX.1.2 5 _ rfl).1 _ _) rfl (fun q => by cases q) (by rw [arrV_size]; exact hin) (by rw [arrV_read _ _ hlt]; simp [evX, r.2.2]) rfl rfl hdg (kk (M.2.1.ro r rfl))
theorem x_aaldn25 (hx : p.tables.exec = Jvm.exec) (hb : c.code = cc) (hX : Kx D cA lo tS s) (M : Mm D cA lo S g s H locs) (r : Rf lo S a 25) {i : Int32} {b : Nat} (hv : rdR g a i.toNatClampNeg = some b) (hin : vp_in i (hpL S a)) (hdg : decode cc pc = .ok (.aaload, 1))
    (kk : Rf lo S b 0 → W p l e R s m args below meth c H locs cells slots Q (F0 m (pc + 1) ls (.ref b :: rest))) : W p l e R s m args below meth c H locs cells slots Q (F0 m pc ls (.int i :: .ref a :: rest)) := by
  refine x_aald25 hx hb hX M r hin hdg (fun ro => ?_)
  rw [hv]
  exact kk (ro b hv)
theorem x_aald26 (hx : p.tables.exec = Jvm.exec) (hb : c.code = cc) (hX : Kx D cA lo tS s) (M : Mm D cA lo S g s H locs) (r : Rf lo S a 26) {i : Int32} (hin : vp_in i (hpL S a)) (hdg : decode cc pc = .ok (.aaload, 1))
    (kk : Ro lo S (rdR g a i.toNatClampNeg) 10 → W p l e R s m args below meth c H locs cells slots Q (F0 m (pc + 1) ls (va_rf (rdR g a i.toNatClampNeg) :: rest))) : W p l e R s m args below meth c H locs cells slots Q (F0 m pc ls (.int i :: .ref a :: rest)) := by
  have hlt : i.toNatClampNeg < hpL S a := Nat.not_le.mp fun q => hin (Or.inr q)
  exact W.aald (v := va_rf (rdR g a i.toNatClampNeg)) (ty := .object "GlassLog$Watcher") hx hb (x_arr M r (by decide)) ((hX.1.2 6 _ rfl).1 _ _) rfl (fun q => by cases q) (by rw [arrV_size]; exact hin) (by rw [arrV_read _ _ hlt]; simp [evX, r.2.2]) rfl rfl hdg (kk (M.2.1.ro r rfl))
theorem x_aaldn26 (hx : p.tables.exec = Jvm.exec) (hb : c.code = cc) (hX : Kx D cA lo tS s) (M : Mm D cA lo S g s H locs) (r : Rf lo S a 26) {i : Int32} {b : Nat} (hv : rdR g a i.toNatClampNeg = some b) (hin : vp_in i (hpL S a)) (hdg : decode cc pc = .ok (.aaload, 1))
    (kk : Rf lo S b 10 → W p l e R s m args below meth c H locs cells slots Q (F0 m (pc + 1) ls (.ref b :: rest))) : W p l e R s m args below meth c H locs cells slots Q (F0 m pc ls (.int i :: .ref a :: rest)) := by
  refine x_aald26 hx hb hX M r hin hdg (fun ro => ?_)
  rw [hv]
  exact kk (ro b hv)
theorem x_iast (hx : p.tables.exec = Jvm.exec) (hb : c.code = cc) (hX : Kx D cA lo tS s) (M : Mm D cA lo S g s H locs) (r : Rf lo S a 20) {i : Int32} {x : Int32} (hin : vp_in i (hpL S a)) (hdg : decode cc pc = .ok (.iastore, 1))
    (kk : ∀ (H : Heap) (locs : List Loc), Mm D cA lo S (wrI g a i.toNatClampNeg x) s H locs → W p l e R s m args below meth c H locs cells slots Q (F0 m (pc + 1) ls (rest))) : W p l e R s m args below meth c H locs cells slots Q (F0 m pc ls (.int x :: .int i :: .ref a :: rest)) := by
  refine W.iast hx hb (x_arr M r (by decide)) ((hX.1.2 0 _ rfl).1 _ _) (fun q => by cases q) (by rw [arrV_size]; exact hin) rfl rfl hdg fun H1 e z oq => ?_
  refine kk H1 _ (M.one r.1 (fun q hq => by rw [List.mem_singleton.mp hq]) z oq ⟨fun h => ?_, fun _ => ?_⟩ (fun b hb k1 => ?_) (fun b hb k1 => rfl) (fun b hb k1 => rfl) (M.2.1.wrI a _ x))
  · rw [r.2.2] at h
    exact absurd h (by decide)
  · rw [e, r.2.2, arrV_store]
    congr 2
    funext j
    simp only [updV, evX, r.2.2]
    by_cases hj : j = i.toNatClampNeg
    · subst hj
      simp [rdI, wrI, up2]
    · simp [rdI, wrI, up2, hj]
  · simp [rdI, wrI, up2, hb]
theorem x_last (hx : p.tables.exec = Jvm.exec) (hb : c.code = cc) (hX : Kx D cA lo tS s) (M : Mm D cA lo S g s H locs) (r : Rf lo S a 21) {i : Int32} {x : Int64} (hin : vp_in i (hpL S a)) (hdg : decode cc pc = .ok (.lastore, 1))
    (kk : ∀ (H : Heap) (locs : List Loc), Mm D cA lo S (wrL g a i.toNatClampNeg x) s H locs → W p l e R s m args below meth c H locs cells slots Q (F0 m (pc + 1) ls (rest))) : W p l e R s m args below meth c H locs cells slots Q (F0 m pc ls (.long x :: .int i :: .ref a :: rest)) := by
  refine W.last hx hb (x_arr M r (by decide)) ((hX.1.2 1 _ rfl).1 _ _) (fun q => by cases q) (by rw [arrV_size]; exact hin) rfl rfl hdg fun H1 e z oq => ?_
  refine kk H1 _ (M.one r.1 (fun q hq => by rw [List.mem_singleton.mp hq]) z oq ⟨fun h => ?_, fun _ => ?_⟩ (fun b hb k1 => rfl) (fun b hb k1 => ?_) (fun b hb k1 => rfl) (M.2.1.wrL a _ x))
  · rw [r.2.2] at h
    exact absurd h (by decide)
  · rw [e, r.2.2, arrV_store]
    congr 2
    funext j
    simp only [updV, evX, r.2.2]
    by_cases hj : j = i.toNatClampNeg
    · subst hj
      simp [rdL, wrL, up2]
    · simp [rdL, wrL, up2, hj]
  · simp [rdL, wrL, up2, hb]
theorem x_zast (hx : p.tables.exec = Jvm.exec) (hb : c.code = cc) (hX : Kx D cA lo tS s) (M : Mm D cA lo S g s H locs) (r : Rf lo S a 22) {i : Int32} {x : Int32} (hz : narrow .boolean (.int x) = .int x) (hin : vp_in i (hpL S a)) (hdg : decode cc pc = .ok (.bastore, 1))
    (kk : ∀ (H : Heap) (locs : List Loc), Mm D cA lo S (wrI g a i.toNatClampNeg x) s H locs → W p l e R s m args below meth c H locs cells slots Q (F0 m (pc + 1) ls (rest))) : W p l e R s m args below meth c H locs cells slots Q (F0 m pc ls (.int x :: .int i :: .ref a :: rest)) := by
  refine W.zast hx hb (x_arr M r (by decide)) ((hX.1.2 2 _ rfl).1 _ _) (fun q => by cases q) (by rw [arrV_size]; exact hin) rfl rfl hdg fun H1 e z oq => ?_
  refine kk H1 _ (M.one r.1 (fun q hq => by rw [List.mem_singleton.mp hq]) z oq ⟨fun h => ?_, fun _ => ?_⟩ (fun b hb k1 => ?_) (fun b hb k1 => rfl) (fun b hb k1 => rfl) (M.2.1.wrI a _ x))
  · rw [r.2.2] at h
    exact absurd h (by decide)
  · rw [e, r.2.2, hz, arrV_store]
    congr 2
    funext j
    simp only [updV, evX, r.2.2]
    by_cases hj : j = i.toNatClampNeg
    · subst hj
      simp [rdI, wrI, up2]
    · simp [rdI, wrI, up2, hj]
  · simp [rdI, wrI, up2, hb]
theorem x_aast23 (hx : p.tables.exec = Jvm.exec) (hb : c.code = cc) (hX : Kx D cA lo tS s) (M : Mm D cA lo S g s H locs) (r : Rf lo S a 23) {i : Int32} {v : Nat} (rv : Rf lo S v 3) (hin : vp_in i (hpL S a)) (hdg : decode cc pc = .ok (.aastore, 1))
    (kk : ∀ (H : Heap) (locs : List Loc), Mm D cA lo S (wrR g a i.toNatClampNeg (some v)) s H locs → W p l e R s m args below meth c H locs cells slots Q (F0 m (pc + 1) ls (rest))) : W p l e R s m args below meth c H locs cells slots Q (F0 m pc ls (.ref v :: .int i :: .ref a :: rest)) := by
  have hlt : i.toNatClampNeg < hpL S a := Nat.not_le.mp fun q => hin (Or.inr q)
  have h0 : ¬ i < 0 := fun q => hin (Or.inl q)
  obtain ⟨cellV, g1, g2, g3, -⟩ := x_obj hX M okX3 rv
  have hcls := (hX.1.1 3 _ okX3.1).2
  obtain ⟨kA, comp, k1, k2, k3, -⟩ := (hX.1.2 3 _ rfl).2
  have hcomp : comp = D.1 3 := Option.some.inj (k3.symm.trans hcls.1)
  subst hcomp
  obtain ⟨kC, hkC, -⟩ := hcls.2
  refine W.aast hx hb (x_arr M r (by decide)) (fun q h => by cases h) (fun h => by cases h) k1 k2 rfl hkC ⟨h0, by rw [arrV_size]; exact hlt⟩ g1 (fun q h => by rw [g3] at h; cases h) (by rw [g2]; exact hkC) (by rw [g2]; exact va_assign hcls) rfl rfl hdg fun H1 e z oq => ?_
  refine kk H1 _ (M.one r.1 (fun q hq => by rw [List.mem_singleton.mp hq]) z oq ⟨fun h => ?_, fun _ => ?_⟩ (fun b hb k1 => rfl) (fun b hb k1 => rfl) (fun b hb k1 => ?_) (M.2.1.wrR r (K := 3) rfl rv.ro))
  · rw [r.2.2] at h
    exact absurd h (by decide)
  · rw [e, r.2.2, arrV_store]
    congr 2
    funext j
    simp only [updV, evX, r.2.2]
    by_cases hj : j = i.toNatClampNeg
    · subst hj
      simp [rdR, wrR, up2, va_rf]
    · simp [rdR, wrR, up2, hj]
  · simp [rdR, wrR, up2, hb]
theorem x_aast24 (hx : p.tables.exec = Jvm.exec) (hb : c.code = cc) (hX : Kx D cA lo tS s) (M : Mm D cA lo S g s H locs) (r : Rf lo S a 24) {i : Int32} {v : Nat} (rv : Rf lo S v 7) (hin : vp_in i (hpL S a)) (hdg : decode cc pc = .ok (.aastore, 1))
    (kk : ∀ (H : Heap) (locs : List Loc), Mm D cA lo S (wrR g a i.toNatClampNeg (some v)) s H locs → W p l e R s m args below meth c H locs cells slots Q (F0 m (pc + 1) ls (rest))) : W p l e R s m args below meth c H locs cells slots Q (F0 m pc ls (.ref v :: .int i :: .ref a :: rest)) := by
  have hlt : i.toNatClampNeg < hpL S a := Nat.not_le.mp fun q => hin (Or.inr q)
  have h0 : ¬ i < 0 := fun q => hin (Or.inl q)
  obtain ⟨cellV, g1, g2, g3, -⟩ := x_obj hX M okX7 rv
  have hcls := (hX.1.1 7 _ okX7.1).2
  obtain ⟨kA, comp, k1, k2, k3, -⟩ := (hX.1.2 4 _ rfl).2
  have hcomp : comp = D.1 7 := Option.some.inj (k3.symm.trans hcls.1)
  subst hcomp
  obtain ⟨kC, hkC, -⟩ := hcls.2
  refine W.aast hx hb (x_arr M r (by decide)) (fun q h => by cases h) (fun h => by cases h) k1 k2 rfl hkC ⟨h0, by rw [arrV_size]; exact hlt⟩ g1 (fun q h => by rw [g3] at h; cases h) (by rw [g2]; exact hkC) (by rw [g2]; exact va_assign hcls) rfl rfl hdg fun H1 e z oq => ?_
  refine kk H1 _ (M.one r.1 (fun q hq => by rw [List.mem_singleton.mp hq]) z oq ⟨fun h => ?_, fun _ => ?_⟩ (fun b hb k1 => rfl) (fun b hb k1 => rfl) (fun b hb k1 => ?_) (M.2.1.wrR r (K := 7) rfl rv.ro))
  · rw [r.2.2] at h
    exact absurd h (by decide)
  · rw [e, r.2.2, arrV_store]
    congr 2
    funext j
    simp only [updV, evX, r.2.2]
    by_cases hj : j = i.toNatClampNeg
    · subst hj
      simp [rdR, wrR, up2, va_rf]
    · simp [rdR, wrR, up2, hj]
  · simp [rdR, wrR, up2, hb]
theorem x_aast25 (hx : p.tables.exec = Jvm.exec) (hb : c.code = cc) (hX : Kx D cA lo tS s) (M : Mm D cA lo S g s H locs) (r : Rf lo S a 25) {i : Int32} {v : Nat} (rv : Rf lo S v 0) (hin : vp_in i (hpL S a)) (hdg : decode cc pc = .ok (.aastore, 1))
    (kk : ∀ (H : Heap) (locs : List Loc), Mm D cA lo S (wrR g a i.toNatClampNeg (some v)) s H locs → W p l e R s m args below meth c H locs cells slots Q (F0 m (pc + 1) ls (rest))) : W p l e R s m args below meth c H locs cells slots Q (F0 m pc ls (.ref v :: .int i :: .ref a :: rest)) := by
  have hlt : i.toNatClampNeg < hpL S a := Nat.not_le.mp fun q => hin (Or.inr q)
  have h0 : ¬ i < 0 := fun q => hin (Or.inl q)
  obtain ⟨cellV, g1, g2, g3, -⟩ := x_obj hX M okX0 rv
  have hcls := (hX.1.1 0 _ okX0.1).2
  obtain ⟨kA, comp, k1, k2, k3, -⟩ := (hX.1.2 5 _ rfl).2
  have hcomp : comp = D.1 0 := Option.some.inj (k3.symm.trans hcls.1)
  subst hcomp
  obtain ⟨kC, hkC, -⟩ := hcls.2
  refine W.aast hx hb (x_arr M r (by decide)) (fun q h => by cases h) (fun h => by cases h) k1 k2 rfl hkC ⟨h0, by rw [arrV_size]; exact hlt⟩ g1 (fun q h => by rw [g3] at h; cases h) (by rw [g2]; exact hkC) (by rw [g2]; exact va_assign hcls) rfl rfl hdg fun H1 e z oq => ?_
  refine kk H1 _ (M.one r.1 (fun q hq => by rw [List.mem_singleton.mp hq]) z oq ⟨fun h => ?_, fun _ => ?_⟩ (fun b hb k1 => rfl) (fun b hb k1 => rfl) (fun b hb k1 => ?_) (M.2.1.wrR r (K := 0) rfl rv.ro))
  · rw [r.2.2] at h
    exact absurd h (by decide)
  · rw [e, r.2.2, arrV_store]
    congr 2
    funext j
    simp only [updV, evX, r.2.2]
    by_cases hj : j = i.toNatClampNeg
    · subst hj
      simp [rdR, wrR, up2, va_rf]
    · simp [rdR, wrR, up2, hj]
  · simp [rdR, wrR, up2, hb]
theorem x_aast26 (hx : p.tables.exec = Jvm.exec) (hb : c.code = cc) (hX : Kx D cA lo tS s) (M : Mm D cA lo S g s H locs) (r : Rf lo S a 26) {i : Int32} {v : Nat} (rv : Rf lo S v 10) (hin : vp_in i (hpL S a)) (hdg : decode cc pc = .ok (.aastore, 1))
    (kk : ∀ (H : Heap) (locs : List Loc), Mm D cA lo S (wrR g a i.toNatClampNeg (some v)) s H locs → W p l e R s m args below meth c H locs cells slots Q (F0 m (pc + 1) ls (rest))) : W p l e R s m args below meth c H locs cells slots Q (F0 m pc ls (.ref v :: .int i :: .ref a :: rest)) := by
  have hlt : i.toNatClampNeg < hpL S a := Nat.not_le.mp fun q => hin (Or.inr q)
  have h0 : ¬ i < 0 := fun q => hin (Or.inl q)
  obtain ⟨cellV, g1, g2, g3, -⟩ := x_obj hX M okX10 rv
  have hcls := (hX.1.1 10 _ okX10.1).2
  obtain ⟨kA, comp, k1, k2, k3, -⟩ := (hX.1.2 6 _ rfl).2
  have hcomp : comp = D.1 10 := Option.some.inj (k3.symm.trans hcls.1)
  subst hcomp
  obtain ⟨kC, hkC, -⟩ := hcls.2
  refine W.aast hx hb (x_arr M r (by decide)) (fun q h => by cases h) (fun h => by cases h) k1 k2 rfl hkC ⟨h0, by rw [arrV_size]; exact hlt⟩ g1 (fun q h => by rw [g3] at h; cases h) (by rw [g2]; exact hkC) (by rw [g2]; exact va_assign hcls) rfl rfl hdg fun H1 e z oq => ?_
  refine kk H1 _ (M.one r.1 (fun q hq => by rw [List.mem_singleton.mp hq]) z oq ⟨fun h => ?_, fun _ => ?_⟩ (fun b hb k1 => rfl) (fun b hb k1 => rfl) (fun b hb k1 => ?_) (M.2.1.wrR r (K := 10) rfl rv.ro))
  · rw [r.2.2] at h
    exact absurd h (by decide)
  · rw [e, r.2.2, arrV_store]
    congr 2
    funext j
    simp only [updV, evX, r.2.2]
    by_cases hj : j = i.toNatClampNeg
    · subst hj
      simp [rdR, wrR, up2, va_rf]
    · simp [rdR, wrR, up2, hj]
  · simp [rdR, wrR, up2, hb]
theorem x_alen20 (hx : p.tables.exec = Jvm.exec) (hb : c.code = cc) (hX : Kx D cA lo tS s) (M : Mm D cA lo S g s H locs) (r : Rf lo S a 20) (hdg : decode cc pc = .ok (.arraylength, 1))
    (kk : W p l e R s m args below meth c H locs cells slots Q (F0 m (pc + 1) ls (.int (nI (hpL S a)) :: rest))) : W p l e R s m args below meth c H locs cells slots Q (F0 m pc ls (.ref a :: rest)) :=
  W.alen (n := nI (hpL S a)) hx hb (x_arr M r (by decide)) ((hX.1.2 0 _ rfl).1 _ _) (by rw [arrV_size]; rfl) rfl rfl hdg kk
theorem x_alen21 (hx : p.tables.exec = Jvm.exec) (hb : c.code = cc) (hX : Kx D cA lo tS s) (M : Mm D cA lo S g s H locs) (r : Rf lo S a 21) (hdg : decode cc pc = .ok (.arraylength, 1))
    (kk : W p l e R s m args below meth c H locs cells slots Q (F0 m (pc + 1) ls (.int (nI (hpL S a)) :: rest))) : W p l e R s m args below meth c H locs cells slots Q (F0 m pc ls (.ref a :: rest)) :=
  W.alen (n := nI (hpL S a)) hx hb (x_arr M r (by decide)) ((hX.1.2 1 _ rfl).1 _ _) (by rw [arrV_size]; rfl) rfl rfl hdg kk
theorem x_alen22 (hx : p.tables.exec = Jvm.exec) (hb : c.code = cc) (hX : Kx D cA lo tS s) (M : Mm D cA lo S g s H locs) (r : Rf lo S a 22) (hdg : decode cc pc = .ok (.arraylength, 1))
    (kk : W p l e R s m args below meth c H locs cells slots Q (F0 m (pc + 1) ls (.int (nI (hpL S a)) :: rest))) : W p l e R s m args below meth c H locs cells slots Q (F0 m pc ls (.ref a :: rest)) :=
  W.alen (n := nI (hpL S a)) hx hb (x_arr M r (by decide)) ((hX.1.2 2 _ rfl).1 _ _) (by rw [arrV_size]; rfl) rfl rfl hdg kk
theorem x_tbl (hx : p.tables.exec = Jvm.exec) (hb : c.code = cc) (hX : Kx D cA lo tS s) (M : Mm D cA lo S g s H locs) {i : Int32} (hin : vp_in i 9) (hdg : decode cc pc = .ok (.iaload, 1))
    (kk : W p l e R s m args below meth c H locs cells slots Q (F0 m (pc + 1) ls (.int (lvT i.toNatClampNeg) :: rest))) : W p l e R s m args below meth c H locs cells slots Q (F0 m pc ls (.int i :: .ref tS :: rest)) := va_ti hx hb hX.2.2.2 M.2.2 hin rfl hdg kk
theorem x_gets (hx : p.tables.exec = Jvm.exec) (hb : c.code = cc) (hown : s.vm.findClass own = some m.cls) (hX : Kx D cA lo tS s) (M : Mm D cA lo S g s H locs) {index : Nat} (hlink : Cond.fieldLinkNest own index "GlassLog" "LEVEL_START" "[I" "GlassLog" ∈ lw_tbl) (hdg : decode cc pc = .ok (.getstatic index, 3))
    (kk : W p l e R s m args below meth c H locs cells slots Q (F0 m (pc + 3) ls (.ref tS :: rest))) : W p l e R s m args below meth c H locs cells slots Q (F0 m pc ls (rest)) := va_getsN hx hb hX.2.2.1 M.2.2 hown (hX.hts args _ (mw hlink rfl)) (fun _ h => h) hdg kk
end XR
