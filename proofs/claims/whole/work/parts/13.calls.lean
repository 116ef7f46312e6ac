/-! what the programs are made of, as functions -/
def inb (i : Int32) (n : Nat) : Bool := !(decide (i < 0) || decide (n ≤ i.toNatClampNeg))
theorem inb_in {i : Int32} {n : Nat} (h : inb i n = true) : vp_in i n := by
  intro q
  rcases q with q | q <;> simp [inb, q] at h
theorem in_inb {i : Int32} {n : Nat} (h : vp_in i n) : inb i n = true := by
  have h1 : ¬ i < 0 := fun q => h (Or.inl q)
  have h2 : ¬ n ≤ i.toNatClampNeg := fun q => h (Or.inr q)
  simp [inb, h1, h2]
def ck {α : Type} (b : Bool) (k : Option α) : Option α := bif b then k else none
theorem ck_s {α : Type} {b : Bool} {k : Option α} {x : α} (q : ck b k = some x) : b = true ∧ k = some x := by
  cases b
  · cases q
  · exact ⟨rfl, q⟩
def nn {α : Type} (o : Option Nat) (k : Nat → Option α) : Option α := match o with
  | some b => k b
  | none => none
theorem nn_s {α : Type} {o : Option Nat} {k : Nat → Option α} {x : α} (q : nn o k = some x) : ∃ b, o = some b ∧ k b = some x := by
  cases o with
  | none => cases q
  | some b => exact ⟨b, rfl, q⟩
def nm {α β : Type} (x : β) (k : β → Option α) : Option α := k x
theorem nm_s {α β : Type} {x y : β} {k : β → Option α} {z : Option α} (q : nm x k = z) (h : y = x) : k y = z := by rw [h]; exact q
def on {α : Type} (v : Option Nat) (A : α) (B : Nat → α) : α := match v with
  | none => A
  | some b => B b
theorem on_n {α : Type} {v : Option Nat} {A : α} {B : Nat → α} {x : α} (h : v = none) (q : on v A B = x) : A = x := by rw [h] at q; exact q
theorem on_s {α : Type} {v : Option Nat} {A : α} {B : Nat → α} {x : α} {b : Nat} (h : v = some b) (q : on v A B = x) : B b = x := by rw [h] at q; exact q
theorem if_t {α : Type} {c : Prop} {i : Decidable c} {a b x : α} (h : c) (q : (@ite α c i a b) = x) : a = x := by rw [if_pos h] at q; exact q
theorem if_f {α : Type} {c : Prop} {i : Decidable c} {a b x : α} (h : ¬ c) (q : (@ite α c i a b) = x) : b = x := by rw [if_neg h] at q; exact q
def c2 {α ρ : Type} (o : Option (ρ × Hg)) (k : ρ → Hg → Option α) : Option α := match o with
  | some q => k q.1 q.2
  | none => none
theorem c2_s {α ρ : Type} {o : Option (ρ × Hg)} {k : ρ → Hg → Option α} {x : α} (q : c2 o k = some x) : ∃ r g, o = some (r, g) ∧ k r g = some x := by
  cases o with
  | none => cases q
  | some b => exact ⟨b.1, b.2, rfl, q⟩
def tk {ρ : Type} (k w : Nat) (o : Option (ρ × Hs × Hg × Nat × Nat)) : Option (ρ × Hs × Hg × Nat × Nat) := match o with
  | some q => some (q.1, q.2.1, q.2.2.1, k + q.2.2.2.1, w + q.2.2.2.2)
  | none => none
theorem tk_s {ρ : Type} {k w k2 w2 : Nat} {r : ρ} {S : Hs} {g : Hg} {o : Option (ρ × Hs × Hg × Nat × Nat)} (q : tk k w o = some (r, S, g, k2, w2)) : ∃ k1 w1, k2 = k + k1 ∧ w2 = w + w1 ∧ o = some (r, S, g, k1, w1) := by
  cases o with
  | none => cases q
  | some b =>
    obtain ⟨r', S', g', k', w'⟩ := b
    cases q
    exact ⟨k', w', rfl, rfl, rfl⟩
def c5 {α ρ : Type} (o : Option (α × Hs × Hg × Nat × Nat)) (k : α → Hs → Hg → Option (ρ × Hs × Hg × Nat × Nat)) : Option (ρ × Hs × Hg × Nat × Nat) := match o with
  | some q => tk q.2.2.2.1 q.2.2.2.2 (k q.1 q.2.1 q.2.2.1)
  | none => none
theorem c5_s {α ρ : Type} {o : Option (α × Hs × Hg × Nat × Nat)} {k : α → Hs → Hg → Option (ρ × Hs × Hg × Nat × Nat)} {k2 w2 : Nat} {r : ρ} {S : Hs} {g : Hg} (q : c5 o k = some (r, S, g, k2, w2)) : ∃ r1 S1 g1 ka wa k1 w1, o = some (r1, S1, g1, ka, wa) ∧ k2 = ka + k1 ∧ w2 = wa + w1 ∧ k r1 S1 g1 = some (r, S, g, k1, w1) := by
  cases o with
  | none => cases q
  | some b =>
    obtain ⟨r', S', g', k', w'⟩ := b
    obtain ⟨k1, w1, e1, e2, q⟩ := tk_s q
    exact ⟨r', S', g', k', w', k1, w1, rfl, e1, e2, q⟩
def lenok (i : Int32) : Bool := !(decide (i < 0)) && decide (i.toNatClampNeg ≤ 1000000)
theorem lenok_s {i : Int32} (h : lenok i = true) : ¬ i < 0 ∧ i.toNatClampNeg ≤ 1000000 := by simpa [lenok] using h
def al {ρ : Type} (S : Hs) (g : Hg) (K n : Nat) (k : Nat → Hs → Hg → Option (ρ × Hs × Hg × Nat × Nat)) : Option (ρ × Hs × Hg × Nat × Nat) := tk 1 n (k (hpN S) (nwS S K n) (nwG S g))
/-! contracts -/
def Pcx (D : va_G) (cA : Nat → ClassId) (lo tS : Nat) (S : Hs) (g : Hg) (U : State) : Prop := Hold D cA lo S g U.heap ∧ Okk lo S g ∧ Kx D cA lo tS U
def Qcx (D : va_G) (cA : Nat → ClassId) (lo : Nat) (S : Hs) (v : Option Value) (S1 : Hs) (g1 : Hg) (F : Prop) : Array Value → State → Outcome → State → Prop := fun _ st oc t => oc = .returned v ∧ Hold D cA lo S1 g1 t.heap ∧ Okk lo S1 g1 ∧ (Ext lo S S1 ∧ F) ∧ va_F (fun q : Nat => lo ≤ q) st t
def rmX (d k w : Nat) : Room := { frames := d, cells := k, slots := w, locals := 60 * d }
def Ctr (l : Launch) (y : MethodName) (cc : ByteArray) (nL : Nat) (ret : Option FieldType) (D : va_G) (cA : Nat → ClassId) (lo tS : Nat) (av : List Value) (S : Hs) (g : Hg) (d : Nat) (v : Option Value) (S1 : Hs) (g1 : Hg) (F : Prop) (k w : Nat) : Prop :=
  Met l y [.code y cc nL ret] (rmX d k w) (va_Pc av (Pcx D cA lo tS S g)) (Qcx D cA lo S v S1 g1 F) k w (fun q : Nat => lo ≤ q)
theorem Pcx.blind {D : va_G} {cA : Nat → ClassId} {lo tS : Nat} {S : Hs} {g : Hg} (av : List Value) : FrameBlind (va_Pc av (Pcx D cA lo tS S g)) := fun a U f mk q => ⟨q.1, q.2.1, q.2.2.1, q.2.2.2.same rfl rfl⟩
def MOk (y : MethodName) (cc : ByteArray) (nL : Nat) (ret : Option FieldType) (n : Nat) : Prop := (Cond.code y cc nL ret ∈ lw_tbl ∧ Cond.initialized y.cls ∈ lw_tbl) ∧ (y.cls ≠ "java/lang/invoke/MethodHandle" ∧ y.cls ≠ "java/lang/invoke/VarHandle" ∧ (parseMethodDescriptor y.desc).map (fun d => d.parameters.length) = some n) ∧ nL ≤ 40
theorem good1 {y : MethodName} {cc : ByteArray} {nL : Nat} {ret : Option FieldType} (h : Cond.code y cc nL ret ∈ lw_tbl) : GoodIn lw_wds [.code y cc nL ret] := fun w hw => by
  rw [List.mem_singleton.mp hw]
  exact ⟨mw h rfl, Or.inl rfl⟩
section XC
variable {p : Program} {l : Launch} {e : Env} {R : Room} {s : State} {m : MethodId} {args : Array Value} {below : List Frame} {meth : Method} {c : Code} {H : Heap} {locs : List Loc} {cells slots : Nat} {Q : State → Prop} {cc : ByteArray} {pc : Nat} {ls : Array Slot} {rest : List Value} {D : va_G} {cA : Nat → ClassId} {lo tS : Nat} {S : Hs} {g : Hg} {a : Nat} {own : String}
theorem x_after {v : Option Value} {S1 : Hs} {g1 : Hg} {F : Prop} {mc ms : Nat} {st0 : List Value} {av : Array Value} (hr : va_Run p l e R s m args below meth c H locs cells slots mc ms (F0 m pc ls st0) rest (Qcx D cA lo S v S1 g1 F av) (fun q : Nat => lo ≤ q)) (M : Mm D cA lo S g s H locs)
    (kk : ∀ (H : Heap) (locs : List Loc), Mm D cA lo S1 g1 s H locs → Ext lo S S1 ∧ F → W p l e R s m args below meth c H locs (cells + mc) (slots + ms) Q (F0 m (pc + 3) ls (v.toList ++ rest))) : W p l e R s m args below meth c H locs cells slots Q (F0 m pc ls st0) := by
  intro T hT X
  obtain ⟨v', st₀, t, T', L, h0, X', hL, e1, e2, ⟨hv, hH, hO, hE, hF⟩, st⟩ := hr T hT X
  cases hv
  have hz := hF.1
  have hk := hF.2
  rw [h0] at hz hk
  obtain ⟨t2, a1, b1⟩ := kk T'.heap (locs ++ L) ⟨by rw [e1]; exact hH, hO, ⟨Nat.le_trans M.2.2.1 (by rw [e1]; exact hz), fun q h1 h2 => by rw [e1, hk q (Nat.lt_of_lt_of_le h1 M.2.2.1) h2]; exact M.2.2.2.1 q h1 h2, fun q hq => by
      rcases List.mem_append.mp hq with h | h
      · exact M.2.2.2.2 q h
      · exact hL q h⟩⟩ hE T' rfl X'
  exact ⟨t2, st t2 a1, b1⟩
theorem x_pre (hX : Kx D cA lo tS s) (M : Mm D cA lo S g s H locs) (av : List Value) : ∀ U : State, U.heap = H → s.WarmedH U.vm → va_Pc av (Pcx D cA lo tS S g) av.toArray U := fun U hU hW => ⟨rfl, by rw [hU]; exact M.1, M.2.1, hX.moved hW (by rw [hU]; exact M.2.2)⟩

theorem x_callV (hx : p.tables.exec = Jvm.exec) (hb : c.code = cc) {nL : Nat} (hml : c.maxLocals = nL) (hls : ls.size = nL) (hown : s.vm.findClass own = some m.cls) (hX : Kx D cA lo tS s) (M : Mm D cA lo S g s H locs) {y : MethodName} {cc2 : ByteArray} {nL2 n d k w index : Nat} {ret : Option FieldType} {As : List Value} {v : Option Value} {S1 : Hs} {g1 : Hg} {F : Prop} {st0 : List Value}  {ci N b : Nat} {Cn : String} {T : u_T} {ty0 : Nat → FieldType} (K : ClsOk ci Cn T N ty0) (rb : Rf lo S b ci) (hcn : y.cls = Cn) (hin : Cond.instanceMethod y ∈ lw_tbl) (hsel : Cond.selects Cn y y ∈ lw_tbl) (O : MOk y cc2 nL2 ret n) (hC : Ctr l y cc2 nL2 ret D cA lo tS (.ref b :: As) S g d v S1 g1 F k w) (hl : Cond.methodLink own index y ∈ lw_tbl) (hn : As.length = n) (hst : st0 = As.reverse ++ .ref b :: rest) (hdg : decode cc pc = .ok (.invokevirtual index, 3)) (hroom : (rest.map fun v => v.category).sum ≤ 8) (hd : d + 1 ≤ R.frames ∧ 60 * (d + 1) ≤ R.locals) (hcell : cells + k ≤ R.cells) (hslot : slots + w ≤ R.slots)
    (kk : ∀ (H : Heap) (locs : List Loc), Mm D cA lo S1 g1 s H locs → Ext lo S S1 ∧ F → W p l e R s m args below meth c H locs (cells + k) (slots + w) Q (F0 m (pc + 3) ls (v.toList ++ rest))) : W p l e R s m args below meth c H locs cells slots Q (F0 m pc ls st0) := by
  have hts := hX.hts args
  have hR : (rmX d k w).frames + 1 ≤ R.frames ∧ 8 + (nL2 + 11) + (rmX d k w).locals ≤ R.locals := ⟨hd.1, by have h1 := hd.2; have h2 := O.2.2; show 8 + (nL2 + 11) + 60 * d ≤ R.locals; omega⟩
  exact x_after (va_runV (Ts := lw_wds) (As := As) (b := b) (rest := rest) ⟨hx, hb, hml, hown, hts⟩ hC ⟨callB_of (ret := ret) n hts (good1 O.1.1) rfl rfl rfl (hts _ (mw O.1.2 rfl)) (hts _ (mw hl rfl)) O.2.1 hR, hts _ (mw hin rfl), hts _ (mw hsel rfl)⟩ ⟨Pcx.blind _, x_recv hX M K rb, x_pre hX M _⟩ rfl hn hls hst (lv_room hroom) hdg ⟨hcell, hslot⟩) M kk

theorem x_callS (hx : p.tables.exec = Jvm.exec) (hb : c.code = cc) {nL : Nat} (hml : c.maxLocals = nL) (hls : ls.size = nL) (hown : s.vm.findClass own = some m.cls) (hX : Kx D cA lo tS s) (M : Mm D cA lo S g s H locs) {y : MethodName} {cc2 : ByteArray} {nL2 n d k w index : Nat} {ret : Option FieldType} {As : List Value} {v : Option Value} {S1 : Hs} {g1 : Hg} {F : Prop} {st0 : List Value}  (hin : Cond.static y ∈ lw_tbl) (O : MOk y cc2 nL2 ret n) (hC : Ctr l y cc2 nL2 ret D cA lo tS As S g d v S1 g1 F k w) (hl : Cond.methodLink own index y ∈ lw_tbl) (hn : As.length = n) (hst : st0 = As.reverse ++ rest) (hdg : decode cc pc = .ok (.invokestatic index, 3)) (hroom : (rest.map fun v => v.category).sum ≤ 8) (hd : d + 1 ≤ R.frames ∧ 60 * (d + 1) ≤ R.locals) (hcell : cells + k ≤ R.cells) (hslot : slots + w ≤ R.slots)
    (kk : ∀ (H : Heap) (locs : List Loc), Mm D cA lo S1 g1 s H locs → Ext lo S S1 ∧ F → W p l e R s m args below meth c H locs (cells + k) (slots + w) Q (F0 m (pc + 3) ls (v.toList ++ rest))) : W p l e R s m args below meth c H locs cells slots Q (F0 m pc ls st0) := by
  have hts := hX.hts args
  have hR : (rmX d k w).frames + 1 ≤ R.frames ∧ 8 + (nL2 + 11) + (rmX d k w).locals ≤ R.locals := ⟨hd.1, by have h1 := hd.2; have h2 := O.2.2; show 8 + (nL2 + 11) + 60 * d ≤ R.locals; omega⟩
  exact x_after (va_runS (Ts := lw_wds) (As := As) (rest := rest) ⟨hx, hb, hml, hown, hts⟩ hC ⟨callB_of (ret := ret) n hts (good1 O.1.1) rfl rfl rfl (hts _ (mw O.1.2 rfl)) (hts _ (mw hl rfl)) O.2.1 hR, hts _ (mw hin rfl)⟩ ⟨Pcx.blind _, x_pre hX M _⟩ rfl hn hls hst (lv_room hroom) hdg ⟨hcell, hslot⟩) M kk

theorem x_callSN (hx : p.tables.exec = Jvm.exec) (hb : c.code = cc) {nL : Nat} (hml : c.maxLocals = nL) (hls : ls.size = nL) (hown : s.vm.findClass own = some m.cls) (hX : Kx D cA lo tS s) (M : Mm D cA lo S g s H locs) {y : MethodName} {cc2 : ByteArray} {nL2 n d k w index : Nat} {ret : Option FieldType} {As : List Value} {v : Option Value} {S1 : Hs} {g1 : Hg} {F : Prop} {st0 : List Value} {host : String}  (hin : Cond.static y ∈ lw_tbl) (O : MOk y cc2 nL2 ret n) (hC : Ctr l y cc2 nL2 ret D cA lo tS As S g d v S1 g1 F k w) (hl : Cond.methodLinkNest own index y host ∈ lw_tbl) (hn : As.length = n) (hst : st0 = As.reverse ++ rest) (hdg : decode cc pc = .ok (.invokestatic index, 3)) (hroom : (rest.map fun v => v.category).sum ≤ 8) (hd : d + 1 ≤ R.frames ∧ 60 * (d + 1) ≤ R.locals) (hcell : cells + k ≤ R.cells) (hslot : slots + w ≤ R.slots)
    (kk : ∀ (H : Heap) (locs : List Loc), Mm D cA lo S1 g1 s H locs → Ext lo S S1 ∧ F → W p l e R s m args below meth c H locs (cells + k) (slots + w) Q (F0 m (pc + 3) ls (v.toList ++ rest))) : W p l e R s m args below meth c H locs cells slots Q (F0 m pc ls st0) := by
  have hts := hX.hts args
  have hR : (rmX d k w).frames + 1 ≤ R.frames ∧ 8 + (nL2 + 11) + (rmX d k w).locals ≤ R.locals := ⟨hd.1, by have h1 := hd.2; have h2 := O.2.2; show 8 + (nL2 + 11) + 60 * d ≤ R.locals; omega⟩
  exact x_after (va_runSN (Ts := lw_wds) (As := As) (rest := rest) ⟨hx, hb, hml, hown, hts⟩ hC ⟨va_cnB (ret := ret) n hts (good1 O.1.1) rfl rfl rfl (hX.2.1 _ (mw hl rfl)) (hts _ (mw O.1.2 rfl)) O.2.1 hR, hts _ (mw hin rfl), trivial⟩ ⟨Pcx.blind _, x_pre hX M _⟩ rfl hn hls hst (lv_room hroom) hdg ⟨hcell, hslot⟩) M kk

theorem x_callI (hx : p.tables.exec = Jvm.exec) (hb : c.code = cc) {nL : Nat} (hml : c.maxLocals = nL) (hls : ls.size = nL) (hown : s.vm.findClass own = some m.cls) (hX : Kx D cA lo tS s) (M : Mm D cA lo S g s H locs) {y : MethodName} {cc2 : ByteArray} {nL2 n d k w index : Nat} {As : List Value} {v : Option Value} {S1 : Hs} {g1 : Hg} {F : Prop} {st0 : List Value}  {b : Nat} (hin : Cond.instanceMethod y ∈ lw_tbl) (hnm : y.name = "<init>") (O : MOk y cc2 nL2 none n) (hC : Ctr l y cc2 nL2 none D cA lo tS (.ref b :: As) S g d v S1 g1 F k w) (hl : Cond.methodLink own index y ∈ lw_tbl) (hn : As.length = n) (hst : st0 = As.reverse ++ .ref b :: rest) (hdg : decode cc pc = .ok (.invokespecial index, 3)) (hroom : (rest.map fun v => v.category).sum ≤ 8) (hd : d + 1 ≤ R.frames ∧ 60 * (d + 1) ≤ R.locals) (hcell : cells + k ≤ R.cells) (hslot : slots + w ≤ R.slots)
    (kk : ∀ (H : Heap) (locs : List Loc), Mm D cA lo S1 g1 s H locs → Ext lo S S1 ∧ F → W p l e R s m args below meth c H locs (cells + k) (slots + w) Q (F0 m (pc + 3) ls (v.toList ++ rest))) : W p l e R s m args below meth c H locs cells slots Q (F0 m pc ls st0) := by
  have hts := hX.hts args
  have hR : (rmX d k w).frames + 1 ≤ R.frames ∧ 8 + (nL2 + 11) + (rmX d k w).locals ≤ R.locals := ⟨hd.1, by have h1 := hd.2; have h2 := O.2.2; show 8 + (nL2 + 11) + 60 * d ≤ R.locals; omega⟩
  exact x_after (va_runI (Ts := lw_wds) (As := As) (b := b) (rest := rest) ⟨hx, hb, hml, hown, hts⟩ hC ⟨callB_of (ret := none) n hts (good1 O.1.1) rfl rfl rfl (hts _ (mw O.1.2 rfl)) (hts _ (mw hl rfl)) O.2.1 hR, hnm, hts _ (mw hin rfl)⟩ ⟨Pcx.blind _, x_pre hX M _⟩ rfl hn hls hst (lv_room hroom) hdg ⟨hcell, hslot⟩) M kk

theorem x_callIN (hx : p.tables.exec = Jvm.exec) (hb : c.code = cc) {nL : Nat} (hml : c.maxLocals = nL) (hls : ls.size = nL) (hown : s.vm.findClass own = some m.cls) (hX : Kx D cA lo tS s) (M : Mm D cA lo S g s H locs) {y : MethodName} {cc2 : ByteArray} {nL2 n d k w index : Nat} {As : List Value} {v : Option Value} {S1 : Hs} {g1 : Hg} {F : Prop} {st0 : List Value} {host : String}  {b : Nat} (hin : Cond.instanceMethod y ∈ lw_tbl) (hnm : y.name = "<init>") (O : MOk y cc2 nL2 none n) (hC : Ctr l y cc2 nL2 none D cA lo tS (.ref b :: As) S g d v S1 g1 F k w) (hl : Cond.methodLinkNest own index y host ∈ lw_tbl) (hn : As.length = n) (hst : st0 = As.reverse ++ .ref b :: rest) (hdg : decode cc pc = .ok (.invokespecial index, 3)) (hroom : (rest.map fun v => v.category).sum ≤ 8) (hd : d + 1 ≤ R.frames ∧ 60 * (d + 1) ≤ R.locals) (hcell : cells + k ≤ R.cells) (hslot : slots + w ≤ R.slots)
    (kk : ∀ (H : Heap) (locs : List Loc), Mm D cA lo S1 g1 s H locs → Ext lo S S1 ∧ F → W p l e R s m args below meth c H locs (cells + k) (slots + w) Q (F0 m (pc + 3) ls (v.toList ++ rest))) : W p l e R s m args below meth c H locs cells slots Q (F0 m pc ls st0) := by
  have hts := hX.hts args
  have hR : (rmX d k w).frames + 1 ≤ R.frames ∧ 8 + (nL2 + 11) + (rmX d k w).locals ≤ R.locals := ⟨hd.1, by have h1 := hd.2; have h2 := O.2.2; show 8 + (nL2 + 11) + 60 * d ≤ R.locals; omega⟩
  exact x_after (va_runIN (Ts := lw_wds) (As := As) (b := b) (rest := rest) ⟨hx, hb, hml, hown, hts⟩ hC ⟨va_cnB (ret := none) n hts (good1 O.1.1) rfl rfl rfl (hX.2.1 _ (mw hl rfl)) (hts _ (mw O.1.2 rfl)) O.2.1 hR, hnm, hts _ (mw hin rfl)⟩ ⟨Pcx.blind _, x_pre hX M _⟩ rfl hn hls hst (lv_room hroom) hdg ⟨hcell, hslot⟩) M kk

theorem x_iret {S0 : Hs} {v : Int32} (hx : p.tables.exec = Jvm.exec) (hb : c.code = cc) (hr : meth.sig.returnType = some .int) (hlocks : meth.locks = false) (M : Mm D cA lo S g s H locs) (hE : Ext lo S0 S) (hdg : decode cc pc = .ok (.ireturn, 1)) : W p l e R s m args below meth c H locs cells slots (MQ below (Qcx D cA lo S0 (some (.int v)) S g True) args s cells slots (fun q : Nat => lo ≤ q)) (F0 m pc ls [.int v]) :=
  W.iret hx hb hr (fun t ht hW => ⟨rfl, by rw [ht]; exact M.1, M.2.1, ⟨hE, trivial⟩, M.2.2.F ht⟩) M.2.2.2.2 hdg hlocks
theorem x_zret {S0 : Hs} {v : Int32} (hx : p.tables.exec = Jvm.exec) (hb : c.code = cc) (hr : meth.sig.returnType = some .boolean) (hlocks : meth.locks = false) (hz : narrow .boolean (.int v) = .int v) (M : Mm D cA lo S g s H locs) (hE : Ext lo S0 S) (hdg : decode cc pc = .ok (.ireturn, 1)) : W p l e R s m args below meth c H locs cells slots (MQ below (Qcx D cA lo S0 (some (.int v)) S g True) args s cells slots (fun q : Nat => lo ≤ q)) (F0 m pc ls [.int v]) :=
  W.zret hx hb hr hz (fun t ht hW => ⟨rfl, by rw [ht]; exact M.1, M.2.1, ⟨hE, trivial⟩, M.2.2.F ht⟩) M.2.2.2.2 hdg hlocks
theorem x_vret {S0 : Hs} (hx : p.tables.exec = Jvm.exec) (hb : c.code = cc) (hr : meth.sig.returnType = none) (hlocks : meth.locks = false) (M : Mm D cA lo S g s H locs) (hE : Ext lo S0 S) (hdg : decode cc pc = .ok (.return_, 1)) : W p l e R s m args below meth c H locs cells slots (MQ below (Qcx D cA lo S0 none S g True) args s cells slots (fun q : Nat => lo ≤ q)) (F0 m pc ls []) :=
  W.vret hx hb hr (fun t ht hW => ⟨rfl, by rw [ht]; exact M.1, M.2.1, ⟨hE, trivial⟩, M.2.2.F ht⟩) M.2.2.2.2 hdg hlocks
theorem x_aret {S0 : Hs} {v : Option Nat} {K1 : Nat} (hRo : Ro lo S v K1) {rt : FieldType} (hx : p.tables.exec = Jvm.exec) (hb : c.code = cc) (hr : meth.sig.returnType = some rt) (hrt : (∃ n, rt = .object n) ∨ ∃ t, rt = .array t) (hlocks : meth.locks = false) (M : Mm D cA lo S g s H locs) (hE : Ext lo S0 S) (hdg : decode cc pc = .ok (.areturn, 1)) : W p l e R s m args below meth c H locs cells slots (MQ below (Qcx D cA lo S0 (some (va_rf v)) S g (Ro lo S v K1)) args s cells slots (fun q : Nat => lo ≤ q)) (F0 m pc ls [va_rf v]) :=
  W.aret hx hb hr hrt (by cases v with
    | none => exact Or.inl rfl
    | some b => exact Or.inr ⟨b, rfl⟩) (fun t ht hW => ⟨rfl, by rw [ht]; exact M.1, M.2.1, ⟨hE, hRo⟩, M.2.2.F ht⟩) M.2.2.2.2 hdg hlocks
theorem x_ifnull (hx : p.tables.exec = Jvm.exec) (hb : c.code = cc) {v : Option Nat} {off : Int} {tgt : Nat} (hdg : decode cc pc = .ok (.ifnull off, 3)) (ht : (pc : Int) + off = (tgt : Int)) (kt : v = none → W p l e R s m args below meth c H locs cells slots Q (F0 m tgt ls rest)) (kf : ∀ b, v = some b → W p l e R s m args below meth c H locs cells slots Q (F0 m (pc + 3) ls rest)) : W p l e R s m args below meth c H locs cells slots Q (F0 m pc ls (va_rf v :: rest)) := by
  cases v with
  | none => exact lv_ifnullN hx hb hdg ht (kt rfl)
  | some b => exact lv_ifnull hx hb hdg (kf b rfl)
theorem x_ifnonnull (hx : p.tables.exec = Jvm.exec) (hb : c.code = cc) {v : Option Nat} {off : Int} {tgt : Nat} (hdg : decode cc pc = .ok (.ifnonnull off, 3)) (ht : (pc : Int) + off = (tgt : Int)) (kt : ∀ b, v = some b → W p l e R s m args below meth c H locs cells slots Q (F0 m tgt ls rest)) (kf : v = none → W p l e R s m args below meth c H locs cells slots Q (F0 m (pc + 3) ls rest)) : W p l e R s m args below meth c H locs cells slots Q (F0 m pc ls (va_rf v :: rest)) := by
  cases v with
  | none => exact lv_ifnonnullN hx hb hdg (kf rfl)
  | some b => exact lv_ifnonnull hx hb hdg ht (kt b rfl)
theorem x_aload_n (hx : p.tables.exec = Jvm.exec) (hb : c.code = cc) {k : Fin 4} {i : Nat} {v : Option Nat} (hdg : decode cc pc = .ok (.aload_n k, 1)) (hi : (k : Nat) = i) (hl : ls[i]? = some (.val (va_rf v))) (kk : W p l e R s m args below meth c H locs cells slots Q (F0 m (pc + 1) ls (va_rf v :: rest))) : W p l e R s m args below meth c H locs cells slots Q (F0 m pc ls rest) := by
  cases v with
  | none => exact lv_aload_nN hx hb hdg hi hl kk
  | some b => exact lv_aload_n hx hb hdg hi hl kk
theorem x_aload (hx : p.tables.exec = Jvm.exec) (hb : c.code = cc) {i : Nat} {v : Option Nat} (hdg : decode cc pc = .ok (.aload i, 2)) (hl : ls[i]? = some (.val (va_rf v))) (kk : W p l e R s m args below meth c H locs cells slots Q (F0 m (pc + 2) ls (va_rf v :: rest))) : W p l e R s m args below meth c H locs cells slots Q (F0 m pc ls rest) := by
  cases v with
  | none => exact lv_aloadN hx hb hdg hl kk
  | some b => exact lv_aload hx hb hdg hl kk
theorem x_astore_n (hx : p.tables.exec = Jvm.exec) (hb : c.code = cc) {k : Fin 4} {i nL : Nat} {v : Option Nat} {lv lv' : List (Nat × Value)} (hdg : decode cc pc = .ok (.astore_n k, 1)) (hi : (k : Nat) = i) (h : lv_has ls nL lv) (hn : i < nL) (hl : (i, va_rf v) :: lv.filter (fun q => !(q.1 == i) && !(q.1 + 1 == i && q.2.category == 2)) = lv') (kk : ∀ ls : Array Slot, lv_has ls nL lv' → W p l e R s m args below meth c H locs cells slots Q (F0 m (pc + 1) ls rest)) : W p l e R s m args below meth c H locs cells slots Q (F0 m pc ls (va_rf v :: rest)) := by
  cases v with
  | none => exact lv_astore_nN hx hb hdg hi h hn hl kk
  | some b => exact lv_astore_n hx hb hdg hi h hn hl kk
theorem x_astore (hx : p.tables.exec = Jvm.exec) (hb : c.code = cc) {i nL : Nat} {v : Option Nat} {lv lv' : List (Nat × Value)} (hdg : decode cc pc = .ok (.astore i, 2)) (h : lv_has ls nL lv) (hn : i < nL) (hl : (i, va_rf v) :: lv.filter (fun q => !(q.1 == i) && !(q.1 + 1 == i && q.2.category == 2)) = lv') (kk : ∀ ls : Array Slot, lv_has ls nL lv' → W p l e R s m args below meth c H locs cells slots Q (F0 m (pc + 2) ls rest)) : W p l e R s m args below meth c H locs cells slots Q (F0 m pc ls (va_rf v :: rest)) := by
  cases v with
  | none => exact lv_astoreN hx hb hdg h hn hl kk
  | some b => exact lv_astore hx hb hdg h hn hl kk
theorem x_topo {v : Option Nat} (k : ∀ y : Option Nat, y = v → W p l e R s m args below meth c H locs cells slots Q (F0 m pc ls (va_rf y :: rest))) : W p l e R s m args below meth c H locs cells slots Q (F0 m pc ls (va_rf v :: rest)) := k v rfl
theorem x_objinit (hx : p.tables.exec = Jvm.exec) (hb : c.code = cc) {nL : Nat} (hml : c.maxLocals = nL) (hls : ls.size = nL) (hown : s.vm.findClass own = some m.cls) (hX : Kx D cA lo tS s) {idx : Nat} (hl : Cond.methodLink own idx Lib.objectInit ∈ lw_tbl) (hi : Cond.instanceMethod Lib.objectInit ∈ lw_tbl) (hc : Cond.code Lib.objectInit ⟨#[0xb1]⟩ 1 none ∈ lw_tbl) {b : Nat} (hdg : decode cc pc = .ok (.invokespecial idx, 3)) (hroom : (rest.map fun v => v.category).sum ≤ 8) (hd : 1 ≤ R.frames ∧ 60 ≤ R.locals)
    (kk : W p l e R s m args below meth c H locs cells slots Q (F0 m (pc + 3) ls rest)) : W p l e R s m args below meth c H locs cells slots Q (F0 m pc ls (.ref b :: rest)) := by
  have hts := hX.hts args
  exact W.objInit hx hb hown (hts _ (mw hl rfl)) (hts _ (mw hi rfl)) (hts _ (mw hc rfl)) rfl (hls.trans hml.symm) rfl hdg hd.1 (by have h := lv_room (m := m) (pc := pc) (ls := ls) (rest := (.ref b :: rest)) hroom; have h2 := hd.2; omega) kk
theorem x_met {y : MethodName} {nL d k w : Nat} {ret : Option FieldType} {av : List Value} {v : Option Value} {S1 : Hs} {g1 : Hg} {F : Prop} (hy : plainName y.cls = true) (hav : (lg_sl av).length ≤ nL)
    (body : ∀ (p : Program) (e : Env) (s : State) (m : MethodId) (below : List Frame) (meth : Method) (c : Code) (ls : Array Slot), p.tables.exec = Jvm.exec → c.code = cc → c.maxLocals = nL → meth.sig.returnType = ret → meth.locks = false → s.vm.findClass y.cls = some m.cls → meth.name = y.name → Kx D cA lo tS s → Mm D cA lo S g s s.heap [] → lv_has ls nL (lv_args 0 av) →
      W p l e (rmX d k w) s m av.toArray below meth c s.heap [] 0 0 (MQ below (Qcx D cA lo S v S1 g1 F) av.toArray s k w (fun q : Nat => lo ≤ q)) (F0 m 0 ls [])) : Ctr l y cc nL ret D cA lo tS av S g d v S1 g1 F k w := by
  refine Met.ofW (cc := cc) (maxL := nL) (ret := ret) hy rfl ?_
  intro p e s m args below meth c s₁ B hml hv
  obtain ⟨rfl, hH, hO, hX⟩ := hv
  have hl := lv_entry av (n := nL) hav
  rw [lg_entry_eq]
  generalize (lg_sl av ++ List.replicate (nL - (lg_sl av).length) Slot.unset).toArray = ls at hl ⊢
  exact body p e s m below meth c ls B.exec B.bytes hml B.returns B.notSynchronized (findClass_of_methodNamed B.named) (name_of_methodNamed B.named B.method).1 hX ⟨hH, hO, va_S.rf⟩ hl

theorem ac_20 : Cond.arrayClass .int ∈ lw_tbl := List.mem_of_getElem? (i := 90) (by decide +kernel)
theorem x_newa20 (hx : p.tables.exec = Jvm.exec) (hb : c.code = cc) (hX : Kx D cA lo tS s) (M : Mm D cA lo S g s H locs) {i : Int32} (hi : lenok i = true) (hcells : cells + 1 ≤ R.cells) (hslots : slots + i.toNatClampNeg ≤ R.slots) (hdg : decode cc pc = .ok (.newarray .int, 2))
    (kk : ∀ (H : Heap), Mm D cA lo (nwS S 20 i.toNatClampNeg) (nwG S g) s H locs → Rf lo (nwS S 20 i.toNatClampNeg) (hpN S) 20 → Ext lo S (nwS S 20 i.toNatClampNeg) → W p l e R s m args below meth c H locs (cells + 1) (slots + i.toNatClampNeg) Q (F0 m (pc + 2) ls (.ref (hpN S) :: rest))) : W p l e R s m args below meth c H locs cells slots Q (F0 m pc ls (.int i :: rest)) := by
  obtain ⟨h0, h1⟩ := lenok_s hi
  have h8 : componentBytes (newarray.typeOf .int) ≤ 8 := by decide
  have hB : i.toNatClampNeg * componentBytes (newarray.typeOf .int) ≤ 536870912 := Nat.le_trans (Nat.mul_le_mul h1 h8) (by decide)
  refine va_newaK (atype := .int) hx hb (hX.hts args _ (mw ac_20 rfl)) rfl hdg rfl h0 rfl hB hcells hslots M.1.2.1 fun H1 c1 e1 z1 o1 hAr hNm => ?_
  have hc1 : c1 = cA 20 := Option.some.inj (hNm.symm.trans (hX.1.2 0 _ rfl).2)
  subst hc1
  refine kk H1 (M.born 20 _ (by rw [z1, M.1.2.1]) (fun q hq => o1 q (by rw [← M.1.2.1]; exact hq)) ⟨fun h => ?_, fun _ => ?_⟩) (Rf.new M.1.1 _ _) (Ext.nw _ _)
  · rw [(Rf.new M.1.1 20 i.toNatClampNeg).2.2] at h
    exact absurd h (by decide)
  · rw [e1, (Rf.new M.1.1 20 i.toNatClampNeg).2.2]
    have hL : hpL (nwS S 20 i.toNatClampNeg) (hpN S) = i.toNatClampNeg := by show va_up _ _ _ S.1 = _; simp [va_up]
    rw [hL]
    congr 2
    funext j
    simp only [evX, (Rf.new M.1.1 20 i.toNatClampNeg).2.2]
    simp [rdI, rdL, rdR, nwG, va_up, hpN, newarray.typeOf, defaultValue]
theorem ac_21 : Cond.arrayClass .long ∈ lw_tbl := List.mem_of_getElem? (i := 242) (by decide +kernel)
theorem x_newa21 (hx : p.tables.exec = Jvm.exec) (hb : c.code = cc) (hX : Kx D cA lo tS s) (M : Mm D cA lo S g s H locs) {i : Int32} (hi : lenok i = true) (hcells : cells + 1 ≤ R.cells) (hslots : slots + i.toNatClampNeg ≤ R.slots) (hdg : decode cc pc = .ok (.newarray .long, 2))
    (kk : ∀ (H : Heap), Mm D cA lo (nwS S 21 i.toNatClampNeg) (nwG S g) s H locs → Rf lo (nwS S 21 i.toNatClampNeg) (hpN S) 21 → Ext lo S (nwS S 21 i.toNatClampNeg) → W p l e R s m args below meth c H locs (cells + 1) (slots + i.toNatClampNeg) Q (F0 m (pc + 2) ls (.ref (hpN S) :: rest))) : W p l e R s m args below meth c H locs cells slots Q (F0 m pc ls (.int i :: rest)) := by
  obtain ⟨h0, h1⟩ := lenok_s hi
  have h8 : componentBytes (newarray.typeOf .long) ≤ 8 := by decide
  have hB : i.toNatClampNeg * componentBytes (newarray.typeOf .long) ≤ 536870912 := Nat.le_trans (Nat.mul_le_mul h1 h8) (by decide)
  refine va_newaK (atype := .long) hx hb (hX.hts args _ (mw ac_21 rfl)) rfl hdg rfl h0 rfl hB hcells hslots M.1.2.1 fun H1 c1 e1 z1 o1 hAr hNm => ?_
  have hc1 : c1 = cA 21 := Option.some.inj (hNm.symm.trans (hX.1.2 1 _ rfl).2)
  subst hc1
  refine kk H1 (M.born 21 _ (by rw [z1, M.1.2.1]) (fun q hq => o1 q (by rw [← M.1.2.1]; exact hq)) ⟨fun h => ?_, fun _ => ?_⟩) (Rf.new M.1.1 _ _) (Ext.nw _ _)
  · rw [(Rf.new M.1.1 21 i.toNatClampNeg).2.2] at h
    exact absurd h (by decide)
  · rw [e1, (Rf.new M.1.1 21 i.toNatClampNeg).2.2]
    have hL : hpL (nwS S 21 i.toNatClampNeg) (hpN S) = i.toNatClampNeg := by show va_up _ _ _ S.1 = _; simp [va_up]
    rw [hL]
    congr 2
    funext j
    simp only [evX, (Rf.new M.1.1 21 i.toNatClampNeg).2.2]
    simp [rdI, rdL, rdR, nwG, va_up, hpN, newarray.typeOf, defaultValue]
theorem ac_22 : Cond.arrayClass .boolean ∈ lw_tbl := List.mem_of_getElem? (i := 439) (by decide +kernel)
theorem x_newa22 (hx : p.tables.exec = Jvm.exec) (hb : c.code = cc) (hX : Kx D cA lo tS s) (M : Mm D cA lo S g s H locs) {i : Int32} (hi : lenok i = true) (hcells : cells + 1 ≤ R.cells) (hslots : slots + i.toNatClampNeg ≤ R.slots) (hdg : decode cc pc = .ok (.newarray .boolean, 2))
    (kk : ∀ (H : Heap), Mm D cA lo (nwS S 22 i.toNatClampNeg) (nwG S g) s H locs → Rf lo (nwS S 22 i.toNatClampNeg) (hpN S) 22 → Ext lo S (nwS S 22 i.toNatClampNeg) → W p l e R s m args below meth c H locs (cells + 1) (slots + i.toNatClampNeg) Q (F0 m (pc + 2) ls (.ref (hpN S) :: rest))) : W p l e R s m args below meth c H locs cells slots Q (F0 m pc ls (.int i :: rest)) := by
  obtain ⟨h0, h1⟩ := lenok_s hi
  have h8 : componentBytes (newarray.typeOf .boolean) ≤ 8 := by decide
  have hB : i.toNatClampNeg * componentBytes (newarray.typeOf .boolean) ≤ 536870912 := Nat.le_trans (Nat.mul_le_mul h1 h8) (by decide)
  refine va_newaK (atype := .boolean) hx hb (hX.hts args _ (mw ac_22 rfl)) rfl hdg rfl h0 rfl hB hcells hslots M.1.2.1 fun H1 c1 e1 z1 o1 hAr hNm => ?_
  have hc1 : c1 = cA 22 := Option.some.inj (hNm.symm.trans (hX.1.2 2 _ rfl).2)
  subst hc1
  refine kk H1 (M.born 22 _ (by rw [z1, M.1.2.1]) (fun q hq => o1 q (by rw [← M.1.2.1]; exact hq)) ⟨fun h => ?_, fun _ => ?_⟩) (Rf.new M.1.1 _ _) (Ext.nw _ _)
  · rw [(Rf.new M.1.1 22 i.toNatClampNeg).2.2] at h
    exact absurd h (by decide)
  · rw [e1, (Rf.new M.1.1 22 i.toNatClampNeg).2.2]
    have hL : hpL (nwS S 22 i.toNatClampNeg) (hpN S) = i.toNatClampNeg := by show va_up _ _ _ S.1 = _; simp [va_up]
    rw [hL]
    congr 2
    funext j
    simp only [evX, (Rf.new M.1.1 22 i.toNatClampNeg).2.2]
    simp [rdI, rdL, rdR, nwG, va_up, hpN, newarray.typeOf, defaultValue]
theorem ac_23 : Cond.arrayOver (.object "GlassLog$Log") ∈ lw_tbl := List.mem_of_getElem? (i := 168) (by decide +kernel)
theorem x_anew23 (hx : p.tables.exec = Jvm.exec) (hb : c.code = cc) (hown : s.vm.findClass own = some m.cls) (hX : Kx D cA lo tS s) (M : Mm D cA lo S g s H locs) {index : Nat} (hcl : Cond.classLink own index "GlassLog$Log" ∈ lw_tbl) {i : Int32} (hi : lenok i = true) (hcells : cells + 1 ≤ R.cells) (hslots : slots + i.toNatClampNeg ≤ R.slots) (hdg : decode cc pc = .ok (.anewarray index, 3))
    (kk : ∀ (H : Heap), Mm D cA lo (nwS S 23 i.toNatClampNeg) (nwG S g) s H locs → Rf lo (nwS S 23 i.toNatClampNeg) (hpN S) 23 → Ext lo S (nwS S 23 i.toNatClampNeg) → W p l e R s m args below meth c H locs (cells + 1) (slots + i.toNatClampNeg) Q (F0 m (pc + 3) ls (.ref (hpN S) :: rest))) : W p l e R s m args below meth c H locs cells slots Q (F0 m pc ls (.int i :: rest)) := by
  obtain ⟨h0, h1⟩ := lenok_s hi
  have hts := hX.hts args
  refine W.anew hx hb hown (hts _ (mw hcl rfl)) (hts _ (mw ac_23 rfl)) rfl hdg rfl h0 (by omega) hcells hslots fun c1 kA comp f1 f2 f3 f4 => ?_
  have hc1 : c1 = cA 23 := by
    obtain ⟨_, _, _, _, _, h4⟩ := (hX.1.2 3 _ rfl).2
    exact Option.some.inj (f1.symm.trans h4)
  subst hc1
  have hsz : H.size = hpN S := M.1.2.1
  generalize hH1 : H.push ({ cls := cA 23, slots := Array.replicate i.toNatClampNeg .null, vm := .none } : Cell) = H1
  have z1 : H1.size = H.size + 1 := by rw [← hH1, Array.size_push]
  have e1 : H1[hpN S]? = some (arrV (cA 23) i.toNatClampNeg (fun _ => .null)) := by rw [← hsz, ← hH1, Array.getElem?_push_size, ← arrV_new]
  have o1 : ∀ q : Nat, q < H.size → H1[q]? = H[q]? := fun q hq => by rw [← hH1, Array.getElem?_push, if_neg (Nat.ne_of_lt hq)]
  rw [hsz]
  refine kk H1 (M.born 23 _ z1 o1 ⟨fun h => ?_, fun _ => ?_⟩) (Rf.new M.1.1 _ _) (Ext.nw _ _)
  · rw [(Rf.new M.1.1 23 i.toNatClampNeg).2.2] at h
    exact absurd h (by decide)
  · rw [e1, (Rf.new M.1.1 23 i.toNatClampNeg).2.2]
    have hL : hpL (nwS S 23 i.toNatClampNeg) (hpN S) = i.toNatClampNeg := by show va_up _ _ _ S.1 = _; simp [va_up]
    rw [hL]
    congr 2
    funext j
    simp only [evX, (Rf.new M.1.1 23 i.toNatClampNeg).2.2]
    simp [rdI, rdL, rdR, nwG, va_up, hpN, va_rf]
theorem ac_24 : Cond.arrayOver (.object "GlassLog$Proof") ∈ lw_tbl := List.mem_of_getElem? (i := 170) (by decide +kernel)
theorem x_anew24 (hx : p.tables.exec = Jvm.exec) (hb : c.code = cc) (hown : s.vm.findClass own = some m.cls) (hX : Kx D cA lo tS s) (M : Mm D cA lo S g s H locs) {index : Nat} (hcl : Cond.classLink own index "GlassLog$Proof" ∈ lw_tbl) {i : Int32} (hi : lenok i = true) (hcells : cells + 1 ≤ R.cells) (hslots : slots + i.toNatClampNeg ≤ R.slots) (hdg : decode cc pc = .ok (.anewarray index, 3))
    (kk : ∀ (H : Heap), Mm D cA lo (nwS S 24 i.toNatClampNeg) (nwG S g) s H locs → Rf lo (nwS S 24 i.toNatClampNeg) (hpN S) 24 → Ext lo S (nwS S 24 i.toNatClampNeg) → W p l e R s m args below meth c H locs (cells + 1) (slots + i.toNatClampNeg) Q (F0 m (pc + 3) ls (.ref (hpN S) :: rest))) : W p l e R s m args below meth c H locs cells slots Q (F0 m pc ls (.int i :: rest)) := by
  obtain ⟨h0, h1⟩ := lenok_s hi
  have hts := hX.hts args
  refine W.anew hx hb hown (hts _ (mw hcl rfl)) (hts _ (mw ac_24 rfl)) rfl hdg rfl h0 (by omega) hcells hslots fun c1 kA comp f1 f2 f3 f4 => ?_
  have hc1 : c1 = cA 24 := by
    obtain ⟨_, _, _, _, _, h4⟩ := (hX.1.2 4 _ rfl).2
    exact Option.some.inj (f1.symm.trans h4)
  subst hc1
  have hsz : H.size = hpN S := M.1.2.1
  generalize hH1 : H.push ({ cls := cA 24, slots := Array.replicate i.toNatClampNeg .null, vm := .none } : Cell) = H1
  have z1 : H1.size = H.size + 1 := by rw [← hH1, Array.size_push]
  have e1 : H1[hpN S]? = some (arrV (cA 24) i.toNatClampNeg (fun _ => .null)) := by rw [← hsz, ← hH1, Array.getElem?_push_size, ← arrV_new]
  have o1 : ∀ q : Nat, q < H.size → H1[q]? = H[q]? := fun q hq => by rw [← hH1, Array.getElem?_push, if_neg (Nat.ne_of_lt hq)]
  rw [hsz]
  refine kk H1 (M.born 24 _ z1 o1 ⟨fun h => ?_, fun _ => ?_⟩) (Rf.new M.1.1 _ _) (Ext.nw _ _)
  · rw [(Rf.new M.1.1 24 i.toNatClampNeg).2.2] at h
    exact absurd h (by decide)
  · rw [e1, (Rf.new M.1.1 24 i.toNatClampNeg).2.2]
    have hL : hpL (nwS S 24 i.toNatClampNeg) (hpN S) = i.toNatClampNeg := by show va_up _ _ _ S.1 = _; simp [va_up]
    rw [hL]
    congr 2
    funext j
    simp only [evX, (Rf.new M.1.1 24 i.toNatClampNeg).2.2]
    simp [rdI, rdL, rdR, nwG, va_up, hpN, va_rf]
theorem ac_25 : Cond.arrayOver (.object "GlassLog$Head") ∈ lw_tbl := List.mem_of_getElem? (i := 172) (by decide +kernel)
theorem x_anew25 (hx : p.tables.exec = Jvm.exec) (hb : c.code = cc) (hown : s.vm.findClass own = some m.cls) (hX : Kx D cA lo tS s) (M : Mm D cA lo S g s H locs) {index : Nat} (hcl : Cond.classLink own index "GlassLog$Head" ∈ lw_tbl) {i : Int32} (hi : lenok i = true) (hcells : cells + 1 ≤ R.cells) (hslots : slots + i.toNatClampNeg ≤ R.slots) (hdg : decode cc pc = .ok (.anewarray index, 3))
    (kk : ∀ (H : Heap), Mm D cA lo (nwS S 25 i.toNatClampNeg) (nwG S g) s H locs → Rf lo (nwS S 25 i.toNatClampNeg) (hpN S) 25 → Ext lo S (nwS S 25 i.toNatClampNeg) → W p l e R s m args below meth c H locs (cells + 1) (slots + i.toNatClampNeg) Q (F0 m (pc + 3) ls (.ref (hpN S) :: rest))) : W p l e R s m args below meth c H locs cells slots Q (F0 m pc ls (.int i :: rest)) := by
  obtain ⟨h0, h1⟩ := lenok_s hi
  have hts := hX.hts args
  refine W.anew hx hb hown (hts _ (mw hcl rfl)) (hts _ (mw ac_25 rfl)) rfl hdg rfl h0 (by omega) hcells hslots fun c1 kA comp f1 f2 f3 f4 => ?_
  have hc1 : c1 = cA 25 := by
    obtain ⟨_, _, _, _, _, h4⟩ := (hX.1.2 5 _ rfl).2
    exact Option.some.inj (f1.symm.trans h4)
  subst hc1
  have hsz : H.size = hpN S := M.1.2.1
  generalize hH1 : H.push ({ cls := cA 25, slots := Array.replicate i.toNatClampNeg .null, vm := .none } : Cell) = H1
  have z1 : H1.size = H.size + 1 := by rw [← hH1, Array.size_push]
  have e1 : H1[hpN S]? = some (arrV (cA 25) i.toNatClampNeg (fun _ => .null)) := by rw [← hsz, ← hH1, Array.getElem?_push_size, ← arrV_new]
  have o1 : ∀ q : Nat, q < H.size → H1[q]? = H[q]? := fun q hq => by rw [← hH1, Array.getElem?_push, if_neg (Nat.ne_of_lt hq)]
  rw [hsz]
  refine kk H1 (M.born 25 _ z1 o1 ⟨fun h => ?_, fun _ => ?_⟩) (Rf.new M.1.1 _ _) (Ext.nw _ _)
  · rw [(Rf.new M.1.1 25 i.toNatClampNeg).2.2] at h
    exact absurd h (by decide)
  · rw [e1, (Rf.new M.1.1 25 i.toNatClampNeg).2.2]
    have hL : hpL (nwS S 25 i.toNatClampNeg) (hpN S) = i.toNatClampNeg := by show va_up _ _ _ S.1 = _; simp [va_up]
    rw [hL]
    congr 2
    funext j
    simp only [evX, (Rf.new M.1.1 25 i.toNatClampNeg).2.2]
    simp [rdI, rdL, rdR, nwG, va_up, hpN, va_rf]
theorem ac_26 : Cond.arrayOver (.object "GlassLog$Watcher") ∈ lw_tbl := List.mem_of_getElem? (i := 174) (by decide +kernel)
theorem x_anew26 (hx : p.tables.exec = Jvm.exec) (hb : c.code = cc) (hown : s.vm.findClass own = some m.cls) (hX : Kx D cA lo tS s) (M : Mm D cA lo S g s H locs) {index : Nat} (hcl : Cond.classLink own index "GlassLog$Watcher" ∈ lw_tbl) {i : Int32} (hi : lenok i = true) (hcells : cells + 1 ≤ R.cells) (hslots : slots + i.toNatClampNeg ≤ R.slots) (hdg : decode cc pc = .ok (.anewarray index, 3))
    (kk : ∀ (H : Heap), Mm D cA lo (nwS S 26 i.toNatClampNeg) (nwG S g) s H locs → Rf lo (nwS S 26 i.toNatClampNeg) (hpN S) 26 → Ext lo S (nwS S 26 i.toNatClampNeg) → W p l e R s m args below meth c H locs (cells + 1) (slots + i.toNatClampNeg) Q (F0 m (pc + 3) ls (.ref (hpN S) :: rest))) : W p l e R s m args below meth c H locs cells slots Q (F0 m pc ls (.int i :: rest)) := by
  obtain ⟨h0, h1⟩ := lenok_s hi
  have hts := hX.hts args
  refine W.anew hx hb hown (hts _ (mw hcl rfl)) (hts _ (mw ac_26 rfl)) rfl hdg rfl h0 (by omega) hcells hslots fun c1 kA comp f1 f2 f3 f4 => ?_
  have hc1 : c1 = cA 26 := by
    obtain ⟨_, _, _, _, _, h4⟩ := (hX.1.2 6 _ rfl).2
    exact Option.some.inj (f1.symm.trans h4)
  subst hc1
  have hsz : H.size = hpN S := M.1.2.1
  generalize hH1 : H.push ({ cls := cA 26, slots := Array.replicate i.toNatClampNeg .null, vm := .none } : Cell) = H1
  have z1 : H1.size = H.size + 1 := by rw [← hH1, Array.size_push]
  have e1 : H1[hpN S]? = some (arrV (cA 26) i.toNatClampNeg (fun _ => .null)) := by rw [← hsz, ← hH1, Array.getElem?_push_size, ← arrV_new]
  have o1 : ∀ q : Nat, q < H.size → H1[q]? = H[q]? := fun q hq => by rw [← hH1, Array.getElem?_push, if_neg (Nat.ne_of_lt hq)]
  rw [hsz]
  refine kk H1 (M.born 26 _ z1 o1 ⟨fun h => ?_, fun _ => ?_⟩) (Rf.new M.1.1 _ _) (Ext.nw _ _)
  · rw [(Rf.new M.1.1 26 i.toNatClampNeg).2.2] at h
    exact absurd h (by decide)
  · rw [e1, (Rf.new M.1.1 26 i.toNatClampNeg).2.2]
    have hL : hpL (nwS S 26 i.toNatClampNeg) (hpN S) = i.toNatClampNeg := by show va_up _ _ _ S.1 = _; simp [va_up]
    rw [hL]
    congr 2
    funext j
    simp only [evX, (Rf.new M.1.1 26 i.toNatClampNeg).2.2]
    simp [rdI, rdL, rdR, nwG, va_up, hpN, va_rf]
theorem x_new (hx : p.tables.exec = Jvm.exec) (hb : c.code = cc) (hown : s.vm.findClass own = some m.cls) (hX : Kx D cA lo tS s) (M : Mm D cA lo S g s H locs) {ci N index : Nat} {Cn : String} {T : u_T} {ty0 : Nat → FieldType} (K : ClsOk ci Cn T N ty0) (hcl : Cond.classLink own index Cn ∈ lw_tbl) (hins : Cond.instantiable Cn N ∈ lw_tbl) (hini : Cond.initialized Cn ∈ lw_tbl) (hdef : ∀ j, j < N → defaultValue (ty0 j) = if rk ci j = 0 then .int 0 else .null) (hcells : cells + 1 ≤ R.cells) (hslots : slots + N ≤ R.slots) (hdg : decode cc pc = .ok (.new index, 3))
    (kk : ∀ (H : Heap), Mm D cA lo (nwS S ci N) (nwG S g) s H locs → Rf lo (nwS S ci N) (hpN S) ci → Ext lo S (nwS S ci N) → W p l e R s m args below meth c H locs (cells + 1) (slots + N) Q (F0 m (pc + 3) ls (.ref (hpN S) :: rest))) : W p l e R s m args below meth c H locs cells slots Q (F0 m pc ls (rest)) := by
  have hts := hX.hts args
  have hKn := hX.1.1 ci _ K.1
  have hn := Rf.new (S := S) M.1.1 ci N
  refine W.newcK hx hb hown (hts _ (mw hcl rfl)) (hts _ (mw hins rfl)) (hts _ (mw hini rfl)) rfl hdg hcells hslots hKn.2.1 M.1.2.1 fun H1 kC hkC e1 z1 o1 => ?_
  refine kk H1 (M.born ci N (by rw [z1, M.1.2.1]) (fun q hq => o1 q (by rw [← M.1.2.1]; exact hq)) ⟨fun _ => ?_, fun h => ?_⟩) hn (Ext.nw _ _)
  · rw [hn.2.2, K.2.2.2.1]
    refine (u_born ty0 hts K.2.1 hKn hkC e1 K.2.2.2.2.1).to (fun j hj => ?_)
    rw [hdef j hj]
    simp only [fvX, hn.2.2]
    by_cases hr : rk ci j = 0
    · rw [if_pos hr, if_pos hr]
      simp [rdI, nwG, va_up, hpN]
    · rw [if_neg hr, if_neg hr]
      simp [rdR, nwG, va_up, hpN, va_rf]
  · rw [hn.2.2] at h
    exact absurd K.2.2.1 (Nat.not_lt.mpr h)
end XC
