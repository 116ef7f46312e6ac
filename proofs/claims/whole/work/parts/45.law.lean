/-! THE CLAIM OUT OF ONE WALK OF THE LAW'S BODY. Your part is whole_start (and what it stands on); all else here is the same for every law, but numbers. -/
def R_law : String := "GlassLogLaw"
def lw_P (b : Addr) (xs : List Int32) (args : Array Value) (s : State) : Prop := args = #[.ref b] ∧ s.IntsAt b xs ∧ xs.length ≤ 3072 ∧ (Jvm.Cond.and given_1 narrow_1).before args s = true
def lw_Q (_ : Array Value) (s : State) (o : Outcome) (t : State) : Prop := o = .returned (some (.int 1)) ∧ Framed s o t [] room_1.cells room_1.slots
def lw_Z (below : List Frame) (a : Array Value) (s : State) : State → Prop := fun t => ∃ o, t.status = .running ∧ Ended t below o ∧ lw_Q a s o t
/-- the law's own end, with 1 on the stack, nothing written that was there before, its room as the claim has it -/
theorem lw_ret {p : Program} {l : Launch} {e : Env} {s : State} {m : MethodId} {below : List Frame} {meth : Method} {c : Code} {b : Nat} (hx : p.tables.exec = Jvm.exec) (hb : c.code = code) (hr : meth.sig.returnType = ret) (hlocks : meth.locks = false) {pc : Nat} {H : Heap} {ls : Array Slot} (hdg : decode code pc = .ok (.ireturn, 1)) : W p l e room_1 s m #[Value.ref b] below meth c H [] room_1.cells room_1.slots (lw_Z below #[Value.ref b] s) (F0 m pc ls [.int 1]) := by
  intro T hT X
  obtain ⟨fs, hret, hrun, hended, hW, hframe⟩ := X.leave (v := some (.int 1)) (hlocks := hlocks) (fun h => by rw [hr] at h; cases h)
  have hmeth' : T.vm.method? m = some meth := X.method'
  refine ⟨T.setFrames fs, ?_, .returned (some (.int 1)), hrun, hended, rfl, ⟨_, rfl⟩, hW, hframe⟩
  jvm_step X.here [X.here.top, hx, hb, hdg, hmeth', hr, ret, narrow_b1]
  (try refine ⟨rfl, ?_⟩); (try refine ⟨rfl, ?_⟩)
  first | (intro acts; rw [hret _ acts rfl rfl rfl]) | rw [hret _ _ rfl rfl rfl]
  exact Steps.refl _
/-- what holds at the law's entry: the machine, the code, the tables' words (any of lw_tbl by 'hts w (by decide +kernel)'), the script of L ints xs at the cell b, what the Statement gives of the start (any of its parts by flat_of_before) -/
def lw_At (p : Program) (s : State) (m : MethodId) (meth : Method) (c : Code) (b L : Nat) (xs : Nat → Int32) : Prop :=
  p.tables.exec = Jvm.exec ∧ c.code = code ∧ meth.sig.returnType = ret ∧ c.maxLocals = 4 ∧ s.vm.findClass R_law = some m.cls ∧ (∀ w ∈ lw_tbl, w.before #[Value.ref b] s = true) ∧ va_X b L xs s s.heap ∧ b < s.heap.size ∧ meth.locks = false ∧ (Jvm.Cond.and given_1 narrow_1).before #[Value.ref b] s = true
section WL
variable {p : Program} {l : Launch} {e : Env} {s : State} {m : MethodId} {below : List Frame} {meth : Method} {c : Code} {D : va_G} {cA : Nat → ClassId} {lo tS : Nat}
def b_L_law_1462 (N : Nat) (L : Nat) (xs : Nat → Int32) (k18 : Hs → Hg → Nat → Nat → Int32 → Option (Int32 × Hs × Hg × Nat × Nat)) (S : Hs) (g : Hg) (a1 : Nat) (a2 : Nat) (x3 : Int32) : Option (Int32 × Hs × Hg × Nat × Nat) :=
nm (x3 + 6) (fun x_1 =>
k18 S g a1 a2 x_1)
def b_L_law_1449 (N : Nat) (L : Nat) (xs : Nat → Int32) (k18 : Hs → Hg → Nat → Nat → Int32 → Option (Int32 × Hs × Hg × Nat × Nat)) (S : Hs) (g : Hg) (a1 : Nat) (a2 : Nat) (x3 : Int32) : Option (Int32 × Hs × Hg × Nat × Nat) :=
c5 (f_X11_back N S g a1) (fun x_2 S_3 g_1 =>
c2 (f_X12_back N S_3 g_1 a2) (fun x_9 g_8 =>
if x_2 = x_9 then (
b_L_law_1462 N L xs k18 S_3 g_8 a1 a2 x3) else (
some ((0 : Int32), S_3, g_8, 0, 0))))
def b_L_law_1436 (N : Nat) (L : Nat) (xs : Nat → Int32) (k18 : Hs → Hg → Nat → Nat → Int32 → Option (Int32 × Hs × Hg × Nat × Nat)) (S : Hs) (g : Hg) (a1 : Nat) (a2 : Nat) (x3 : Int32) : Option (Int32 × Hs × Hg × Nat × Nat) :=
c5 (f_X11_image N S g a1) (fun x_2 S_3 g_1 =>
c2 (f_X12_image N S_3 g_1 a2) (fun x_9 g_8 =>
if x_2 = x_9 then (
b_L_law_1462 N L xs k18 S_3 g_8 a1 a2 x3) else (
some ((0 : Int32), S_3, g_8, 0, 0))))
def b_L_law_1413 (N : Nat) (L : Nat) (xs : Nat → Int32) (k18 : Hs → Hg → Nat → Nat → Int32 → Option (Int32 × Hs × Hg × Nat × Nat)) (S : Hs) (g : Hg) (a1 : Nat) (a2 : Nat) (x3 : Int32) : Option (Int32 × Hs × Hg × Nat × Nat) :=
ck (inb (x3 + (1 : Int32)) L) (
c2 (f_X11_all N S g a1 (xs (x3 + (1 : Int32)).toNatClampNeg)) (fun x_2 g_1 =>
ck (inb (x3 + (1 : Int32)) L) (
c2 (f_X12_all N S g_1 a2 (xs (x3 + (1 : Int32)).toNatClampNeg)) (fun x_4 g_3 =>
if x_2 = x_4 then (
b_L_law_1462 N L xs k18 S g_3 a1 a2 x3) else (
some ((0 : Int32), S, g_3, 0, 0))))))
def b_L_law_1380 (N : Nat) (L : Nat) (xs : Nat → Int32) (k18 : Hs → Hg → Nat → Nat → Int32 → Option (Int32 × Hs × Hg × Nat × Nat)) (S : Hs) (g : Hg) (a1 : Nat) (a2 : Nat) (x3 : Int32) : Option (Int32 × Hs × Hg × Nat × Nat) :=
ck (inb (x3 + (1 : Int32)) L) (
ck (inb (x3 + (2 : Int32)) L) (
c2 (f_X11_watching N S g a1 (xs (x3 + (1 : Int32)).toNatClampNeg) (xs (x3 + (2 : Int32)).toNatClampNeg)) (fun x_2 g_1 =>
ck (inb (x3 + (1 : Int32)) L) (
ck (inb (x3 + (2 : Int32)) L) (
c2 (f_X12_watching N S g_1 a2 (xs (x3 + (1 : Int32)).toNatClampNeg) (xs (x3 + (2 : Int32)).toNatClampNeg)) (fun x_4 g_3 =>
if x_2 = x_4 then (
b_L_law_1462 N L xs k18 S g_3 a1 a2 x3) else (
some ((0 : Int32), S, g_3, 0, 0))))))))
def b_L_law_1357 (N : Nat) (L : Nat) (xs : Nat → Int32) (k18 : Hs → Hg → Nat → Nat → Int32 → Option (Int32 × Hs × Hg × Nat × Nat)) (S : Hs) (g : Hg) (a1 : Nat) (a2 : Nat) (x3 : Int32) : Option (Int32 × Hs × Hg × Nat × Nat) :=
ck (inb (x3 + (1 : Int32)) L) (
c2 (f_X11_watch N S g a1 (xs (x3 + (1 : Int32)).toNatClampNeg)) (fun x_2 g_1 =>
ck (inb (x3 + (1 : Int32)) L) (
c2 (f_X12_watch N S g_1 a2 (xs (x3 + (1 : Int32)).toNatClampNeg)) (fun x_4 g_3 =>
if x_2 = x_4 then (
b_L_law_1462 N L xs k18 S g_3 a1 a2 x3) else (
some ((0 : Int32), S, g_3, 0, 0))))))
def b_L_law_1304 (N : Nat) (L : Nat) (xs : Nat → Int32) (k18 : Hs → Hg → Nat → Nat → Int32 → Option (Int32 × Hs × Hg × Nat × Nat)) (S : Hs) (g : Hg) (a1 : Nat) (a2 : Nat) (x3 : Int32) : Option (Int32 × Hs × Hg × Nat × Nat) :=
ck (inb (x3 + (1 : Int32)) L) (
ck (inb (x3 + (2 : Int32)) L) (
ck (inb (x3 + (3 : Int32)) L) (
ck (inb (x3 + (4 : Int32)) L) (
c2 (f_X11_watcher N S g a1 (xs (x3 + (1 : Int32)).toNatClampNeg) (xs (x3 + (2 : Int32)).toNatClampNeg) (xs (x3 + (3 : Int32)).toNatClampNeg) (xs (x3 + (4 : Int32)).toNatClampNeg)) (fun x_2 g_1 =>
ck (inb (x3 + (1 : Int32)) L) (
ck (inb (x3 + (2 : Int32)) L) (
ck (inb (x3 + (3 : Int32)) L) (
ck (inb (x3 + (4 : Int32)) L) (
c2 (f_X12_watcher N S g_1 a2 (xs (x3 + (1 : Int32)).toNatClampNeg) (xs (x3 + (2 : Int32)).toNatClampNeg) (xs (x3 + (3 : Int32)).toNatClampNeg) (xs (x3 + (4 : Int32)).toNatClampNeg)) (fun x_4 g_3 =>
if x_2 = x_4 then (
b_L_law_1462 N L xs k18 S g_3 a1 a2 x3) else (
some ((0 : Int32), S, g_3, 0, 0))))))))))))
def b_L_law_1261 (N : Nat) (L : Nat) (xs : Nat → Int32) (k18 : Hs → Hg → Nat → Nat → Int32 → Option (Int32 × Hs × Hg × Nat × Nat)) (S : Hs) (g : Hg) (a1 : Nat) (a2 : Nat) (x3 : Int32) : Option (Int32 × Hs × Hg × Nat × Nat) :=
ck (inb (x3 + (1 : Int32)) L) (
ck (inb (x3 + (2 : Int32)) L) (
ck (inb (x3 + (3 : Int32)) L) (
c2 (f_X11_smear N S g a1 (xs (x3 + (1 : Int32)).toNatClampNeg) (xs (x3 + (2 : Int32)).toNatClampNeg) (xs (x3 + (3 : Int32)).toNatClampNeg)) (fun x_2 g_1 =>
ck (inb (x3 + (1 : Int32)) L) (
ck (inb (x3 + (2 : Int32)) L) (
ck (inb (x3 + (3 : Int32)) L) (
c2 (f_X12_smear N S g_1 a2 (xs (x3 + (1 : Int32)).toNatClampNeg) (xs (x3 + (2 : Int32)).toNatClampNeg) (xs (x3 + (3 : Int32)).toNatClampNeg)) (fun x_4 g_3 =>
if x_2 = x_4 then (
b_L_law_1462 N L xs k18 S g_3 a1 a2 x3) else (
some ((0 : Int32), S, g_3, 0, 0))))))))))
def b_L_law_1228 (N : Nat) (L : Nat) (xs : Nat → Int32) (k18 : Hs → Hg → Nat → Nat → Int32 → Option (Int32 × Hs × Hg × Nat × Nat)) (S : Hs) (g : Hg) (a1 : Nat) (a2 : Nat) (x3 : Int32) : Option (Int32 × Hs × Hg × Nat × Nat) :=
ck (inb (x3 + (1 : Int32)) L) (
ck (inb (x3 + (2 : Int32)) L) (
c2 (f_X11_blame N S g a1 (xs (x3 + (1 : Int32)).toNatClampNeg) (xs (x3 + (2 : Int32)).toNatClampNeg)) (fun x_2 g_1 =>
ck (inb (x3 + (1 : Int32)) L) (
ck (inb (x3 + (2 : Int32)) L) (
c2 (f_X12_blame_ N S g_1 a2 (xs (x3 + (1 : Int32)).toNatClampNeg) (xs (x3 + (2 : Int32)).toNatClampNeg)) (fun x_4 g_3 =>
if x_2 = x_4 then (
b_L_law_1462 N L xs k18 S g_3 a1 a2 x3) else (
some ((0 : Int32), S, g_3, 0, 0))))))))
def b_L_law_1195 (N : Nat) (L : Nat) (xs : Nat → Int32) (k18 : Hs → Hg → Nat → Nat → Int32 → Option (Int32 × Hs × Hg × Nat × Nat)) (S : Hs) (g : Hg) (a1 : Nat) (a2 : Nat) (x3 : Int32) : Option (Int32 × Hs × Hg × Nat × Nat) :=
ck (inb (x3 + (1 : Int32)) L) (
ck (inb (x3 + (2 : Int32)) L) (
c2 (f_X11_reader N S g a1 (xs (x3 + (1 : Int32)).toNatClampNeg) (xs (x3 + (2 : Int32)).toNatClampNeg)) (fun x_2 g_1 =>
ck (inb (x3 + (1 : Int32)) L) (
ck (inb (x3 + (2 : Int32)) L) (
c2 (f_X12_reader N S g_1 a2 (xs (x3 + (1 : Int32)).toNatClampNeg) (xs (x3 + (2 : Int32)).toNatClampNeg)) (fun x_4 g_3 =>
if x_2 = x_4 then (
b_L_law_1462 N L xs k18 S g_3 a1 a2 x3) else (
some ((0 : Int32), S, g_3, 0, 0))))))))
def b_L_law_1162 (N : Nat) (L : Nat) (xs : Nat → Int32) (k18 : Hs → Hg → Nat → Nat → Int32 → Option (Int32 × Hs × Hg × Nat × Nat)) (S : Hs) (g : Hg) (a1 : Nat) (a2 : Nat) (x3 : Int32) : Option (Int32 × Hs × Hg × Nat × Nat) :=
ck (inb (x3 + (1 : Int32)) L) (
ck (inb (x3 + (2 : Int32)) L) (
c5 (f_X11_talk N S g a1 (xs (x3 + (1 : Int32)).toNatClampNeg) (xs (x3 + (2 : Int32)).toNatClampNeg)) (fun x_2 S_3 g_1 =>
ck (inb (x3 + (1 : Int32)) L) (
ck (inb (x3 + (2 : Int32)) L) (
c2 (f_X12_talk N S_3 g_1 a2 (xs (x3 + (1 : Int32)).toNatClampNeg) (xs (x3 + (2 : Int32)).toNatClampNeg)) (fun x_9 g_8 =>
if x_2 = x_9 then (
b_L_law_1462 N L xs k18 S_3 g_8 a1 a2 x3) else (
some ((0 : Int32), S_3, g_8, 0, 0))))))))
def b_L_law_1119 (N : Nat) (L : Nat) (xs : Nat → Int32) (k18 : Hs → Hg → Nat → Nat → Int32 → Option (Int32 × Hs × Hg × Nat × Nat)) (S : Hs) (g : Hg) (a1 : Nat) (a2 : Nat) (x3 : Int32) : Option (Int32 × Hs × Hg × Nat × Nat) :=
ck (inb (x3 + (1 : Int32)) L) (
ck (inb (x3 + (2 : Int32)) L) (
ck (inb (x3 + (3 : Int32)) L) (
c5 (f_X11_take N S g a1 (xs (x3 + (1 : Int32)).toNatClampNeg) (xs (x3 + (2 : Int32)).toNatClampNeg) (xs (x3 + (3 : Int32)).toNatClampNeg)) (fun x_2 S_3 g_1 =>
ck (inb (x3 + (1 : Int32)) L) (
ck (inb (x3 + (2 : Int32)) L) (
ck (inb (x3 + (3 : Int32)) L) (
c2 (f_X12_take N S_3 g_1 a2 (xs (x3 + (1 : Int32)).toNatClampNeg) (xs (x3 + (2 : Int32)).toNatClampNeg) (xs (x3 + (3 : Int32)).toNatClampNeg)) (fun x_9 g_8 =>
if x_2 = x_9 then (
b_L_law_1462 N L xs k18 S_3 g_8 a1 a2 x3) else (
some ((0 : Int32), S_3, g_8, 0, 0))))))))))
def b_L_law_1076 (N : Nat) (L : Nat) (xs : Nat → Int32) (k18 : Hs → Hg → Nat → Nat → Int32 → Option (Int32 × Hs × Hg × Nat × Nat)) (S : Hs) (g : Hg) (a1 : Nat) (a2 : Nat) (x3 : Int32) : Option (Int32 × Hs × Hg × Nat × Nat) :=
ck (inb (x3 + (1 : Int32)) L) (
ck (inb (x3 + (2 : Int32)) L) (
ck (inb (x3 + (3 : Int32)) L) (
c2 (f_X11_check N S g a1 (xs (x3 + (1 : Int32)).toNatClampNeg) (xs (x3 + (2 : Int32)).toNatClampNeg) (xs (x3 + (3 : Int32)).toNatClampNeg)) (fun x_2 g_1 =>
ck (inb (x3 + (1 : Int32)) L) (
ck (inb (x3 + (2 : Int32)) L) (
ck (inb (x3 + (3 : Int32)) L) (
c2 (f_X12_check N S g_1 a2 (xs (x3 + (1 : Int32)).toNatClampNeg) (xs (x3 + (2 : Int32)).toNatClampNeg) (xs (x3 + (3 : Int32)).toNatClampNeg)) (fun x_4 g_3 =>
if x_2 = x_4 then (
b_L_law_1462 N L xs k18 S g_3 a1 a2 x3) else (
some ((0 : Int32), S, g_3, 0, 0))))))))))
def b_L_law_993 (N : Nat) (L : Nat) (xs : Nat → Int32) (k18 : Hs → Hg → Nat → Nat → Int32 → Option (Int32 × Hs × Hg × Nat × Nat)) (S : Hs) (g : Hg) (a1 : Nat) (a2 : Nat) (x3 : Int32) : Option (Int32 × Hs × Hg × Nat × Nat) :=
ck (inb (x3 + (1 : Int32)) L) (
ck (inb (x3 + (2 : Int32)) L) (
ck (inb (x3 + (3 : Int32)) L) (
ck (inb (x3 + (4 : Int32)) L) (
ck (inb (x3 + (5 : Int32)) L) (
c2 (f_X11_forge N S g a1 (xs (x3 + (1 : Int32)).toNatClampNeg) (xs (x3 + (2 : Int32)).toNatClampNeg) (xs (x3 + (3 : Int32)).toNatClampNeg) ((((xs (x3 + (4 : Int32)).toNatClampNeg)).toInt64 <<< ((32 : Int32).toInt64 &&& 63)) ||| (((xs (x3 + (5 : Int32)).toNatClampNeg)).toInt64 &&& (4294967295 : Int64)))) (fun x_2 g_1 =>
ck (inb (x3 + (1 : Int32)) L) (
ck (inb (x3 + (2 : Int32)) L) (
ck (inb (x3 + (3 : Int32)) L) (
ck (inb (x3 + (4 : Int32)) L) (
ck (inb (x3 + (5 : Int32)) L) (
c2 (f_X12_forge N S g_1 a2 (xs (x3 + (1 : Int32)).toNatClampNeg) (xs (x3 + (2 : Int32)).toNatClampNeg) (xs (x3 + (3 : Int32)).toNatClampNeg) ((((xs (x3 + (4 : Int32)).toNatClampNeg)).toInt64 <<< ((32 : Int32).toInt64 &&& 63)) ||| (((xs (x3 + (5 : Int32)).toNatClampNeg)).toInt64 &&& (4294967295 : Int64)))) (fun x_4 g_3 =>
if x_2 = x_4 then (
b_L_law_1462 N L xs k18 S g_3 a1 a2 x3) else (
some ((0 : Int32), S, g_3, 0, 0))))))))))))))
def b_L_law_940 (N : Nat) (L : Nat) (xs : Nat → Int32) (k18 : Hs → Hg → Nat → Nat → Int32 → Option (Int32 × Hs × Hg × Nat × Nat)) (S : Hs) (g : Hg) (a1 : Nat) (a2 : Nat) (x3 : Int32) : Option (Int32 × Hs × Hg × Nat × Nat) :=
ck (inb (x3 + (1 : Int32)) L) (
ck (inb (x3 + (2 : Int32)) L) (
ck (inb (x3 + (3 : Int32)) L) (
ck (inb (x3 + (4 : Int32)) L) (
c2 (f_X11_bend N S g a1 (xs (x3 + (1 : Int32)).toNatClampNeg) (xs (x3 + (2 : Int32)).toNatClampNeg) (xs (x3 + (3 : Int32)).toNatClampNeg) (xs (x3 + (4 : Int32)).toNatClampNeg)) (fun x_2 g_1 =>
ck (inb (x3 + (1 : Int32)) L) (
ck (inb (x3 + (2 : Int32)) L) (
ck (inb (x3 + (3 : Int32)) L) (
ck (inb (x3 + (4 : Int32)) L) (
c2 (f_X12_bend N S g_1 a2 (xs (x3 + (1 : Int32)).toNatClampNeg) (xs (x3 + (2 : Int32)).toNatClampNeg) (xs (x3 + (3 : Int32)).toNatClampNeg) (xs (x3 + (4 : Int32)).toNatClampNeg)) (fun x_4 g_3 =>
if x_2 = x_4 then (
b_L_law_1462 N L xs k18 S g_3 a1 a2 x3) else (
some ((0 : Int32), S, g_3, 0, 0))))))))))))
def b_L_law_897 (N : Nat) (L : Nat) (xs : Nat → Int32) (k18 : Hs → Hg → Nat → Nat → Int32 → Option (Int32 × Hs × Hg × Nat × Nat)) (S : Hs) (g : Hg) (a1 : Nat) (a2 : Nat) (x3 : Int32) : Option (Int32 × Hs × Hg × Nat × Nat) :=
ck (inb (x3 + (1 : Int32)) L) (
ck (inb (x3 + (2 : Int32)) L) (
ck (inb (x3 + (3 : Int32)) L) (
c2 (f_X11_step N S g a1 (xs (x3 + (1 : Int32)).toNatClampNeg) (xs (x3 + (2 : Int32)).toNatClampNeg) (xs (x3 + (3 : Int32)).toNatClampNeg)) (fun x_2 g_1 =>
ck (inb (x3 + (1 : Int32)) L) (
ck (inb (x3 + (2 : Int32)) L) (
ck (inb (x3 + (3 : Int32)) L) (
c2 (f_X12_step_ N S g_1 a2 (xs (x3 + (1 : Int32)).toNatClampNeg) (xs (x3 + (2 : Int32)).toNatClampNeg) (xs (x3 + (3 : Int32)).toNatClampNeg)) (fun x_4 g_3 =>
if x_2 = x_4 then (
b_L_law_1462 N L xs k18 S g_3 a1 a2 x3) else (
some ((0 : Int32), S, g_3, 0, 0))))))))))
def b_L_law_864 (N : Nat) (L : Nat) (xs : Nat → Int32) (k18 : Hs → Hg → Nat → Nat → Int32 → Option (Int32 × Hs × Hg × Nat × Nat)) (S : Hs) (g : Hg) (a1 : Nat) (a2 : Nat) (x3 : Int32) : Option (Int32 × Hs × Hg × Nat × Nat) :=
ck (inb (x3 + (1 : Int32)) L) (
ck (inb (x3 + (2 : Int32)) L) (
c2 (f_X11_proof N S g a1 (xs (x3 + (1 : Int32)).toNatClampNeg) (xs (x3 + (2 : Int32)).toNatClampNeg)) (fun x_2 g_1 =>
ck (inb (x3 + (1 : Int32)) L) (
ck (inb (x3 + (2 : Int32)) L) (
c2 (f_X12_proof N S g_1 a2 (xs (x3 + (1 : Int32)).toNatClampNeg) (xs (x3 + (2 : Int32)).toNatClampNeg)) (fun x_4 g_3 =>
if x_2 = x_4 then (
b_L_law_1462 N L xs k18 S g_3 a1 a2 x3) else (
some ((0 : Int32), S, g_3, 0, 0))))))))
def b_L_law_841 (N : Nat) (L : Nat) (xs : Nat → Int32) (k18 : Hs → Hg → Nat → Nat → Int32 → Option (Int32 × Hs × Hg × Nat × Nat)) (S : Hs) (g : Hg) (a1 : Nat) (a2 : Nat) (x3 : Int32) : Option (Int32 × Hs × Hg × Nat × Nat) :=
ck (inb (x3 + (1 : Int32)) L) (
c2 (f_X11_drop N S g a1 (xs (x3 + (1 : Int32)).toNatClampNeg)) (fun x_2 g_1 =>
ck (inb (x3 + (1 : Int32)) L) (
c2 (f_X12_drop N S g_1 a2 (xs (x3 + (1 : Int32)).toNatClampNeg)) (fun x_4 g_3 =>
if x_2 = x_4 then (
b_L_law_1462 N L xs k18 S g_3 a1 a2 x3) else (
some ((0 : Int32), S, g_3, 0, 0))))))
def b_L_law_778 (N : Nat) (L : Nat) (xs : Nat → Int32) (k18 : Hs → Hg → Nat → Nat → Int32 → Option (Int32 × Hs × Hg × Nat × Nat)) (S : Hs) (g : Hg) (a1 : Nat) (a2 : Nat) (x3 : Int32) : Option (Int32 × Hs × Hg × Nat × Nat) :=
ck (inb (x3 + (1 : Int32)) L) (
ck (inb (x3 + (2 : Int32)) L) (
ck (inb (x3 + (3 : Int32)) L) (
ck (inb (x3 + (4 : Int32)) L) (
ck (inb (x3 + (5 : Int32)) L) (
c5 (f_X11_span N S g a1 (xs (x3 + (1 : Int32)).toNatClampNeg) (xs (x3 + (2 : Int32)).toNatClampNeg) (xs (x3 + (3 : Int32)).toNatClampNeg) (xs (x3 + (4 : Int32)).toNatClampNeg) (xs (x3 + (5 : Int32)).toNatClampNeg)) (fun x_2 S_3 g_1 =>
ck (inb (x3 + (1 : Int32)) L) (
ck (inb (x3 + (2 : Int32)) L) (
ck (inb (x3 + (3 : Int32)) L) (
ck (inb (x3 + (4 : Int32)) L) (
ck (inb (x3 + (5 : Int32)) L) (
c2 (f_X12_span N S_3 g_1 a2 (xs (x3 + (1 : Int32)).toNatClampNeg) (xs (x3 + (2 : Int32)).toNatClampNeg) (xs (x3 + (3 : Int32)).toNatClampNeg) (xs (x3 + (4 : Int32)).toNatClampNeg) (xs (x3 + (5 : Int32)).toNatClampNeg)) (fun x_9 g_8 =>
if x_2 = x_9 then (
b_L_law_1462 N L xs k18 S_3 g_8 a1 a2 x3) else (
some ((0 : Int32), S_3, g_8, 0, 0))))))))))))))
def b_L_law_725 (N : Nat) (L : Nat) (xs : Nat → Int32) (k18 : Hs → Hg → Nat → Nat → Int32 → Option (Int32 × Hs × Hg × Nat × Nat)) (S : Hs) (g : Hg) (a1 : Nat) (a2 : Nat) (x3 : Int32) : Option (Int32 × Hs × Hg × Nat × Nat) :=
ck (inb (x3 + (1 : Int32)) L) (
ck (inb (x3 + (2 : Int32)) L) (
ck (inb (x3 + (3 : Int32)) L) (
ck (inb (x3 + (4 : Int32)) L) (
c5 (f_X11_absent N S g a1 (xs (x3 + (1 : Int32)).toNatClampNeg) (xs (x3 + (2 : Int32)).toNatClampNeg) (xs (x3 + (3 : Int32)).toNatClampNeg) (xs (x3 + (4 : Int32)).toNatClampNeg)) (fun x_2 S_3 g_1 =>
ck (inb (x3 + (1 : Int32)) L) (
ck (inb (x3 + (2 : Int32)) L) (
ck (inb (x3 + (3 : Int32)) L) (
ck (inb (x3 + (4 : Int32)) L) (
c2 (f_X12_absent N S_3 g_1 a2 (xs (x3 + (1 : Int32)).toNatClampNeg) (xs (x3 + (2 : Int32)).toNatClampNeg) (xs (x3 + (3 : Int32)).toNatClampNeg) (xs (x3 + (4 : Int32)).toNatClampNeg)) (fun x_9 g_8 =>
if x_2 = x_9 then (
b_L_law_1462 N L xs k18 S_3 g_8 a1 a2 x3) else (
some ((0 : Int32), S_3, g_8, 0, 0))))))))))))
def b_L_law_672 (N : Nat) (L : Nat) (xs : Nat → Int32) (k18 : Hs → Hg → Nat → Nat → Int32 → Option (Int32 × Hs × Hg × Nat × Nat)) (S : Hs) (g : Hg) (a1 : Nat) (a2 : Nat) (x3 : Int32) : Option (Int32 × Hs × Hg × Nat × Nat) :=
ck (inb (x3 + (1 : Int32)) L) (
ck (inb (x3 + (2 : Int32)) L) (
ck (inb (x3 + (3 : Int32)) L) (
ck (inb (x3 + (4 : Int32)) L) (
c5 (f_X11_held N S g a1 (xs (x3 + (1 : Int32)).toNatClampNeg) (xs (x3 + (2 : Int32)).toNatClampNeg) (xs (x3 + (3 : Int32)).toNatClampNeg) (xs (x3 + (4 : Int32)).toNatClampNeg)) (fun x_2 S_3 g_1 =>
ck (inb (x3 + (1 : Int32)) L) (
ck (inb (x3 + (2 : Int32)) L) (
ck (inb (x3 + (3 : Int32)) L) (
ck (inb (x3 + (4 : Int32)) L) (
c2 (f_X12_held N S_3 g_1 a2 (xs (x3 + (1 : Int32)).toNatClampNeg) (xs (x3 + (2 : Int32)).toNatClampNeg) (xs (x3 + (3 : Int32)).toNatClampNeg) (xs (x3 + (4 : Int32)).toNatClampNeg)) (fun x_9 g_8 =>
if x_2 = x_9 then (
b_L_law_1462 N L xs k18 S_3 g_8 a1 a2 x3) else (
some ((0 : Int32), S_3, g_8, 0, 0))))))))))))
def b_L_law_619 (N : Nat) (L : Nat) (xs : Nat → Int32) (k18 : Hs → Hg → Nat → Nat → Int32 → Option (Int32 × Hs × Hg × Nat × Nat)) (S : Hs) (g : Hg) (a1 : Nat) (a2 : Nat) (x3 : Int32) : Option (Int32 × Hs × Hg × Nat × Nat) :=
ck (inb (x3 + (1 : Int32)) L) (
ck (inb (x3 + (2 : Int32)) L) (
ck (inb (x3 + (3 : Int32)) L) (
ck (inb (x3 + (4 : Int32)) L) (
c5 (f_X11_grown N S g a1 (xs (x3 + (1 : Int32)).toNatClampNeg) (xs (x3 + (2 : Int32)).toNatClampNeg) (xs (x3 + (3 : Int32)).toNatClampNeg) (xs (x3 + (4 : Int32)).toNatClampNeg)) (fun x_2 S_3 g_1 =>
ck (inb (x3 + (1 : Int32)) L) (
ck (inb (x3 + (2 : Int32)) L) (
ck (inb (x3 + (3 : Int32)) L) (
ck (inb (x3 + (4 : Int32)) L) (
c2 (f_X12_grown N S_3 g_1 a2 (xs (x3 + (1 : Int32)).toNatClampNeg) (xs (x3 + (2 : Int32)).toNatClampNeg) (xs (x3 + (3 : Int32)).toNatClampNeg) (xs (x3 + (4 : Int32)).toNatClampNeg)) (fun x_9 g_8 =>
if x_2 = x_9 then (
b_L_law_1462 N L xs k18 S_3 g_8 a1 a2 x3) else (
some ((0 : Int32), S_3, g_8, 0, 0))))))))))))
def b_L_law_566 (N : Nat) (L : Nat) (xs : Nat → Int32) (k18 : Hs → Hg → Nat → Nat → Int32 → Option (Int32 × Hs × Hg × Nat × Nat)) (S : Hs) (g : Hg) (a1 : Nat) (a2 : Nat) (x3 : Int32) : Option (Int32 × Hs × Hg × Nat × Nat) :=
ck (inb (x3 + (1 : Int32)) L) (
ck (inb (x3 + (2 : Int32)) L) (
ck (inb (x3 + (3 : Int32)) L) (
ck (inb (x3 + (4 : Int32)) L) (
c5 (f_X11_within N S g a1 (xs (x3 + (1 : Int32)).toNatClampNeg) (xs (x3 + (2 : Int32)).toNatClampNeg) (xs (x3 + (3 : Int32)).toNatClampNeg) (xs (x3 + (4 : Int32)).toNatClampNeg)) (fun x_2 S_3 g_1 =>
ck (inb (x3 + (1 : Int32)) L) (
ck (inb (x3 + (2 : Int32)) L) (
ck (inb (x3 + (3 : Int32)) L) (
ck (inb (x3 + (4 : Int32)) L) (
c2 (f_X12_within N S_3 g_1 a2 (xs (x3 + (1 : Int32)).toNatClampNeg) (xs (x3 + (2 : Int32)).toNatClampNeg) (xs (x3 + (3 : Int32)).toNatClampNeg) (xs (x3 + (4 : Int32)).toNatClampNeg)) (fun x_9 g_8 =>
if x_2 = x_9 then (
b_L_law_1462 N L xs k18 S_3 g_8 a1 a2 x3) else (
some ((0 : Int32), S_3, g_8, 0, 0))))))))))))
def b_L_law_513 (N : Nat) (L : Nat) (xs : Nat → Int32) (k18 : Hs → Hg → Nat → Nat → Int32 → Option (Int32 × Hs × Hg × Nat × Nat)) (S : Hs) (g : Hg) (a1 : Nat) (a2 : Nat) (x3 : Int32) : Option (Int32 × Hs × Hg × Nat × Nat) :=
ck (inb (x3 + (1 : Int32)) L) (
ck (inb (x3 + (2 : Int32)) L) (
ck (inb (x3 + (3 : Int32)) L) (
ck (inb (x3 + (4 : Int32)) L) (
c2 (f_X11_head N S g a1 (xs (x3 + (1 : Int32)).toNatClampNeg) (xs (x3 + (2 : Int32)).toNatClampNeg) (xs (x3 + (3 : Int32)).toNatClampNeg) (xs (x3 + (4 : Int32)).toNatClampNeg)) (fun x_2 g_1 =>
ck (inb (x3 + (1 : Int32)) L) (
ck (inb (x3 + (2 : Int32)) L) (
ck (inb (x3 + (3 : Int32)) L) (
ck (inb (x3 + (4 : Int32)) L) (
c2 (f_X12_head_ N S g_1 a2 (xs (x3 + (1 : Int32)).toNatClampNeg) (xs (x3 + (2 : Int32)).toNatClampNeg) (xs (x3 + (3 : Int32)).toNatClampNeg) (xs (x3 + (4 : Int32)).toNatClampNeg)) (fun x_4 g_3 =>
if x_2 = x_4 then (
b_L_law_1462 N L xs k18 S g_3 a1 a2 x3) else (
some ((0 : Int32), S, g_3, 0, 0))))))))))))
def b_L_law_470 (N : Nat) (L : Nat) (xs : Nat → Int32) (k18 : Hs → Hg → Nat → Nat → Int32 → Option (Int32 × Hs × Hg × Nat × Nat)) (S : Hs) (g : Hg) (a1 : Nat) (a2 : Nat) (x3 : Int32) : Option (Int32 × Hs × Hg × Nat × Nat) :=
ck (inb (x3 + (1 : Int32)) L) (
ck (inb (x3 + (2 : Int32)) L) (
ck (inb (x3 + (3 : Int32)) L) (
c2 (f_X11_latest N S g a1 (xs (x3 + (1 : Int32)).toNatClampNeg) (xs (x3 + (2 : Int32)).toNatClampNeg) (xs (x3 + (3 : Int32)).toNatClampNeg)) (fun x_2 g_1 =>
ck (inb (x3 + (1 : Int32)) L) (
ck (inb (x3 + (2 : Int32)) L) (
ck (inb (x3 + (3 : Int32)) L) (
c2 (f_X12_latest N S g_1 a2 (xs (x3 + (1 : Int32)).toNatClampNeg) (xs (x3 + (2 : Int32)).toNatClampNeg) (xs (x3 + (3 : Int32)).toNatClampNeg)) (fun x_4 g_3 =>
if x_2 = x_4 then (
b_L_law_1462 N L xs k18 S g_3 a1 a2 x3) else (
some ((0 : Int32), S, g_3, 0, 0))))))))))
def b_L_law_437 (N : Nat) (L : Nat) (xs : Nat → Int32) (k18 : Hs → Hg → Nat → Nat → Int32 → Option (Int32 × Hs × Hg × Nat × Nat)) (S : Hs) (g : Hg) (a1 : Nat) (a2 : Nat) (x3 : Int32) : Option (Int32 × Hs × Hg × Nat × Nat) :=
ck (inb (x3 + (1 : Int32)) L) (
ck (inb (x3 + (2 : Int32)) L) (
c2 (f_X11_count N S g a1 (xs (x3 + (1 : Int32)).toNatClampNeg) (xs (x3 + (2 : Int32)).toNatClampNeg)) (fun x_2 g_1 =>
ck (inb (x3 + (1 : Int32)) L) (
ck (inb (x3 + (2 : Int32)) L) (
c2 (f_X12_count N S g_1 a2 (xs (x3 + (1 : Int32)).toNatClampNeg) (xs (x3 + (2 : Int32)).toNatClampNeg)) (fun x_4 g_3 =>
if x_2 = x_4 then (
b_L_law_1462 N L xs k18 S g_3 a1 a2 x3) else (
some ((0 : Int32), S, g_3, 0, 0))))))))
def b_L_law_404 (N : Nat) (L : Nat) (xs : Nat → Int32) (k18 : Hs → Hg → Nat → Nat → Int32 → Option (Int32 × Hs × Hg × Nat × Nat)) (S : Hs) (g : Hg) (a1 : Nat) (a2 : Nat) (x3 : Int32) : Option (Int32 × Hs × Hg × Nat × Nat) :=
ck (inb (x3 + (1 : Int32)) L) (
ck (inb (x3 + (2 : Int32)) L) (
c2 (f_X11_keep N S g a1 (xs (x3 + (1 : Int32)).toNatClampNeg) (xs (x3 + (2 : Int32)).toNatClampNeg)) (fun x_2 g_1 =>
ck (inb (x3 + (1 : Int32)) L) (
ck (inb (x3 + (2 : Int32)) L) (
c2 (f_X12_keep N S g_1 a2 (xs (x3 + (1 : Int32)).toNatClampNeg) (xs (x3 + (2 : Int32)).toNatClampNeg)) (fun x_4 g_3 =>
if x_2 = x_4 then (
b_L_law_1462 N L xs k18 S g_3 a1 a2 x3) else (
some ((0 : Int32), S, g_3, 0, 0))))))))
def b_L_law_371 (N : Nat) (L : Nat) (xs : Nat → Int32) (k18 : Hs → Hg → Nat → Nat → Int32 → Option (Int32 × Hs × Hg × Nat × Nat)) (S : Hs) (g : Hg) (a1 : Nat) (a2 : Nat) (x3 : Int32) : Option (Int32 × Hs × Hg × Nat × Nat) :=
ck (inb (x3 + (1 : Int32)) L) (
ck (inb (x3 + (2 : Int32)) L) (
c2 (f_X11_prune N S g a1 (xs (x3 + (1 : Int32)).toNatClampNeg) (xs (x3 + (2 : Int32)).toNatClampNeg)) (fun x_2 g_1 =>
ck (inb (x3 + (1 : Int32)) L) (
ck (inb (x3 + (2 : Int32)) L) (
c2 (f_X12_prune N S g_1 a2 (xs (x3 + (1 : Int32)).toNatClampNeg) (xs (x3 + (2 : Int32)).toNatClampNeg)) (fun x_4 g_3 =>
if x_2 = x_4 then (
b_L_law_1462 N L xs k18 S g_3 a1 a2 x3) else (
some ((0 : Int32), S, g_3, 0, 0))))))))
def b_L_law_338 (N : Nat) (L : Nat) (xs : Nat → Int32) (k18 : Hs → Hg → Nat → Nat → Int32 → Option (Int32 × Hs × Hg × Nat × Nat)) (S : Hs) (g : Hg) (a1 : Nat) (a2 : Nat) (x3 : Int32) : Option (Int32 × Hs × Hg × Nat × Nat) :=
ck (inb (x3 + (1 : Int32)) L) (
ck (inb (x3 + (2 : Int32)) L) (
c2 (f_X11_lag N S g a1 (xs (x3 + (1 : Int32)).toNatClampNeg) (xs (x3 + (2 : Int32)).toNatClampNeg)) (fun x_2 g_1 =>
ck (inb (x3 + (1 : Int32)) L) (
ck (inb (x3 + (2 : Int32)) L) (
c2 (f_X12_lag N S g_1 a2 (xs (x3 + (1 : Int32)).toNatClampNeg) (xs (x3 + (2 : Int32)).toNatClampNeg)) (fun x_4 g_3 =>
if x_2 = x_4 then (
b_L_law_1462 N L xs k18 S g_3 a1 a2 x3) else (
some ((0 : Int32), S, g_3, 0, 0))))))))
def b_L_law_305 (N : Nat) (L : Nat) (xs : Nat → Int32) (k18 : Hs → Hg → Nat → Nat → Int32 → Option (Int32 × Hs × Hg × Nat × Nat)) (S : Hs) (g : Hg) (a1 : Nat) (a2 : Nat) (x3 : Int32) : Option (Int32 × Hs × Hg × Nat × Nat) :=
ck (inb (x3 + (1 : Int32)) L) (
ck (inb (x3 + (2 : Int32)) L) (
c2 (f_X11_hide N S g a1 (xs (x3 + (1 : Int32)).toNatClampNeg) (xs (x3 + (2 : Int32)).toNatClampNeg)) (fun x_2 g_1 =>
ck (inb (x3 + (1 : Int32)) L) (
ck (inb (x3 + (2 : Int32)) L) (
c2 (f_X12_hide N S g_1 a2 (xs (x3 + (1 : Int32)).toNatClampNeg) (xs (x3 + (2 : Int32)).toNatClampNeg)) (fun x_4 g_3 =>
if x_2 = x_4 then (
b_L_law_1462 N L xs k18 S g_3 a1 a2 x3) else (
some ((0 : Int32), S, g_3, 0, 0))))))))
def b_L_law_272 (N : Nat) (L : Nat) (xs : Nat → Int32) (k18 : Hs → Hg → Nat → Nat → Int32 → Option (Int32 × Hs × Hg × Nat × Nat)) (S : Hs) (g : Hg) (a1 : Nat) (a2 : Nat) (x3 : Int32) : Option (Int32 × Hs × Hg × Nat × Nat) :=
ck (inb (x3 + (1 : Int32)) L) (
ck (inb (x3 + (2 : Int32)) L) (
c5 (f_X11_fork N S g a1 (xs (x3 + (1 : Int32)).toNatClampNeg) (xs (x3 + (2 : Int32)).toNatClampNeg)) (fun x_2 S_3 g_1 =>
ck (inb (x3 + (1 : Int32)) L) (
ck (inb (x3 + (2 : Int32)) L) (
c2 (f_X12_fork N S_3 g_1 a2 (xs (x3 + (1 : Int32)).toNatClampNeg) (xs (x3 + (2 : Int32)).toNatClampNeg)) (fun x_9 g_8 =>
if x_2 = x_9 then (
b_L_law_1462 N L xs k18 S_3 g_8 a1 a2 x3) else (
some ((0 : Int32), S_3, g_8, 0, 0))))))))
def b_L_law_199 (N : Nat) (L : Nat) (xs : Nat → Int32) (k18 : Hs → Hg → Nat → Nat → Int32 → Option (Int32 × Hs × Hg × Nat × Nat)) (S : Hs) (g : Hg) (a1 : Nat) (a2 : Nat) (x3 : Int32) : Option (Int32 × Hs × Hg × Nat × Nat) :=
ck (inb (x3 + (1 : Int32)) L) (
ck (inb (x3 + (2 : Int32)) L) (
ck (inb (x3 + (3 : Int32)) L) (
ck (inb (x3 + (4 : Int32)) L) (
c2 (f_X11_add N S g a1 (xs (x3 + (1 : Int32)).toNatClampNeg) (xs (x3 + (2 : Int32)).toNatClampNeg) ((((xs (x3 + (3 : Int32)).toNatClampNeg)).toInt64 <<< ((32 : Int32).toInt64 &&& 63)) ||| (((xs (x3 + (4 : Int32)).toNatClampNeg)).toInt64 &&& (4294967295 : Int64)))) (fun x_2 g_1 =>
ck (inb (x3 + (1 : Int32)) L) (
ck (inb (x3 + (2 : Int32)) L) (
ck (inb (x3 + (3 : Int32)) L) (
ck (inb (x3 + (4 : Int32)) L) (
c2 (f_X12_add N S g_1 a2 (xs (x3 + (1 : Int32)).toNatClampNeg) (xs (x3 + (2 : Int32)).toNatClampNeg) ((((xs (x3 + (3 : Int32)).toNatClampNeg)).toInt64 <<< ((32 : Int32).toInt64 &&& 63)) ||| (((xs (x3 + (4 : Int32)).toNatClampNeg)).toInt64 &&& (4294967295 : Int64)))) (fun x_4 g_3 =>
if x_2 = x_4 then (
b_L_law_1462 N L xs k18 S g_3 a1 a2 x3) else (
some ((0 : Int32), S, g_3, 0, 0))))))))))))
def b_L_law_176 (N : Nat) (L : Nat) (xs : Nat → Int32) (k18 : Hs → Hg → Nat → Nat → Int32 → Option (Int32 × Hs × Hg × Nat × Nat)) (S : Hs) (g : Hg) (a1 : Nat) (a2 : Nat) (x3 : Int32) : Option (Int32 × Hs × Hg × Nat × Nat) :=
ck (inb (x3 + (1 : Int32)) L) (
c5 (f_X11_open N S g a1 (xs (x3 + (1 : Int32)).toNatClampNeg)) (fun x_2 S_3 g_1 =>
ck (inb (x3 + (1 : Int32)) L) (
c2 (f_X12_open N S_3 g_1 a2 (xs (x3 + (1 : Int32)).toNatClampNeg)) (fun x_9 g_8 =>
if x_2 = x_9 then (
b_L_law_1462 N L xs k18 S_3 g_8 a1 a2 x3) else (
some ((0 : Int32), S_3, g_8, 0, 0))))))
def b_L_law_18 (N : Nat) (L : Nat) (xs : Nat → Int32) (k18 : Hs → Hg → Nat → Nat → Int32 → Option (Int32 × Hs × Hg × Nat × Nat)) (S : Hs) (g : Hg) (a1 : Nat) (a2 : Nat) (x3 : Int32) : Option (Int32 × Hs × Hg × Nat × Nat) :=
if ((nI L) - (6 : Int32)) < x3 then (
some ((1 : Int32), S, g, 0, 0)) else (
ck (inb x3 L) (
nm ((xs x3.toNatClampNeg) &&& (31 : Int32)) (fun x_2 =>
if x_2 = 0 then (
b_L_law_176 N L xs k18 S g a1 a2 x3) else (
if x_2 = 1 then (
b_L_law_199 N L xs k18 S g a1 a2 x3) else (
if x_2 = 2 then (
b_L_law_272 N L xs k18 S g a1 a2 x3) else (
if x_2 = 3 then (
b_L_law_305 N L xs k18 S g a1 a2 x3) else (
if x_2 = 4 then (
b_L_law_338 N L xs k18 S g a1 a2 x3) else (
if x_2 = 5 then (
b_L_law_371 N L xs k18 S g a1 a2 x3) else (
if x_2 = 6 then (
b_L_law_404 N L xs k18 S g a1 a2 x3) else (
if x_2 = 7 then (
b_L_law_437 N L xs k18 S g a1 a2 x3) else (
if x_2 = 8 then (
b_L_law_470 N L xs k18 S g a1 a2 x3) else (
if x_2 = 9 then (
b_L_law_513 N L xs k18 S g a1 a2 x3) else (
if x_2 = 10 then (
b_L_law_566 N L xs k18 S g a1 a2 x3) else (
if x_2 = 11 then (
b_L_law_619 N L xs k18 S g a1 a2 x3) else (
if x_2 = 12 then (
b_L_law_672 N L xs k18 S g a1 a2 x3) else (
if x_2 = 13 then (
b_L_law_725 N L xs k18 S g a1 a2 x3) else (
if x_2 = 14 then (
b_L_law_778 N L xs k18 S g a1 a2 x3) else (
if x_2 = 15 then (
b_L_law_841 N L xs k18 S g a1 a2 x3) else (
if x_2 = 16 then (
b_L_law_864 N L xs k18 S g a1 a2 x3) else (
if x_2 = 17 then (
b_L_law_897 N L xs k18 S g a1 a2 x3) else (
if x_2 = 18 then (
b_L_law_940 N L xs k18 S g a1 a2 x3) else (
if x_2 = 19 then (
b_L_law_993 N L xs k18 S g a1 a2 x3) else (
if x_2 = 20 then (
b_L_law_1076 N L xs k18 S g a1 a2 x3) else (
if x_2 = 21 then (
b_L_law_1119 N L xs k18 S g a1 a2 x3) else (
if x_2 = 22 then (
b_L_law_1162 N L xs k18 S g a1 a2 x3) else (
if x_2 = 23 then (
b_L_law_1195 N L xs k18 S g a1 a2 x3) else (
if x_2 = 24 then (
b_L_law_1228 N L xs k18 S g a1 a2 x3) else (
if x_2 = 25 then (
b_L_law_1261 N L xs k18 S g a1 a2 x3) else (
if x_2 = 26 then (
b_L_law_1304 N L xs k18 S g a1 a2 x3) else (
if x_2 = 27 then (
b_L_law_1357 N L xs k18 S g a1 a2 x3) else (
if x_2 = 28 then (
b_L_law_1380 N L xs k18 S g a1 a2 x3) else (
if x_2 = 29 then (
b_L_law_1413 N L xs k18 S g a1 a2 x3) else (
if x_2 = 30 then (
b_L_law_1436 N L xs k18 S g a1 a2 x3) else (
if x_2 = 31 then (
b_L_law_1449 N L xs k18 S g a1 a2 x3) else (
b_L_law_1462 N L xs k18 S g a1 a2 x3)))))))))))))))))))))))))))))))))))
def n_L_law_18 (N : Nat) (L : Nat) (xs : Nat → Int32) : Nat → Hs → Hg → Nat → Nat → Int32 → Option (Int32 × Hs × Hg × Nat × Nat)
  | 0 => fun _ _ _ _ _ => none
  | n + 1 => fun S g a1 a2 x3 => b_L_law_18 N L xs (n_L_law_18 N L xs n) S g a1 a2 x3
def b_L_law_0 (N : Nat) (L : Nat) (xs : Nat → Int32) (S : Hs) (g : Hg) : Option (Int32 × Hs × Hg × Nat × Nat) :=
al S g 11 7 (fun a_6 S_1 g_2 =>
c5 (f_X11_init N S_1 g_2 a_6) (fun u_8 S_9 g_7 =>
al S_9 g_7 12 66 (fun a_19 S_14 g_15 =>
c5 (f_X12_init N S_14 g_15 a_19) (fun u_21 S_22 g_20 =>
n_L_law_18 N L xs N S_22 g_20 a_6 a_19 (0 : Int32)))))
set_option maxHeartbeats 4000000 in
set_option maxRecDepth 100000 in
theorem w_L_law_1462 {N b L : Nat} {xs : Nat → Int32} (C0 : lw_At p s m meth c b L xs) (hX : Kx D cA lo tS s) (hlo : lo = s.heap.size) {S0 S1 : Hs} {g1 : Hg} {cT wT : Nat} (hRc : cT ≤ room_1.cells) (hRs : wT ≤ room_1.slots) {k18 : Hs → Hg → Nat → Nat → Int32 → Option (Int32 × Hs × Hg × Nat × Nat)} (hk18 : ∀ (H : Heap) (locs : List Loc) (ls : Array Slot) (cells slots k w : Nat) (S : Hs) (g : Hg) (a1 : Nat) (a2 : Nat) (x3 : Int32), Mm D cA lo S g s H locs → Ext lo S0 S → Rf lo S a1 11 → Rf lo S a2 12 → lv_has ls 4 [(0, .ref b), (1, .ref a1), (2, .ref a2), (3, .int x3)] → k18 S g a1 a2 x3 = some ((1 : Int32), S1, g1, k, w) → cells + k = cT → slots + w = wT → W p l e room_1 s m #[Value.ref b] below meth c H locs cells slots (lw_Z below #[Value.ref b] s) (F0 m 18 ls [])) : ∀ (H : Heap) (locs : List Loc) (ls : Array Slot) (cells slots k w : Nat) (S : Hs) (g : Hg) (a1 : Nat) (a2 : Nat) (x3 : Int32), Mm D cA lo S g s H locs → Ext lo S0 S → Rf lo S a1 11 → Rf lo S a2 12 → lv_has ls 4 [(0, .ref b), (1, .ref a1), (2, .ref a2), (3, .int x3)] → b_L_law_1462 N L xs k18 S g a1 a2 x3 = some ((1 : Int32), S1, g1, k, w) → cells + k = cT → slots + w = wT → W p l e room_1 s m #[Value.ref b] below meth c H locs cells slots (lw_Z below #[Value.ref b] s) (F0 m 1462 ls []) := by
  obtain ⟨hx, hb, hr, hml, hown, hts, hXs, hbl, hlk, hgv⟩ := id C0
  have hbA : ¬ (fun q : Nat => lo ≤ q) b := by show ¬ lo ≤ b; omega
  intro H locs ls cells slots k w S g a1 a2 x3 M hE ra1 ra2 hl q hc hs
  unfold b_L_law_1462 at q
  obtain ⟨x_1, e_x_1⟩ : ∃ y : Int32, y = x3 + 6 := ⟨_, rfl⟩
  replace q := nm_s q e_x_1
  refine lv_iinc (v := x_1) (lv' := [(3, .int x_1), (0, .ref b), (1, .ref a1), (2, .ref a2)]) hx hb dL_law_1462 hl (k := 3) rfl (by rw [e_x_1]; rfl) (by decide) rfl (fun ls hl => ?_)
  refine lv_goto (tgt := 18) hx hb dL_law_1465 (by decide) ?_
  exact hk18 _ _ _ _ _ _ _ _ _ _ _ _ M hE ra1 ra2 (lv_sub hl [1, 2, 3, 0] rfl) q hc hs
set_option maxHeartbeats 4000000 in
set_option maxRecDepth 100000 in
theorem w_L_law_1449 {N b L : Nat} {xs : Nat → Int32} (C0 : lw_At p s m meth c b L xs) (hX : Kx D cA lo tS s) (hlo : lo = s.heap.size) {S0 S1 : Hs} {g1 : Hg} {cT wT : Nat} (hRc : cT ≤ room_1.cells) (hRs : wT ≤ room_1.slots) {k18 : Hs → Hg → Nat → Nat → Int32 → Option (Int32 × Hs × Hg × Nat × Nat)} (hk18 : ∀ (H : Heap) (locs : List Loc) (ls : Array Slot) (cells slots k w : Nat) (S : Hs) (g : Hg) (a1 : Nat) (a2 : Nat) (x3 : Int32), Mm D cA lo S g s H locs → Ext lo S0 S → Rf lo S a1 11 → Rf lo S a2 12 → lv_has ls 4 [(0, .ref b), (1, .ref a1), (2, .ref a2), (3, .int x3)] → k18 S g a1 a2 x3 = some ((1 : Int32), S1, g1, k, w) → cells + k = cT → slots + w = wT → W p l e room_1 s m #[Value.ref b] below meth c H locs cells slots (lw_Z below #[Value.ref b] s) (F0 m 18 ls [])) : ∀ (H : Heap) (locs : List Loc) (ls : Array Slot) (cells slots k w : Nat) (S : Hs) (g : Hg) (a1 : Nat) (a2 : Nat) (x3 : Int32), Mm D cA lo S g s H locs → Ext lo S0 S → Rf lo S a1 11 → Rf lo S a2 12 → lv_has ls 4 [(0, .ref b), (1, .ref a1), (2, .ref a2), (3, .int x3)] → b_L_law_1449 N L xs k18 S g a1 a2 x3 = some ((1 : Int32), S1, g1, k, w) → cells + k = cT → slots + w = wT → W p l e room_1 s m #[Value.ref b] below meth c H locs cells slots (lw_Z below #[Value.ref b] s) (F0 m 1449 ls []) := by
  obtain ⟨hx, hb, hr, hml, hown, hts, hXs, hbl, hlk, hgv⟩ := id C0
  have hbA : ¬ (fun q : Nat => lo ≤ q) b := by show ¬ lo ≤ b; omega
  intro H locs ls cells slots k w S g a1 a2 x3 M hE ra1 ra2 hl q hc hs
  unfold b_L_law_1449 at q
  refine lv_aload_n hx hb dL_law_1449 rfl (lv_at hl 1 rfl) ?_
  replace q := c5_s q
  obtain ⟨x_2, S_3, g_1, k_4, w_5, k_6, w_7, qc, ek, ew, q⟩ := q
  refine x_callV hx hb hml hl.1 hown hX M (As := []) (rest := []) okX11 ra1 rfl kw_1002 kw_1003 mok_X11_back (c_X11_back ra1 qc (Nat.le_refl 6)) kw_1001 rfl rfl dL_law_1450 (Nat.le_of_ble_eq_true rfl) ⟨by decide, by decide⟩ (hb_step hc ek hRc) (hb_step hs ew hRs) (fun H locs M hEF => ?_)
  replace ra1 := ra1.ext hEF.1
  replace ra2 := ra2.ext hEF.1
  replace hE := hE.tr hEF.1
  replace hc := hc_step hc ek
  replace hs := hc_step hs ew
  clear ek ew
  refine lv_aload_n hx hb dL_law_1453 rfl (lv_at hl 2 rfl) ?_
  replace q := c2_s q
  obtain ⟨x_9, g_8, qc, q⟩ := q
  refine x_callV hx hb hml hl.1 hown hX M (S1 := S_3) (As := []) (rest := [.int x_2]) okX12 ra2 rfl kw_1511 kw_1512 mok_X12_back (c_X12_back ra2 qc (Nat.le_refl 2)) kw_1510 rfl rfl dL_law_1454 (Nat.le_of_ble_eq_true rfl) ⟨by decide, by decide⟩ (hz_step hc hRc) (hz_step hs hRs) (fun H locs M hEF => ?_)
  refine lv_icmp_eq (tgt := 1462) hx hb dL_law_1457 (by decide) (fun c_10 => ?_) (fun c_10 => ?_)
  · replace q := if_t c_10 q
    exact w_L_law_1462 (N := N) C0 hX hlo hRc hRs hk18 _ _ _ _ _ _ _ _ _ _ _ _ M hE ra1 ra2 (lv_sub hl [0, 1, 2, 3] rfl) q hc hs
  · replace q := if_f c_10 q
    refine lv_iconst (v := 0) hx hb dL_law_1460 (by decide) ?_
    exact absurd q (by simp)
set_option maxHeartbeats 4000000 in
set_option maxRecDepth 100000 in
theorem w_L_law_1436 {N b L : Nat} {xs : Nat → Int32} (C0 : lw_At p s m meth c b L xs) (hX : Kx D cA lo tS s) (hlo : lo = s.heap.size) {S0 S1 : Hs} {g1 : Hg} {cT wT : Nat} (hRc : cT ≤ room_1.cells) (hRs : wT ≤ room_1.slots) {k18 : Hs → Hg → Nat → Nat → Int32 → Option (Int32 × Hs × Hg × Nat × Nat)} (hk18 : ∀ (H : Heap) (locs : List Loc) (ls : Array Slot) (cells slots k w : Nat) (S : Hs) (g : Hg) (a1 : Nat) (a2 : Nat) (x3 : Int32), Mm D cA lo S g s H locs → Ext lo S0 S → Rf lo S a1 11 → Rf lo S a2 12 → lv_has ls 4 [(0, .ref b), (1, .ref a1), (2, .ref a2), (3, .int x3)] → k18 S g a1 a2 x3 = some ((1 : Int32), S1, g1, k, w) → cells + k = cT → slots + w = wT → W p l e room_1 s m #[Value.ref b] below meth c H locs cells slots (lw_Z below #[Value.ref b] s) (F0 m 18 ls [])) : ∀ (H : Heap) (locs : List Loc) (ls : Array Slot) (cells slots k w : Nat) (S : Hs) (g : Hg) (a1 : Nat) (a2 : Nat) (x3 : Int32), Mm D cA lo S g s H locs → Ext lo S0 S → Rf lo S a1 11 → Rf lo S a2 12 → lv_has ls 4 [(0, .ref b), (1, .ref a1), (2, .ref a2), (3, .int x3)] → b_L_law_1436 N L xs k18 S g a1 a2 x3 = some ((1 : Int32), S1, g1, k, w) → cells + k = cT → slots + w = wT → W p l e room_1 s m #[Value.ref b] below meth c H locs cells slots (lw_Z below #[Value.ref b] s) (F0 m 1436 ls []) := by
  obtain ⟨hx, hb, hr, hml, hown, hts, hXs, hbl, hlk, hgv⟩ := id C0
  have hbA : ¬ (fun q : Nat => lo ≤ q) b := by show ¬ lo ≤ b; omega
  intro H locs ls cells slots k w S g a1 a2 x3 M hE ra1 ra2 hl q hc hs
  unfold b_L_law_1436 at q
  refine lv_aload_n hx hb dL_law_1436 rfl (lv_at hl 1 rfl) ?_
  replace q := c5_s q
  obtain ⟨x_2, S_3, g_1, k_4, w_5, k_6, w_7, qc, ek, ew, q⟩ := q
  refine x_callV hx hb hml hl.1 hown hX M (As := []) (rest := []) okX11 ra1 rfl kw_977 kw_978 mok_X11_image (c_X11_image ra1 qc (Nat.le_refl 6)) kw_976 rfl rfl dL_law_1437 (Nat.le_of_ble_eq_true rfl) ⟨by decide, by decide⟩ (hb_step hc ek hRc) (hb_step hs ew hRs) (fun H locs M hEF => ?_)
  replace ra1 := ra1.ext hEF.1
  replace ra2 := ra2.ext hEF.1
  replace hE := hE.tr hEF.1
  replace hc := hc_step hc ek
  replace hs := hc_step hs ew
  clear ek ew
  refine lv_aload_n hx hb dL_law_1440 rfl (lv_at hl 2 rfl) ?_
  replace q := c2_s q
  obtain ⟨x_9, g_8, qc, q⟩ := q
  refine x_callV hx hb hml hl.1 hown hX M (S1 := S_3) (As := []) (rest := [.int x_2]) okX12 ra2 rfl kw_1498 kw_1499 mok_X12_image (c_X12_image ra2 qc (Nat.le_refl 2)) kw_1497 rfl rfl dL_law_1441 (Nat.le_of_ble_eq_true rfl) ⟨by decide, by decide⟩ (hz_step hc hRc) (hz_step hs hRs) (fun H locs M hEF => ?_)
  refine lv_icmp_eq (tgt := 1462) hx hb dL_law_1444 (by decide) (fun c_10 => ?_) (fun c_10 => ?_)
  · replace q := if_t c_10 q
    exact w_L_law_1462 (N := N) C0 hX hlo hRc hRs hk18 _ _ _ _ _ _ _ _ _ _ _ _ M hE ra1 ra2 (lv_sub hl [0, 1, 2, 3] rfl) q hc hs
  · replace q := if_f c_10 q
    refine lv_iconst (v := 0) hx hb dL_law_1447 (by decide) ?_
    exact absurd q (by simp)
set_option maxHeartbeats 4000000 in
set_option maxRecDepth 100000 in
theorem w_L_law_1413 {N b L : Nat} {xs : Nat → Int32} (C0 : lw_At p s m meth c b L xs) (hX : Kx D cA lo tS s) (hlo : lo = s.heap.size) {S0 S1 : Hs} {g1 : Hg} {cT wT : Nat} (hRc : cT ≤ room_1.cells) (hRs : wT ≤ room_1.slots) {k18 : Hs → Hg → Nat → Nat → Int32 → Option (Int32 × Hs × Hg × Nat × Nat)} (hk18 : ∀ (H : Heap) (locs : List Loc) (ls : Array Slot) (cells slots k w : Nat) (S : Hs) (g : Hg) (a1 : Nat) (a2 : Nat) (x3 : Int32), Mm D cA lo S g s H locs → Ext lo S0 S → Rf lo S a1 11 → Rf lo S a2 12 → lv_has ls 4 [(0, .ref b), (1, .ref a1), (2, .ref a2), (3, .int x3)] → k18 S g a1 a2 x3 = some ((1 : Int32), S1, g1, k, w) → cells + k = cT → slots + w = wT → W p l e room_1 s m #[Value.ref b] below meth c H locs cells slots (lw_Z below #[Value.ref b] s) (F0 m 18 ls [])) : ∀ (H : Heap) (locs : List Loc) (ls : Array Slot) (cells slots k w : Nat) (S : Hs) (g : Hg) (a1 : Nat) (a2 : Nat) (x3 : Int32), Mm D cA lo S g s H locs → Ext lo S0 S → Rf lo S a1 11 → Rf lo S a2 12 → lv_has ls 4 [(0, .ref b), (1, .ref a1), (2, .ref a2), (3, .int x3)] → b_L_law_1413 N L xs k18 S g a1 a2 x3 = some ((1 : Int32), S1, g1, k, w) → cells + k = cT → slots + w = wT → W p l e room_1 s m #[Value.ref b] below meth c H locs cells slots (lw_Z below #[Value.ref b] s) (F0 m 1413 ls []) := by
  obtain ⟨hx, hb, hr, hml, hown, hts, hXs, hbl, hlk, hgv⟩ := id C0
  have hbA : ¬ (fun q : Nat => lo ≤ q) b := by show ¬ lo ≤ b; omega
  intro H locs ls cells slots k w S g a1 a2 x3 M hE ra1 ra2 hl q hc hs
  unfold b_L_law_1413 at q
  refine lv_aload_n hx hb dL_law_1413 rfl (lv_at hl 1 rfl) ?_
  refine lv_aload_n hx hb dL_law_1414 rfl (lv_at hl 0 rfl) ?_
  refine lv_iload_n hx hb dL_law_1415 rfl (lv_at hl 3 rfl) ?_
  refine lv_iconst (v := 1) hx hb dL_law_1416 (by decide) ?_
  refine lv_iadd hx hb dL_law_1417 ?_
  replace q := ck_s q
  obtain ⟨hin, q⟩ := q
  refine va_sld hx hb hXs hbl hbA M.2.2 (inb_in hin) dL_law_1418 ?_
  replace q := c2_s q
  obtain ⟨x_2, g_1, qc, q⟩ := q
  refine x_callV hx hb hml hl.1 hown hX M (S1 := S) (As := [.int (xs (x3 + (1 : Int32)).toNatClampNeg)]) (rest := []) okX11 ra1 rfl kw_961 kw_962 mok_X11_all (c_X11_all ra1 qc (Nat.le_refl 2)) kw_960 rfl rfl dL_law_1419 (Nat.le_of_ble_eq_true rfl) ⟨by decide, by decide⟩ (hz_step hc hRc) (hz_step hs hRs) (fun H locs M hEF => ?_)
  refine lv_aload_n hx hb dL_law_1422 rfl (lv_at hl 2 rfl) ?_
  refine lv_aload_n hx hb dL_law_1423 rfl (lv_at hl 0 rfl) ?_
  refine lv_iload_n hx hb dL_law_1424 rfl (lv_at hl 3 rfl) ?_
  refine lv_iconst (v := 1) hx hb dL_law_1425 (by decide) ?_
  refine lv_iadd hx hb dL_law_1426 ?_
  replace q := ck_s q
  obtain ⟨hin, q⟩ := q
  refine va_sld hx hb hXs hbl hbA M.2.2 (inb_in hin) dL_law_1427 ?_
  replace q := c2_s q
  obtain ⟨x_4, g_3, qc, q⟩ := q
  refine x_callV hx hb hml hl.1 hown hX M (S1 := S) (As := [.int (xs (x3 + (1 : Int32)).toNatClampNeg)]) (rest := [.int x_2]) okX12 ra2 rfl kw_1494 kw_1495 mok_X12_all (c_X12_all ra2 qc (Nat.le_refl 2)) kw_1493 rfl rfl dL_law_1428 (Nat.le_of_ble_eq_true rfl) ⟨by decide, by decide⟩ (hz_step hc hRc) (hz_step hs hRs) (fun H locs M hEF => ?_)
  refine lv_icmp_eq (tgt := 1462) hx hb dL_law_1431 (by decide) (fun c_5 => ?_) (fun c_5 => ?_)
  · replace q := if_t c_5 q
    exact w_L_law_1462 (N := N) C0 hX hlo hRc hRs hk18 _ _ _ _ _ _ _ _ _ _ _ _ M hE ra1 ra2 (lv_sub hl [0, 1, 2, 3] rfl) q hc hs
  · replace q := if_f c_5 q
    refine lv_iconst (v := 0) hx hb dL_law_1434 (by decide) ?_
    exact absurd q (by simp)
set_option maxHeartbeats 4000000 in
set_option maxRecDepth 100000 in
theorem w_L_law_1380 {N b L : Nat} {xs : Nat → Int32} (C0 : lw_At p s m meth c b L xs) (hX : Kx D cA lo tS s) (hlo : lo = s.heap.size) {S0 S1 : Hs} {g1 : Hg} {cT wT : Nat} (hRc : cT ≤ room_1.cells) (hRs : wT ≤ room_1.slots) {k18 : Hs → Hg → Nat → Nat → Int32 → Option (Int32 × Hs × Hg × Nat × Nat)} (hk18 : ∀ (H : Heap) (locs : List Loc) (ls : Array Slot) (cells slots k w : Nat) (S : Hs) (g : Hg) (a1 : Nat) (a2 : Nat) (x3 : Int32), Mm D cA lo S g s H locs → Ext lo S0 S → Rf lo S a1 11 → Rf lo S a2 12 → lv_has ls 4 [(0, .ref b), (1, .ref a1), (2, .ref a2), (3, .int x3)] → k18 S g a1 a2 x3 = some ((1 : Int32), S1, g1, k, w) → cells + k = cT → slots + w = wT → W p l e room_1 s m #[Value.ref b] below meth c H locs cells slots (lw_Z below #[Value.ref b] s) (F0 m 18 ls [])) : ∀ (H : Heap) (locs : List Loc) (ls : Array Slot) (cells slots k w : Nat) (S : Hs) (g : Hg) (a1 : Nat) (a2 : Nat) (x3 : Int32), Mm D cA lo S g s H locs → Ext lo S0 S → Rf lo S a1 11 → Rf lo S a2 12 → lv_has ls 4 [(0, .ref b), (1, .ref a1), (2, .ref a2), (3, .int x3)] → b_L_law_1380 N L xs k18 S g a1 a2 x3 = some ((1 : Int32), S1, g1, k, w) → cells + k = cT → slots + w = wT → W p l e room_1 s m #[Value.ref b] below meth c H locs cells slots (lw_Z below #[Value.ref b] s) (F0 m 1380 ls []) := by
  obtain ⟨hx, hb, hr, hml, hown, hts, hXs, hbl, hlk, hgv⟩ := id C0
  have hbA : ¬ (fun q : Nat => lo ≤ q) b := by show ¬ lo ≤ b; omega
  intro H locs ls cells slots k w S g a1 a2 x3 M hE ra1 ra2 hl q hc hs
  unfold b_L_law_1380 at q
  refine lv_aload_n hx hb dL_law_1380 rfl (lv_at hl 1 rfl) ?_
  refine lv_aload_n hx hb dL_law_1381 rfl (lv_at hl 0 rfl) ?_
  refine lv_iload_n hx hb dL_law_1382 rfl (lv_at hl 3 rfl) ?_
  refine lv_iconst (v := 1) hx hb dL_law_1383 (by decide) ?_
  refine lv_iadd hx hb dL_law_1384 ?_
  replace q := ck_s q
  obtain ⟨hin, q⟩ := q
  refine va_sld hx hb hXs hbl hbA M.2.2 (inb_in hin) dL_law_1385 ?_
  refine lv_aload_n hx hb dL_law_1386 rfl (lv_at hl 0 rfl) ?_
  refine lv_iload_n hx hb dL_law_1387 rfl (lv_at hl 3 rfl) ?_
  refine lv_iconst (v := 2) hx hb dL_law_1388 (by decide) ?_
  refine lv_iadd hx hb dL_law_1389 ?_
  replace q := ck_s q
  obtain ⟨hin, q⟩ := q
  refine va_sld hx hb hXs hbl hbA M.2.2 (inb_in hin) dL_law_1390 ?_
  replace q := c2_s q
  obtain ⟨x_2, g_1, qc, q⟩ := q
  refine x_callV hx hb hml hl.1 hown hX M (S1 := S) (As := [.int (xs (x3 + (1 : Int32)).toNatClampNeg), .int (xs (x3 + (2 : Int32)).toNatClampNeg)]) (rest := []) okX11 ra1 rfl kw_957 kw_958 mok_X11_watching (c_X11_watching ra1 qc (Nat.le_refl 2)) kw_956 rfl rfl dL_law_1391 (Nat.le_of_ble_eq_true rfl) ⟨by decide, by decide⟩ (hz_step hc hRc) (hz_step hs hRs) (fun H locs M hEF => ?_)
  refine lv_aload_n hx hb dL_law_1394 rfl (lv_at hl 2 rfl) ?_
  refine lv_aload_n hx hb dL_law_1395 rfl (lv_at hl 0 rfl) ?_
  refine lv_iload_n hx hb dL_law_1396 rfl (lv_at hl 3 rfl) ?_
  refine lv_iconst (v := 1) hx hb dL_law_1397 (by decide) ?_
  refine lv_iadd hx hb dL_law_1398 ?_
  replace q := ck_s q
  obtain ⟨hin, q⟩ := q
  refine va_sld hx hb hXs hbl hbA M.2.2 (inb_in hin) dL_law_1399 ?_
  refine lv_aload_n hx hb dL_law_1400 rfl (lv_at hl 0 rfl) ?_
  refine lv_iload_n hx hb dL_law_1401 rfl (lv_at hl 3 rfl) ?_
  refine lv_iconst (v := 2) hx hb dL_law_1402 (by decide) ?_
  refine lv_iadd hx hb dL_law_1403 ?_
  replace q := ck_s q
  obtain ⟨hin, q⟩ := q
  refine va_sld hx hb hXs hbl hbA M.2.2 (inb_in hin) dL_law_1404 ?_
  replace q := c2_s q
  obtain ⟨x_4, g_3, qc, q⟩ := q
  refine x_callV hx hb hml hl.1 hown hX M (S1 := S) (As := [.int (xs (x3 + (1 : Int32)).toNatClampNeg), .int (xs (x3 + (2 : Int32)).toNatClampNeg)]) (rest := [.int x_2]) okX12 ra2 rfl kw_1490 kw_1491 mok_X12_watching (c_X12_watching ra2 qc (Nat.le_refl 2)) kw_1489 rfl rfl dL_law_1405 (Nat.le_of_ble_eq_true rfl) ⟨by decide, by decide⟩ (hz_step hc hRc) (hz_step hs hRs) (fun H locs M hEF => ?_)
  refine lv_icmp_eq (tgt := 1462) hx hb dL_law_1408 (by decide) (fun c_5 => ?_) (fun c_5 => ?_)
  · replace q := if_t c_5 q
    exact w_L_law_1462 (N := N) C0 hX hlo hRc hRs hk18 _ _ _ _ _ _ _ _ _ _ _ _ M hE ra1 ra2 (lv_sub hl [0, 1, 2, 3] rfl) q hc hs
  · replace q := if_f c_5 q
    refine lv_iconst (v := 0) hx hb dL_law_1411 (by decide) ?_
    exact absurd q (by simp)
set_option maxHeartbeats 4000000 in
set_option maxRecDepth 100000 in
theorem w_L_law_1357 {N b L : Nat} {xs : Nat → Int32} (C0 : lw_At p s m meth c b L xs) (hX : Kx D cA lo tS s) (hlo : lo = s.heap.size) {S0 S1 : Hs} {g1 : Hg} {cT wT : Nat} (hRc : cT ≤ room_1.cells) (hRs : wT ≤ room_1.slots) {k18 : Hs → Hg → Nat → Nat → Int32 → Option (Int32 × Hs × Hg × Nat × Nat)} (hk18 : ∀ (H : Heap) (locs : List Loc) (ls : Array Slot) (cells slots k w : Nat) (S : Hs) (g : Hg) (a1 : Nat) (a2 : Nat) (x3 : Int32), Mm D cA lo S g s H locs → Ext lo S0 S → Rf lo S a1 11 → Rf lo S a2 12 → lv_has ls 4 [(0, .ref b), (1, .ref a1), (2, .ref a2), (3, .int x3)] → k18 S g a1 a2 x3 = some ((1 : Int32), S1, g1, k, w) → cells + k = cT → slots + w = wT → W p l e room_1 s m #[Value.ref b] below meth c H locs cells slots (lw_Z below #[Value.ref b] s) (F0 m 18 ls [])) : ∀ (H : Heap) (locs : List Loc) (ls : Array Slot) (cells slots k w : Nat) (S : Hs) (g : Hg) (a1 : Nat) (a2 : Nat) (x3 : Int32), Mm D cA lo S g s H locs → Ext lo S0 S → Rf lo S a1 11 → Rf lo S a2 12 → lv_has ls 4 [(0, .ref b), (1, .ref a1), (2, .ref a2), (3, .int x3)] → b_L_law_1357 N L xs k18 S g a1 a2 x3 = some ((1 : Int32), S1, g1, k, w) → cells + k = cT → slots + w = wT → W p l e room_1 s m #[Value.ref b] below meth c H locs cells slots (lw_Z below #[Value.ref b] s) (F0 m 1357 ls []) := by
  obtain ⟨hx, hb, hr, hml, hown, hts, hXs, hbl, hlk, hgv⟩ := id C0
  have hbA : ¬ (fun q : Nat => lo ≤ q) b := by show ¬ lo ≤ b; omega
  intro H locs ls cells slots k w S g a1 a2 x3 M hE ra1 ra2 hl q hc hs
  unfold b_L_law_1357 at q
  refine lv_aload_n hx hb dL_law_1357 rfl (lv_at hl 1 rfl) ?_
  refine lv_aload_n hx hb dL_law_1358 rfl (lv_at hl 0 rfl) ?_
  refine lv_iload_n hx hb dL_law_1359 rfl (lv_at hl 3 rfl) ?_
  refine lv_iconst (v := 1) hx hb dL_law_1360 (by decide) ?_
  refine lv_iadd hx hb dL_law_1361 ?_
  replace q := ck_s q
  obtain ⟨hin, q⟩ := q
  refine va_sld hx hb hXs hbl hbA M.2.2 (inb_in hin) dL_law_1362 ?_
  replace q := c2_s q
  obtain ⟨x_2, g_1, qc, q⟩ := q
  refine x_callV hx hb hml hl.1 hown hX M (S1 := S) (As := [.int (xs (x3 + (1 : Int32)).toNatClampNeg)]) (rest := []) okX11 ra1 rfl kw_934 kw_935 mok_X11_watch (c_X11_watch ra1 qc (Nat.le_refl 4)) kw_933 rfl rfl dL_law_1363 (Nat.le_of_ble_eq_true rfl) ⟨by decide, by decide⟩ (hz_step hc hRc) (hz_step hs hRs) (fun H locs M hEF => ?_)
  refine lv_aload_n hx hb dL_law_1366 rfl (lv_at hl 2 rfl) ?_
  refine lv_aload_n hx hb dL_law_1367 rfl (lv_at hl 0 rfl) ?_
  refine lv_iload_n hx hb dL_law_1368 rfl (lv_at hl 3 rfl) ?_
  refine lv_iconst (v := 1) hx hb dL_law_1369 (by decide) ?_
  refine lv_iadd hx hb dL_law_1370 ?_
  replace q := ck_s q
  obtain ⟨hin, q⟩ := q
  refine va_sld hx hb hXs hbl hbA M.2.2 (inb_in hin) dL_law_1371 ?_
  replace q := c2_s q
  obtain ⟨x_4, g_3, qc, q⟩ := q
  refine x_callV hx hb hml hl.1 hown hX M (S1 := S) (As := [.int (xs (x3 + (1 : Int32)).toNatClampNeg)]) (rest := [.int x_2]) okX12 ra2 rfl kw_1486 kw_1487 mok_X12_watch (c_X12_watch ra2 qc (Nat.le_refl 5)) kw_1485 rfl rfl dL_law_1372 (Nat.le_of_ble_eq_true rfl) ⟨by decide, by decide⟩ (hz_step hc hRc) (hz_step hs hRs) (fun H locs M hEF => ?_)
  refine lv_icmp_eq (tgt := 1462) hx hb dL_law_1375 (by decide) (fun c_5 => ?_) (fun c_5 => ?_)
  · replace q := if_t c_5 q
    exact w_L_law_1462 (N := N) C0 hX hlo hRc hRs hk18 _ _ _ _ _ _ _ _ _ _ _ _ M hE ra1 ra2 (lv_sub hl [0, 1, 2, 3] rfl) q hc hs
  · replace q := if_f c_5 q
    refine lv_iconst (v := 0) hx hb dL_law_1378 (by decide) ?_
    exact absurd q (by simp)
set_option maxHeartbeats 4000000 in
set_option maxRecDepth 100000 in
theorem w_L_law_1304 {N b L : Nat} {xs : Nat → Int32} (C0 : lw_At p s m meth c b L xs) (hX : Kx D cA lo tS s) (hlo : lo = s.heap.size) {S0 S1 : Hs} {g1 : Hg} {cT wT : Nat} (hRc : cT ≤ room_1.cells) (hRs : wT ≤ room_1.slots) {k18 : Hs → Hg → Nat → Nat → Int32 → Option (Int32 × Hs × Hg × Nat × Nat)} (hk18 : ∀ (H : Heap) (locs : List Loc) (ls : Array Slot) (cells slots k w : Nat) (S : Hs) (g : Hg) (a1 : Nat) (a2 : Nat) (x3 : Int32), Mm D cA lo S g s H locs → Ext lo S0 S → Rf lo S a1 11 → Rf lo S a2 12 → lv_has ls 4 [(0, .ref b), (1, .ref a1), (2, .ref a2), (3, .int x3)] → k18 S g a1 a2 x3 = some ((1 : Int32), S1, g1, k, w) → cells + k = cT → slots + w = wT → W p l e room_1 s m #[Value.ref b] below meth c H locs cells slots (lw_Z below #[Value.ref b] s) (F0 m 18 ls [])) : ∀ (H : Heap) (locs : List Loc) (ls : Array Slot) (cells slots k w : Nat) (S : Hs) (g : Hg) (a1 : Nat) (a2 : Nat) (x3 : Int32), Mm D cA lo S g s H locs → Ext lo S0 S → Rf lo S a1 11 → Rf lo S a2 12 → lv_has ls 4 [(0, .ref b), (1, .ref a1), (2, .ref a2), (3, .int x3)] → b_L_law_1304 N L xs k18 S g a1 a2 x3 = some ((1 : Int32), S1, g1, k, w) → cells + k = cT → slots + w = wT → W p l e room_1 s m #[Value.ref b] below meth c H locs cells slots (lw_Z below #[Value.ref b] s) (F0 m 1304 ls []) := by
  obtain ⟨hx, hb, hr, hml, hown, hts, hXs, hbl, hlk, hgv⟩ := id C0
  have hbA : ¬ (fun q : Nat => lo ≤ q) b := by show ¬ lo ≤ b; omega
  intro H locs ls cells slots k w S g a1 a2 x3 M hE ra1 ra2 hl q hc hs
  unfold b_L_law_1304 at q
  refine lv_aload_n hx hb dL_law_1304 rfl (lv_at hl 1 rfl) ?_
  refine lv_aload_n hx hb dL_law_1305 rfl (lv_at hl 0 rfl) ?_
  refine lv_iload_n hx hb dL_law_1306 rfl (lv_at hl 3 rfl) ?_
  refine lv_iconst (v := 1) hx hb dL_law_1307 (by decide) ?_
  refine lv_iadd hx hb dL_law_1308 ?_
  replace q := ck_s q
  obtain ⟨hin, q⟩ := q
  refine va_sld hx hb hXs hbl hbA M.2.2 (inb_in hin) dL_law_1309 ?_
  refine lv_aload_n hx hb dL_law_1310 rfl (lv_at hl 0 rfl) ?_
  refine lv_iload_n hx hb dL_law_1311 rfl (lv_at hl 3 rfl) ?_
  refine lv_iconst (v := 2) hx hb dL_law_1312 (by decide) ?_
  refine lv_iadd hx hb dL_law_1313 ?_
  replace q := ck_s q
  obtain ⟨hin, q⟩ := q
  refine va_sld hx hb hXs hbl hbA M.2.2 (inb_in hin) dL_law_1314 ?_
  refine lv_aload_n hx hb dL_law_1315 rfl (lv_at hl 0 rfl) ?_
  refine lv_iload_n hx hb dL_law_1316 rfl (lv_at hl 3 rfl) ?_
  refine lv_iconst (v := 3) hx hb dL_law_1317 (by decide) ?_
  refine lv_iadd hx hb dL_law_1318 ?_
  replace q := ck_s q
  obtain ⟨hin, q⟩ := q
  refine va_sld hx hb hXs hbl hbA M.2.2 (inb_in hin) dL_law_1319 ?_
  refine lv_aload_n hx hb dL_law_1320 rfl (lv_at hl 0 rfl) ?_
  refine lv_iload_n hx hb dL_law_1321 rfl (lv_at hl 3 rfl) ?_
  refine lv_iconst (v := 4) hx hb dL_law_1322 (by decide) ?_
  refine lv_iadd hx hb dL_law_1323 ?_
  replace q := ck_s q
  obtain ⟨hin, q⟩ := q
  refine va_sld hx hb hXs hbl hbA M.2.2 (inb_in hin) dL_law_1324 ?_
  replace q := c2_s q
  obtain ⟨x_2, g_1, qc, q⟩ := q
  refine x_callV hx hb hml hl.1 hown hX M (S1 := S) (As := [.int (xs (x3 + (1 : Int32)).toNatClampNeg), .int (xs (x3 + (2 : Int32)).toNatClampNeg), .int (xs (x3 + (3 : Int32)).toNatClampNeg), .int (xs (x3 + (4 : Int32)).toNatClampNeg)]) (rest := []) okX11 ra1 rfl kw_923 kw_924 mok_X11_watcher (c_X11_watcher ra1 qc (Nat.le_refl 3)) kw_922 rfl rfl dL_law_1325 (Nat.le_of_ble_eq_true rfl) ⟨by decide, by decide⟩ (hz_step hc hRc) (hz_step hs hRs) (fun H locs M hEF => ?_)
  refine lv_aload_n hx hb dL_law_1328 rfl (lv_at hl 2 rfl) ?_
  refine lv_aload_n hx hb dL_law_1329 rfl (lv_at hl 0 rfl) ?_
  refine lv_iload_n hx hb dL_law_1330 rfl (lv_at hl 3 rfl) ?_
  refine lv_iconst (v := 1) hx hb dL_law_1331 (by decide) ?_
  refine lv_iadd hx hb dL_law_1332 ?_
  replace q := ck_s q
  obtain ⟨hin, q⟩ := q
  refine va_sld hx hb hXs hbl hbA M.2.2 (inb_in hin) dL_law_1333 ?_
  refine lv_aload_n hx hb dL_law_1334 rfl (lv_at hl 0 rfl) ?_
  refine lv_iload_n hx hb dL_law_1335 rfl (lv_at hl 3 rfl) ?_
  refine lv_iconst (v := 2) hx hb dL_law_1336 (by decide) ?_
  refine lv_iadd hx hb dL_law_1337 ?_
  replace q := ck_s q
  obtain ⟨hin, q⟩ := q
  refine va_sld hx hb hXs hbl hbA M.2.2 (inb_in hin) dL_law_1338 ?_
  refine lv_aload_n hx hb dL_law_1339 rfl (lv_at hl 0 rfl) ?_
  refine lv_iload_n hx hb dL_law_1340 rfl (lv_at hl 3 rfl) ?_
  refine lv_iconst (v := 3) hx hb dL_law_1341 (by decide) ?_
  refine lv_iadd hx hb dL_law_1342 ?_
  replace q := ck_s q
  obtain ⟨hin, q⟩ := q
  refine va_sld hx hb hXs hbl hbA M.2.2 (inb_in hin) dL_law_1343 ?_
  refine lv_aload_n hx hb dL_law_1344 rfl (lv_at hl 0 rfl) ?_
  refine lv_iload_n hx hb dL_law_1345 rfl (lv_at hl 3 rfl) ?_
  refine lv_iconst (v := 4) hx hb dL_law_1346 (by decide) ?_
  refine lv_iadd hx hb dL_law_1347 ?_
  replace q := ck_s q
  obtain ⟨hin, q⟩ := q
  refine va_sld hx hb hXs hbl hbA M.2.2 (inb_in hin) dL_law_1348 ?_
  replace q := c2_s q
  obtain ⟨x_4, g_3, qc, q⟩ := q
  refine x_callV hx hb hml hl.1 hown hX M (S1 := S) (As := [.int (xs (x3 + (1 : Int32)).toNatClampNeg), .int (xs (x3 + (2 : Int32)).toNatClampNeg), .int (xs (x3 + (3 : Int32)).toNatClampNeg), .int (xs (x3 + (4 : Int32)).toNatClampNeg)]) (rest := [.int x_2]) okX12 ra2 rfl kw_1478 kw_1479 mok_X12_watcher (c_X12_watcher ra2 qc (Nat.le_refl 2)) kw_1477 rfl rfl dL_law_1349 (Nat.le_of_ble_eq_true rfl) ⟨by decide, by decide⟩ (hz_step hc hRc) (hz_step hs hRs) (fun H locs M hEF => ?_)
  refine lv_icmp_eq (tgt := 1462) hx hb dL_law_1352 (by decide) (fun c_5 => ?_) (fun c_5 => ?_)
  · replace q := if_t c_5 q
    exact w_L_law_1462 (N := N) C0 hX hlo hRc hRs hk18 _ _ _ _ _ _ _ _ _ _ _ _ M hE ra1 ra2 (lv_sub hl [0, 1, 2, 3] rfl) q hc hs
  · replace q := if_f c_5 q
    refine lv_iconst (v := 0) hx hb dL_law_1355 (by decide) ?_
    exact absurd q (by simp)
set_option maxHeartbeats 4000000 in
set_option maxRecDepth 100000 in
theorem w_L_law_1261 {N b L : Nat} {xs : Nat → Int32} (C0 : lw_At p s m meth c b L xs) (hX : Kx D cA lo tS s) (hlo : lo = s.heap.size) {S0 S1 : Hs} {g1 : Hg} {cT wT : Nat} (hRc : cT ≤ room_1.cells) (hRs : wT ≤ room_1.slots) {k18 : Hs → Hg → Nat → Nat → Int32 → Option (Int32 × Hs × Hg × Nat × Nat)} (hk18 : ∀ (H : Heap) (locs : List Loc) (ls : Array Slot) (cells slots k w : Nat) (S : Hs) (g : Hg) (a1 : Nat) (a2 : Nat) (x3 : Int32), Mm D cA lo S g s H locs → Ext lo S0 S → Rf lo S a1 11 → Rf lo S a2 12 → lv_has ls 4 [(0, .ref b), (1, .ref a1), (2, .ref a2), (3, .int x3)] → k18 S g a1 a2 x3 = some ((1 : Int32), S1, g1, k, w) → cells + k = cT → slots + w = wT → W p l e room_1 s m #[Value.ref b] below meth c H locs cells slots (lw_Z below #[Value.ref b] s) (F0 m 18 ls [])) : ∀ (H : Heap) (locs : List Loc) (ls : Array Slot) (cells slots k w : Nat) (S : Hs) (g : Hg) (a1 : Nat) (a2 : Nat) (x3 : Int32), Mm D cA lo S g s H locs → Ext lo S0 S → Rf lo S a1 11 → Rf lo S a2 12 → lv_has ls 4 [(0, .ref b), (1, .ref a1), (2, .ref a2), (3, .int x3)] → b_L_law_1261 N L xs k18 S g a1 a2 x3 = some ((1 : Int32), S1, g1, k, w) → cells + k = cT → slots + w = wT → W p l e room_1 s m #[Value.ref b] below meth c H locs cells slots (lw_Z below #[Value.ref b] s) (F0 m 1261 ls []) := by
  obtain ⟨hx, hb, hr, hml, hown, hts, hXs, hbl, hlk, hgv⟩ := id C0
  have hbA : ¬ (fun q : Nat => lo ≤ q) b := by show ¬ lo ≤ b; omega
  intro H locs ls cells slots k w S g a1 a2 x3 M hE ra1 ra2 hl q hc hs
  unfold b_L_law_1261 at q
  refine lv_aload_n hx hb dL_law_1261 rfl (lv_at hl 1 rfl) ?_
  refine lv_aload_n hx hb dL_law_1262 rfl (lv_at hl 0 rfl) ?_
  refine lv_iload_n hx hb dL_law_1263 rfl (lv_at hl 3 rfl) ?_
  refine lv_iconst (v := 1) hx hb dL_law_1264 (by decide) ?_
  refine lv_iadd hx hb dL_law_1265 ?_
  replace q := ck_s q
  obtain ⟨hin, q⟩ := q
  refine va_sld hx hb hXs hbl hbA M.2.2 (inb_in hin) dL_law_1266 ?_
  refine lv_aload_n hx hb dL_law_1267 rfl (lv_at hl 0 rfl) ?_
  refine lv_iload_n hx hb dL_law_1268 rfl (lv_at hl 3 rfl) ?_
  refine lv_iconst (v := 2) hx hb dL_law_1269 (by decide) ?_
  refine lv_iadd hx hb dL_law_1270 ?_
  replace q := ck_s q
  obtain ⟨hin, q⟩ := q
  refine va_sld hx hb hXs hbl hbA M.2.2 (inb_in hin) dL_law_1271 ?_
  refine lv_aload_n hx hb dL_law_1272 rfl (lv_at hl 0 rfl) ?_
  refine lv_iload_n hx hb dL_law_1273 rfl (lv_at hl 3 rfl) ?_
  refine lv_iconst (v := 3) hx hb dL_law_1274 (by decide) ?_
  refine lv_iadd hx hb dL_law_1275 ?_
  replace q := ck_s q
  obtain ⟨hin, q⟩ := q
  refine va_sld hx hb hXs hbl hbA M.2.2 (inb_in hin) dL_law_1276 ?_
  replace q := c2_s q
  obtain ⟨x_2, g_1, qc, q⟩ := q
  refine x_callV hx hb hml hl.1 hown hX M (S1 := S) (As := [.int (xs (x3 + (1 : Int32)).toNatClampNeg), .int (xs (x3 + (2 : Int32)).toNatClampNeg), .int (xs (x3 + (3 : Int32)).toNatClampNeg)]) (rest := []) okX11 ra1 rfl kw_919 kw_920 mok_X11_smear (c_X11_smear ra1 qc (Nat.le_refl 2)) kw_918 rfl rfl dL_law_1277 (Nat.le_of_ble_eq_true rfl) ⟨by decide, by decide⟩ (hz_step hc hRc) (hz_step hs hRs) (fun H locs M hEF => ?_)
  refine lv_aload_n hx hb dL_law_1280 rfl (lv_at hl 2 rfl) ?_
  refine lv_aload_n hx hb dL_law_1281 rfl (lv_at hl 0 rfl) ?_
  refine lv_iload_n hx hb dL_law_1282 rfl (lv_at hl 3 rfl) ?_
  refine lv_iconst (v := 1) hx hb dL_law_1283 (by decide) ?_
  refine lv_iadd hx hb dL_law_1284 ?_
  replace q := ck_s q
  obtain ⟨hin, q⟩ := q
  refine va_sld hx hb hXs hbl hbA M.2.2 (inb_in hin) dL_law_1285 ?_
  refine lv_aload_n hx hb dL_law_1286 rfl (lv_at hl 0 rfl) ?_
  refine lv_iload_n hx hb dL_law_1287 rfl (lv_at hl 3 rfl) ?_
  refine lv_iconst (v := 2) hx hb dL_law_1288 (by decide) ?_
  refine lv_iadd hx hb dL_law_1289 ?_
  replace q := ck_s q
  obtain ⟨hin, q⟩ := q
  refine va_sld hx hb hXs hbl hbA M.2.2 (inb_in hin) dL_law_1290 ?_
  refine lv_aload_n hx hb dL_law_1291 rfl (lv_at hl 0 rfl) ?_
  refine lv_iload_n hx hb dL_law_1292 rfl (lv_at hl 3 rfl) ?_
  refine lv_iconst (v := 3) hx hb dL_law_1293 (by decide) ?_
  refine lv_iadd hx hb dL_law_1294 ?_
  replace q := ck_s q
  obtain ⟨hin, q⟩ := q
  refine va_sld hx hb hXs hbl hbA M.2.2 (inb_in hin) dL_law_1295 ?_
  replace q := c2_s q
  obtain ⟨x_4, g_3, qc, q⟩ := q
  refine x_callV hx hb hml hl.1 hown hX M (S1 := S) (As := [.int (xs (x3 + (1 : Int32)).toNatClampNeg), .int (xs (x3 + (2 : Int32)).toNatClampNeg), .int (xs (x3 + (3 : Int32)).toNatClampNeg)]) (rest := [.int x_2]) okX12 ra2 rfl kw_1474 kw_1475 mok_X12_smear (c_X12_smear ra2 qc (Nat.le_refl 1)) kw_1473 rfl rfl dL_law_1296 (Nat.le_of_ble_eq_true rfl) ⟨by decide, by decide⟩ (hz_step hc hRc) (hz_step hs hRs) (fun H locs M hEF => ?_)
  refine lv_icmp_eq (tgt := 1462) hx hb dL_law_1299 (by decide) (fun c_5 => ?_) (fun c_5 => ?_)
  · replace q := if_t c_5 q
    exact w_L_law_1462 (N := N) C0 hX hlo hRc hRs hk18 _ _ _ _ _ _ _ _ _ _ _ _ M hE ra1 ra2 (lv_sub hl [0, 1, 2, 3] rfl) q hc hs
  · replace q := if_f c_5 q
    refine lv_iconst (v := 0) hx hb dL_law_1302 (by decide) ?_
    exact absurd q (by simp)
set_option maxHeartbeats 4000000 in
set_option maxRecDepth 100000 in
theorem w_L_law_1228 {N b L : Nat} {xs : Nat → Int32} (C0 : lw_At p s m meth c b L xs) (hX : Kx D cA lo tS s) (hlo : lo = s.heap.size) {S0 S1 : Hs} {g1 : Hg} {cT wT : Nat} (hRc : cT ≤ room_1.cells) (hRs : wT ≤ room_1.slots) {k18 : Hs → Hg → Nat → Nat → Int32 → Option (Int32 × Hs × Hg × Nat × Nat)} (hk18 : ∀ (H : Heap) (locs : List Loc) (ls : Array Slot) (cells slots k w : Nat) (S : Hs) (g : Hg) (a1 : Nat) (a2 : Nat) (x3 : Int32), Mm D cA lo S g s H locs → Ext lo S0 S → Rf lo S a1 11 → Rf lo S a2 12 → lv_has ls 4 [(0, .ref b), (1, .ref a1), (2, .ref a2), (3, .int x3)] → k18 S g a1 a2 x3 = some ((1 : Int32), S1, g1, k, w) → cells + k = cT → slots + w = wT → W p l e room_1 s m #[Value.ref b] below meth c H locs cells slots (lw_Z below #[Value.ref b] s) (F0 m 18 ls [])) : ∀ (H : Heap) (locs : List Loc) (ls : Array Slot) (cells slots k w : Nat) (S : Hs) (g : Hg) (a1 : Nat) (a2 : Nat) (x3 : Int32), Mm D cA lo S g s H locs → Ext lo S0 S → Rf lo S a1 11 → Rf lo S a2 12 → lv_has ls 4 [(0, .ref b), (1, .ref a1), (2, .ref a2), (3, .int x3)] → b_L_law_1228 N L xs k18 S g a1 a2 x3 = some ((1 : Int32), S1, g1, k, w) → cells + k = cT → slots + w = wT → W p l e room_1 s m #[Value.ref b] below meth c H locs cells slots (lw_Z below #[Value.ref b] s) (F0 m 1228 ls []) := by
  obtain ⟨hx, hb, hr, hml, hown, hts, hXs, hbl, hlk, hgv⟩ := id C0
  have hbA : ¬ (fun q : Nat => lo ≤ q) b := by show ¬ lo ≤ b; omega
  intro H locs ls cells slots k w S g a1 a2 x3 M hE ra1 ra2 hl q hc hs
  unfold b_L_law_1228 at q
  refine lv_aload_n hx hb dL_law_1228 rfl (lv_at hl 1 rfl) ?_
  refine lv_aload_n hx hb dL_law_1229 rfl (lv_at hl 0 rfl) ?_
  refine lv_iload_n hx hb dL_law_1230 rfl (lv_at hl 3 rfl) ?_
  refine lv_iconst (v := 1) hx hb dL_law_1231 (by decide) ?_
  refine lv_iadd hx hb dL_law_1232 ?_
  replace q := ck_s q
  obtain ⟨hin, q⟩ := q
  refine va_sld hx hb hXs hbl hbA M.2.2 (inb_in hin) dL_law_1233 ?_
  refine lv_aload_n hx hb dL_law_1234 rfl (lv_at hl 0 rfl) ?_
  refine lv_iload_n hx hb dL_law_1235 rfl (lv_at hl 3 rfl) ?_
  refine lv_iconst (v := 2) hx hb dL_law_1236 (by decide) ?_
  refine lv_iadd hx hb dL_law_1237 ?_
  replace q := ck_s q
  obtain ⟨hin, q⟩ := q
  refine va_sld hx hb hXs hbl hbA M.2.2 (inb_in hin) dL_law_1238 ?_
  replace q := c2_s q
  obtain ⟨x_2, g_1, qc, q⟩ := q
  refine x_callV hx hb hml hl.1 hown hX M (S1 := S) (As := [.int (xs (x3 + (1 : Int32)).toNatClampNeg), .int (xs (x3 + (2 : Int32)).toNatClampNeg)]) (rest := []) okX11 ra1 rfl kw_903 kw_904 mok_X11_blame (c_X11_blame ra1 qc (Nat.le_refl 5)) kw_902 rfl rfl dL_law_1239 (Nat.le_of_ble_eq_true rfl) ⟨by decide, by decide⟩ (hz_step hc hRc) (hz_step hs hRs) (fun H locs M hEF => ?_)
  refine lv_aload_n hx hb dL_law_1242 rfl (lv_at hl 2 rfl) ?_
  refine lv_aload_n hx hb dL_law_1243 rfl (lv_at hl 0 rfl) ?_
  refine lv_iload_n hx hb dL_law_1244 rfl (lv_at hl 3 rfl) ?_
  refine lv_iconst (v := 1) hx hb dL_law_1245 (by decide) ?_
  refine lv_iadd hx hb dL_law_1246 ?_
  replace q := ck_s q
  obtain ⟨hin, q⟩ := q
  refine va_sld hx hb hXs hbl hbA M.2.2 (inb_in hin) dL_law_1247 ?_
  refine lv_aload_n hx hb dL_law_1248 rfl (lv_at hl 0 rfl) ?_
  refine lv_iload_n hx hb dL_law_1249 rfl (lv_at hl 3 rfl) ?_
  refine lv_iconst (v := 2) hx hb dL_law_1250 (by decide) ?_
  refine lv_iadd hx hb dL_law_1251 ?_
  replace q := ck_s q
  obtain ⟨hin, q⟩ := q
  refine va_sld hx hb hXs hbl hbA M.2.2 (inb_in hin) dL_law_1252 ?_
  replace q := c2_s q
  obtain ⟨x_4, g_3, qc, q⟩ := q
  refine x_callV hx hb hml hl.1 hown hX M (S1 := S) (As := [.int (xs (x3 + (1 : Int32)).toNatClampNeg), .int (xs (x3 + (2 : Int32)).toNatClampNeg)]) (rest := [.int x_2]) okX12 ra2 rfl kw_1466 kw_1467 mok_X12_blame_ (c_X12_blame_ ra2 qc (Nat.le_refl 5)) kw_1465 rfl rfl dL_law_1253 (Nat.le_of_ble_eq_true rfl) ⟨by decide, by decide⟩ (hz_step hc hRc) (hz_step hs hRs) (fun H locs M hEF => ?_)
  refine lv_icmp_eq (tgt := 1462) hx hb dL_law_1256 (by decide) (fun c_5 => ?_) (fun c_5 => ?_)
  · replace q := if_t c_5 q
    exact w_L_law_1462 (N := N) C0 hX hlo hRc hRs hk18 _ _ _ _ _ _ _ _ _ _ _ _ M hE ra1 ra2 (lv_sub hl [0, 1, 2, 3] rfl) q hc hs
  · replace q := if_f c_5 q
    refine lv_iconst (v := 0) hx hb dL_law_1259 (by decide) ?_
    exact absurd q (by simp)
set_option maxHeartbeats 4000000 in
set_option maxRecDepth 100000 in
theorem w_L_law_1195 {N b L : Nat} {xs : Nat → Int32} (C0 : lw_At p s m meth c b L xs) (hX : Kx D cA lo tS s) (hlo : lo = s.heap.size) {S0 S1 : Hs} {g1 : Hg} {cT wT : Nat} (hRc : cT ≤ room_1.cells) (hRs : wT ≤ room_1.slots) {k18 : Hs → Hg → Nat → Nat → Int32 → Option (Int32 × Hs × Hg × Nat × Nat)} (hk18 : ∀ (H : Heap) (locs : List Loc) (ls : Array Slot) (cells slots k w : Nat) (S : Hs) (g : Hg) (a1 : Nat) (a2 : Nat) (x3 : Int32), Mm D cA lo S g s H locs → Ext lo S0 S → Rf lo S a1 11 → Rf lo S a2 12 → lv_has ls 4 [(0, .ref b), (1, .ref a1), (2, .ref a2), (3, .int x3)] → k18 S g a1 a2 x3 = some ((1 : Int32), S1, g1, k, w) → cells + k = cT → slots + w = wT → W p l e room_1 s m #[Value.ref b] below meth c H locs cells slots (lw_Z below #[Value.ref b] s) (F0 m 18 ls [])) : ∀ (H : Heap) (locs : List Loc) (ls : Array Slot) (cells slots k w : Nat) (S : Hs) (g : Hg) (a1 : Nat) (a2 : Nat) (x3 : Int32), Mm D cA lo S g s H locs → Ext lo S0 S → Rf lo S a1 11 → Rf lo S a2 12 → lv_has ls 4 [(0, .ref b), (1, .ref a1), (2, .ref a2), (3, .int x3)] → b_L_law_1195 N L xs k18 S g a1 a2 x3 = some ((1 : Int32), S1, g1, k, w) → cells + k = cT → slots + w = wT → W p l e room_1 s m #[Value.ref b] below meth c H locs cells slots (lw_Z below #[Value.ref b] s) (F0 m 1195 ls []) := by
  obtain ⟨hx, hb, hr, hml, hown, hts, hXs, hbl, hlk, hgv⟩ := id C0
  have hbA : ¬ (fun q : Nat => lo ≤ q) b := by show ¬ lo ≤ b; omega
  intro H locs ls cells slots k w S g a1 a2 x3 M hE ra1 ra2 hl q hc hs
  unfold b_L_law_1195 at q
  refine lv_aload_n hx hb dL_law_1195 rfl (lv_at hl 1 rfl) ?_
  refine lv_aload_n hx hb dL_law_1196 rfl (lv_at hl 0 rfl) ?_
  refine lv_iload_n hx hb dL_law_1197 rfl (lv_at hl 3 rfl) ?_
  refine lv_iconst (v := 1) hx hb dL_law_1198 (by decide) ?_
  refine lv_iadd hx hb dL_law_1199 ?_
  replace q := ck_s q
  obtain ⟨hin, q⟩ := q
  refine va_sld hx hb hXs hbl hbA M.2.2 (inb_in hin) dL_law_1200 ?_
  refine lv_aload_n hx hb dL_law_1201 rfl (lv_at hl 0 rfl) ?_
  refine lv_iload_n hx hb dL_law_1202 rfl (lv_at hl 3 rfl) ?_
  refine lv_iconst (v := 2) hx hb dL_law_1203 (by decide) ?_
  refine lv_iadd hx hb dL_law_1204 ?_
  replace q := ck_s q
  obtain ⟨hin, q⟩ := q
  refine va_sld hx hb hXs hbl hbA M.2.2 (inb_in hin) dL_law_1205 ?_
  replace q := c2_s q
  obtain ⟨x_2, g_1, qc, q⟩ := q
  refine x_callV hx hb hml hl.1 hown hX M (S1 := S) (As := [.int (xs (x3 + (1 : Int32)).toNatClampNeg), .int (xs (x3 + (2 : Int32)).toNatClampNeg)]) (rest := []) okX11 ra1 rfl kw_899 kw_900 mok_X11_reader (c_X11_reader ra1 qc (Nat.le_refl 2)) kw_898 rfl rfl dL_law_1206 (Nat.le_of_ble_eq_true rfl) ⟨by decide, by decide⟩ (hz_step hc hRc) (hz_step hs hRs) (fun H locs M hEF => ?_)
  refine lv_aload_n hx hb dL_law_1209 rfl (lv_at hl 2 rfl) ?_
  refine lv_aload_n hx hb dL_law_1210 rfl (lv_at hl 0 rfl) ?_
  refine lv_iload_n hx hb dL_law_1211 rfl (lv_at hl 3 rfl) ?_
  refine lv_iconst (v := 1) hx hb dL_law_1212 (by decide) ?_
  refine lv_iadd hx hb dL_law_1213 ?_
  replace q := ck_s q
  obtain ⟨hin, q⟩ := q
  refine va_sld hx hb hXs hbl hbA M.2.2 (inb_in hin) dL_law_1214 ?_
  refine lv_aload_n hx hb dL_law_1215 rfl (lv_at hl 0 rfl) ?_
  refine lv_iload_n hx hb dL_law_1216 rfl (lv_at hl 3 rfl) ?_
  refine lv_iconst (v := 2) hx hb dL_law_1217 (by decide) ?_
  refine lv_iadd hx hb dL_law_1218 ?_
  replace q := ck_s q
  obtain ⟨hin, q⟩ := q
  refine va_sld hx hb hXs hbl hbA M.2.2 (inb_in hin) dL_law_1219 ?_
  replace q := c2_s q
  obtain ⟨x_4, g_3, qc, q⟩ := q
  refine x_callV hx hb hml hl.1 hown hX M (S1 := S) (As := [.int (xs (x3 + (1 : Int32)).toNatClampNeg), .int (xs (x3 + (2 : Int32)).toNatClampNeg)]) (rest := [.int x_2]) okX12 ra2 rfl kw_1462 kw_1463 mok_X12_reader (c_X12_reader ra2 qc (Nat.le_refl 2)) kw_1461 rfl rfl dL_law_1220 (Nat.le_of_ble_eq_true rfl) ⟨by decide, by decide⟩ (hz_step hc hRc) (hz_step hs hRs) (fun H locs M hEF => ?_)
  refine lv_icmp_eq (tgt := 1462) hx hb dL_law_1223 (by decide) (fun c_5 => ?_) (fun c_5 => ?_)
  · replace q := if_t c_5 q
    exact w_L_law_1462 (N := N) C0 hX hlo hRc hRs hk18 _ _ _ _ _ _ _ _ _ _ _ _ M hE ra1 ra2 (lv_sub hl [0, 1, 2, 3] rfl) q hc hs
  · replace q := if_f c_5 q
    refine lv_iconst (v := 0) hx hb dL_law_1226 (by decide) ?_
    exact absurd q (by simp)
set_option maxHeartbeats 4000000 in
set_option maxRecDepth 100000 in
theorem w_L_law_1162 {N b L : Nat} {xs : Nat → Int32} (C0 : lw_At p s m meth c b L xs) (hX : Kx D cA lo tS s) (hlo : lo = s.heap.size) {S0 S1 : Hs} {g1 : Hg} {cT wT : Nat} (hRc : cT ≤ room_1.cells) (hRs : wT ≤ room_1.slots) {k18 : Hs → Hg → Nat → Nat → Int32 → Option (Int32 × Hs × Hg × Nat × Nat)} (hk18 : ∀ (H : Heap) (locs : List Loc) (ls : Array Slot) (cells slots k w : Nat) (S : Hs) (g : Hg) (a1 : Nat) (a2 : Nat) (x3 : Int32), Mm D cA lo S g s H locs → Ext lo S0 S → Rf lo S a1 11 → Rf lo S a2 12 → lv_has ls 4 [(0, .ref b), (1, .ref a1), (2, .ref a2), (3, .int x3)] → k18 S g a1 a2 x3 = some ((1 : Int32), S1, g1, k, w) → cells + k = cT → slots + w = wT → W p l e room_1 s m #[Value.ref b] below meth c H locs cells slots (lw_Z below #[Value.ref b] s) (F0 m 18 ls [])) : ∀ (H : Heap) (locs : List Loc) (ls : Array Slot) (cells slots k w : Nat) (S : Hs) (g : Hg) (a1 : Nat) (a2 : Nat) (x3 : Int32), Mm D cA lo S g s H locs → Ext lo S0 S → Rf lo S a1 11 → Rf lo S a2 12 → lv_has ls 4 [(0, .ref b), (1, .ref a1), (2, .ref a2), (3, .int x3)] → b_L_law_1162 N L xs k18 S g a1 a2 x3 = some ((1 : Int32), S1, g1, k, w) → cells + k = cT → slots + w = wT → W p l e room_1 s m #[Value.ref b] below meth c H locs cells slots (lw_Z below #[Value.ref b] s) (F0 m 1162 ls []) := by
  obtain ⟨hx, hb, hr, hml, hown, hts, hXs, hbl, hlk, hgv⟩ := id C0
  have hbA : ¬ (fun q : Nat => lo ≤ q) b := by show ¬ lo ≤ b; omega
  intro H locs ls cells slots k w S g a1 a2 x3 M hE ra1 ra2 hl q hc hs
  unfold b_L_law_1162 at q
  refine lv_aload_n hx hb dL_law_1162 rfl (lv_at hl 1 rfl) ?_
  refine lv_aload_n hx hb dL_law_1163 rfl (lv_at hl 0 rfl) ?_
  refine lv_iload_n hx hb dL_law_1164 rfl (lv_at hl 3 rfl) ?_
  refine lv_iconst (v := 1) hx hb dL_law_1165 (by decide) ?_
  refine lv_iadd hx hb dL_law_1166 ?_
  replace q := ck_s q
  obtain ⟨hin, q⟩ := q
  refine va_sld hx hb hXs hbl hbA M.2.2 (inb_in hin) dL_law_1167 ?_
  refine lv_aload_n hx hb dL_law_1168 rfl (lv_at hl 0 rfl) ?_
  refine lv_iload_n hx hb dL_law_1169 rfl (lv_at hl 3 rfl) ?_
  refine lv_iconst (v := 2) hx hb dL_law_1170 (by decide) ?_
  refine lv_iadd hx hb dL_law_1171 ?_
  replace q := ck_s q
  obtain ⟨hin, q⟩ := q
  refine va_sld hx hb hXs hbl hbA M.2.2 (inb_in hin) dL_law_1172 ?_
  replace q := c5_s q
  obtain ⟨x_2, S_3, g_1, k_4, w_5, k_6, w_7, qc, ek, ew, q⟩ := q
  refine x_callV hx hb hml hl.1 hown hX M (As := [.int (xs (x3 + (1 : Int32)).toNatClampNeg), .int (xs (x3 + (2 : Int32)).toNatClampNeg)]) (rest := []) okX11 ra1 rfl kw_895 kw_896 mok_X11_talk (c_X11_talk ra1 qc (Nat.le_refl 8)) kw_894 rfl rfl dL_law_1173 (Nat.le_of_ble_eq_true rfl) ⟨by decide, by decide⟩ (hb_step hc ek hRc) (hb_step hs ew hRs) (fun H locs M hEF => ?_)
  replace ra1 := ra1.ext hEF.1
  replace ra2 := ra2.ext hEF.1
  replace hE := hE.tr hEF.1
  replace hc := hc_step hc ek
  replace hs := hc_step hs ew
  clear ek ew
  refine lv_aload_n hx hb dL_law_1176 rfl (lv_at hl 2 rfl) ?_
  refine lv_aload_n hx hb dL_law_1177 rfl (lv_at hl 0 rfl) ?_
  refine lv_iload_n hx hb dL_law_1178 rfl (lv_at hl 3 rfl) ?_
  refine lv_iconst (v := 1) hx hb dL_law_1179 (by decide) ?_
  refine lv_iadd hx hb dL_law_1180 ?_
  replace q := ck_s q
  obtain ⟨hin, q⟩ := q
  refine va_sld hx hb hXs hbl hbA M.2.2 (inb_in hin) dL_law_1181 ?_
  refine lv_aload_n hx hb dL_law_1182 rfl (lv_at hl 0 rfl) ?_
  refine lv_iload_n hx hb dL_law_1183 rfl (lv_at hl 3 rfl) ?_
  refine lv_iconst (v := 2) hx hb dL_law_1184 (by decide) ?_
  refine lv_iadd hx hb dL_law_1185 ?_
  replace q := ck_s q
  obtain ⟨hin, q⟩ := q
  refine va_sld hx hb hXs hbl hbA M.2.2 (inb_in hin) dL_law_1186 ?_
  replace q := c2_s q
  obtain ⟨x_9, g_8, qc, q⟩ := q
  refine x_callV hx hb hml hl.1 hown hX M (S1 := S_3) (As := [.int (xs (x3 + (1 : Int32)).toNatClampNeg), .int (xs (x3 + (2 : Int32)).toNatClampNeg)]) (rest := [.int x_2]) okX12 ra2 rfl kw_1458 kw_1459 mok_X12_talk (c_X12_talk ra2 qc (Nat.le_refl 307)) kw_1457 rfl rfl dL_law_1187 (Nat.le_of_ble_eq_true rfl) ⟨by decide, by decide⟩ (hz_step hc hRc) (hz_step hs hRs) (fun H locs M hEF => ?_)
  refine lv_icmp_eq (tgt := 1462) hx hb dL_law_1190 (by decide) (fun c_10 => ?_) (fun c_10 => ?_)
  · replace q := if_t c_10 q
    exact w_L_law_1462 (N := N) C0 hX hlo hRc hRs hk18 _ _ _ _ _ _ _ _ _ _ _ _ M hE ra1 ra2 (lv_sub hl [0, 1, 2, 3] rfl) q hc hs
  · replace q := if_f c_10 q
    refine lv_iconst (v := 0) hx hb dL_law_1193 (by decide) ?_
    exact absurd q (by simp)
set_option maxHeartbeats 4000000 in
set_option maxRecDepth 100000 in
theorem w_L_law_1119 {N b L : Nat} {xs : Nat → Int32} (C0 : lw_At p s m meth c b L xs) (hX : Kx D cA lo tS s) (hlo : lo = s.heap.size) {S0 S1 : Hs} {g1 : Hg} {cT wT : Nat} (hRc : cT ≤ room_1.cells) (hRs : wT ≤ room_1.slots) {k18 : Hs → Hg → Nat → Nat → Int32 → Option (Int32 × Hs × Hg × Nat × Nat)} (hk18 : ∀ (H : Heap) (locs : List Loc) (ls : Array Slot) (cells slots k w : Nat) (S : Hs) (g : Hg) (a1 : Nat) (a2 : Nat) (x3 : Int32), Mm D cA lo S g s H locs → Ext lo S0 S → Rf lo S a1 11 → Rf lo S a2 12 → lv_has ls 4 [(0, .ref b), (1, .ref a1), (2, .ref a2), (3, .int x3)] → k18 S g a1 a2 x3 = some ((1 : Int32), S1, g1, k, w) → cells + k = cT → slots + w = wT → W p l e room_1 s m #[Value.ref b] below meth c H locs cells slots (lw_Z below #[Value.ref b] s) (F0 m 18 ls [])) : ∀ (H : Heap) (locs : List Loc) (ls : Array Slot) (cells slots k w : Nat) (S : Hs) (g : Hg) (a1 : Nat) (a2 : Nat) (x3 : Int32), Mm D cA lo S g s H locs → Ext lo S0 S → Rf lo S a1 11 → Rf lo S a2 12 → lv_has ls 4 [(0, .ref b), (1, .ref a1), (2, .ref a2), (3, .int x3)] → b_L_law_1119 N L xs k18 S g a1 a2 x3 = some ((1 : Int32), S1, g1, k, w) → cells + k = cT → slots + w = wT → W p l e room_1 s m #[Value.ref b] below meth c H locs cells slots (lw_Z below #[Value.ref b] s) (F0 m 1119 ls []) := by
  obtain ⟨hx, hb, hr, hml, hown, hts, hXs, hbl, hlk, hgv⟩ := id C0
  have hbA : ¬ (fun q : Nat => lo ≤ q) b := by show ¬ lo ≤ b; omega
  intro H locs ls cells slots k w S g a1 a2 x3 M hE ra1 ra2 hl q hc hs
  unfold b_L_law_1119 at q
  refine lv_aload_n hx hb dL_law_1119 rfl (lv_at hl 1 rfl) ?_
  refine lv_aload_n hx hb dL_law_1120 rfl (lv_at hl 0 rfl) ?_
  refine lv_iload_n hx hb dL_law_1121 rfl (lv_at hl 3 rfl) ?_
  refine lv_iconst (v := 1) hx hb dL_law_1122 (by decide) ?_
  refine lv_iadd hx hb dL_law_1123 ?_
  replace q := ck_s q
  obtain ⟨hin, q⟩ := q
  refine va_sld hx hb hXs hbl hbA M.2.2 (inb_in hin) dL_law_1124 ?_
  refine lv_aload_n hx hb dL_law_1125 rfl (lv_at hl 0 rfl) ?_
  refine lv_iload_n hx hb dL_law_1126 rfl (lv_at hl 3 rfl) ?_
  refine lv_iconst (v := 2) hx hb dL_law_1127 (by decide) ?_
  refine lv_iadd hx hb dL_law_1128 ?_
  replace q := ck_s q
  obtain ⟨hin, q⟩ := q
  refine va_sld hx hb hXs hbl hbA M.2.2 (inb_in hin) dL_law_1129 ?_
  refine lv_aload_n hx hb dL_law_1130 rfl (lv_at hl 0 rfl) ?_
  refine lv_iload_n hx hb dL_law_1131 rfl (lv_at hl 3 rfl) ?_
  refine lv_iconst (v := 3) hx hb dL_law_1132 (by decide) ?_
  refine lv_iadd hx hb dL_law_1133 ?_
  replace q := ck_s q
  obtain ⟨hin, q⟩ := q
  refine va_sld hx hb hXs hbl hbA M.2.2 (inb_in hin) dL_law_1134 ?_
  replace q := c5_s q
  obtain ⟨x_2, S_3, g_1, k_4, w_5, k_6, w_7, qc, ek, ew, q⟩ := q
  refine x_callV hx hb hml hl.1 hown hX M (As := [.int (xs (x3 + (1 : Int32)).toNatClampNeg), .int (xs (x3 + (2 : Int32)).toNatClampNeg), .int (xs (x3 + (3 : Int32)).toNatClampNeg)]) (rest := []) okX11 ra1 rfl kw_876 kw_877 mok_X11_take (c_X11_take ra1 qc (Nat.le_refl 308)) kw_875 rfl rfl dL_law_1135 (Nat.le_of_ble_eq_true rfl) ⟨by decide, by decide⟩ (hb_step hc ek hRc) (hb_step hs ew hRs) (fun H locs M hEF => ?_)
  replace ra1 := ra1.ext hEF.1
  replace ra2 := ra2.ext hEF.1
  replace hE := hE.tr hEF.1
  replace hc := hc_step hc ek
  replace hs := hc_step hs ew
  clear ek ew
  refine lv_aload_n hx hb dL_law_1138 rfl (lv_at hl 2 rfl) ?_
  refine lv_aload_n hx hb dL_law_1139 rfl (lv_at hl 0 rfl) ?_
  refine lv_iload_n hx hb dL_law_1140 rfl (lv_at hl 3 rfl) ?_
  refine lv_iconst (v := 1) hx hb dL_law_1141 (by decide) ?_
  refine lv_iadd hx hb dL_law_1142 ?_
  replace q := ck_s q
  obtain ⟨hin, q⟩ := q
  refine va_sld hx hb hXs hbl hbA M.2.2 (inb_in hin) dL_law_1143 ?_
  refine lv_aload_n hx hb dL_law_1144 rfl (lv_at hl 0 rfl) ?_
  refine lv_iload_n hx hb dL_law_1145 rfl (lv_at hl 3 rfl) ?_
  refine lv_iconst (v := 2) hx hb dL_law_1146 (by decide) ?_
  refine lv_iadd hx hb dL_law_1147 ?_
  replace q := ck_s q
  obtain ⟨hin, q⟩ := q
  refine va_sld hx hb hXs hbl hbA M.2.2 (inb_in hin) dL_law_1148 ?_
  refine lv_aload_n hx hb dL_law_1149 rfl (lv_at hl 0 rfl) ?_
  refine lv_iload_n hx hb dL_law_1150 rfl (lv_at hl 3 rfl) ?_
  refine lv_iconst (v := 3) hx hb dL_law_1151 (by decide) ?_
  refine lv_iadd hx hb dL_law_1152 ?_
  replace q := ck_s q
  obtain ⟨hin, q⟩ := q
  refine va_sld hx hb hXs hbl hbA M.2.2 (inb_in hin) dL_law_1153 ?_
  replace q := c2_s q
  obtain ⟨x_9, g_8, qc, q⟩ := q
  refine x_callV hx hb hml hl.1 hown hX M (S1 := S_3) (As := [.int (xs (x3 + (1 : Int32)).toNatClampNeg), .int (xs (x3 + (2 : Int32)).toNatClampNeg), .int (xs (x3 + (3 : Int32)).toNatClampNeg)]) (rest := [.int x_2]) okX12 ra2 rfl kw_1443 kw_1444 mok_X12_take (c_X12_take ra2 qc (Nat.le_refl 307)) kw_1442 rfl rfl dL_law_1154 (Nat.le_of_ble_eq_true rfl) ⟨by decide, by decide⟩ (hz_step hc hRc) (hz_step hs hRs) (fun H locs M hEF => ?_)
  refine lv_icmp_eq (tgt := 1462) hx hb dL_law_1157 (by decide) (fun c_10 => ?_) (fun c_10 => ?_)
  · replace q := if_t c_10 q
    exact w_L_law_1462 (N := N) C0 hX hlo hRc hRs hk18 _ _ _ _ _ _ _ _ _ _ _ _ M hE ra1 ra2 (lv_sub hl [0, 1, 2, 3] rfl) q hc hs
  · replace q := if_f c_10 q
    refine lv_iconst (v := 0) hx hb dL_law_1160 (by decide) ?_
    exact absurd q (by simp)
set_option maxHeartbeats 4000000 in
set_option maxRecDepth 100000 in
theorem w_L_law_1076 {N b L : Nat} {xs : Nat → Int32} (C0 : lw_At p s m meth c b L xs) (hX : Kx D cA lo tS s) (hlo : lo = s.heap.size) {S0 S1 : Hs} {g1 : Hg} {cT wT : Nat} (hRc : cT ≤ room_1.cells) (hRs : wT ≤ room_1.slots) {k18 : Hs → Hg → Nat → Nat → Int32 → Option (Int32 × Hs × Hg × Nat × Nat)} (hk18 : ∀ (H : Heap) (locs : List Loc) (ls : Array Slot) (cells slots k w : Nat) (S : Hs) (g : Hg) (a1 : Nat) (a2 : Nat) (x3 : Int32), Mm D cA lo S g s H locs → Ext lo S0 S → Rf lo S a1 11 → Rf lo S a2 12 → lv_has ls 4 [(0, .ref b), (1, .ref a1), (2, .ref a2), (3, .int x3)] → k18 S g a1 a2 x3 = some ((1 : Int32), S1, g1, k, w) → cells + k = cT → slots + w = wT → W p l e room_1 s m #[Value.ref b] below meth c H locs cells slots (lw_Z below #[Value.ref b] s) (F0 m 18 ls [])) : ∀ (H : Heap) (locs : List Loc) (ls : Array Slot) (cells slots k w : Nat) (S : Hs) (g : Hg) (a1 : Nat) (a2 : Nat) (x3 : Int32), Mm D cA lo S g s H locs → Ext lo S0 S → Rf lo S a1 11 → Rf lo S a2 12 → lv_has ls 4 [(0, .ref b), (1, .ref a1), (2, .ref a2), (3, .int x3)] → b_L_law_1076 N L xs k18 S g a1 a2 x3 = some ((1 : Int32), S1, g1, k, w) → cells + k = cT → slots + w = wT → W p l e room_1 s m #[Value.ref b] below meth c H locs cells slots (lw_Z below #[Value.ref b] s) (F0 m 1076 ls []) := by
  obtain ⟨hx, hb, hr, hml, hown, hts, hXs, hbl, hlk, hgv⟩ := id C0
  have hbA : ¬ (fun q : Nat => lo ≤ q) b := by show ¬ lo ≤ b; omega
  intro H locs ls cells slots k w S g a1 a2 x3 M hE ra1 ra2 hl q hc hs
  unfold b_L_law_1076 at q
  refine lv_aload_n hx hb dL_law_1076 rfl (lv_at hl 1 rfl) ?_
  refine lv_aload_n hx hb dL_law_1077 rfl (lv_at hl 0 rfl) ?_
  refine lv_iload_n hx hb dL_law_1078 rfl (lv_at hl 3 rfl) ?_
  refine lv_iconst (v := 1) hx hb dL_law_1079 (by decide) ?_
  refine lv_iadd hx hb dL_law_1080 ?_
  replace q := ck_s q
  obtain ⟨hin, q⟩ := q
  refine va_sld hx hb hXs hbl hbA M.2.2 (inb_in hin) dL_law_1081 ?_
  refine lv_aload_n hx hb dL_law_1082 rfl (lv_at hl 0 rfl) ?_
  refine lv_iload_n hx hb dL_law_1083 rfl (lv_at hl 3 rfl) ?_
  refine lv_iconst (v := 2) hx hb dL_law_1084 (by decide) ?_
  refine lv_iadd hx hb dL_law_1085 ?_
  replace q := ck_s q
  obtain ⟨hin, q⟩ := q
  refine va_sld hx hb hXs hbl hbA M.2.2 (inb_in hin) dL_law_1086 ?_
  refine lv_aload_n hx hb dL_law_1087 rfl (lv_at hl 0 rfl) ?_
  refine lv_iload_n hx hb dL_law_1088 rfl (lv_at hl 3 rfl) ?_
  refine lv_iconst (v := 3) hx hb dL_law_1089 (by decide) ?_
  refine lv_iadd hx hb dL_law_1090 ?_
  replace q := ck_s q
  obtain ⟨hin, q⟩ := q
  refine va_sld hx hb hXs hbl hbA M.2.2 (inb_in hin) dL_law_1091 ?_
  replace q := c2_s q
  obtain ⟨x_2, g_1, qc, q⟩ := q
  refine x_callV hx hb hml hl.1 hown hX M (S1 := S) (As := [.int (xs (x3 + (1 : Int32)).toNatClampNeg), .int (xs (x3 + (2 : Int32)).toNatClampNeg), .int (xs (x3 + (3 : Int32)).toNatClampNeg)]) (rest := []) okX11 ra1 rfl kw_837 kw_838 mok_X11_check (c_X11_check ra1 qc (Nat.le_refl 8)) kw_836 rfl rfl dL_law_1092 (Nat.le_of_ble_eq_true rfl) ⟨by decide, by decide⟩ (hz_step hc hRc) (hz_step hs hRs) (fun H locs M hEF => ?_)
  refine lv_aload_n hx hb dL_law_1095 rfl (lv_at hl 2 rfl) ?_
  refine lv_aload_n hx hb dL_law_1096 rfl (lv_at hl 0 rfl) ?_
  refine lv_iload_n hx hb dL_law_1097 rfl (lv_at hl 3 rfl) ?_
  refine lv_iconst (v := 1) hx hb dL_law_1098 (by decide) ?_
  refine lv_iadd hx hb dL_law_1099 ?_
  replace q := ck_s q
  obtain ⟨hin, q⟩ := q
  refine va_sld hx hb hXs hbl hbA M.2.2 (inb_in hin) dL_law_1100 ?_
  refine lv_aload_n hx hb dL_law_1101 rfl (lv_at hl 0 rfl) ?_
  refine lv_iload_n hx hb dL_law_1102 rfl (lv_at hl 3 rfl) ?_
  refine lv_iconst (v := 2) hx hb dL_law_1103 (by decide) ?_
  refine lv_iadd hx hb dL_law_1104 ?_
  replace q := ck_s q
  obtain ⟨hin, q⟩ := q
  refine va_sld hx hb hXs hbl hbA M.2.2 (inb_in hin) dL_law_1105 ?_
  refine lv_aload_n hx hb dL_law_1106 rfl (lv_at hl 0 rfl) ?_
  refine lv_iload_n hx hb dL_law_1107 rfl (lv_at hl 3 rfl) ?_
  refine lv_iconst (v := 3) hx hb dL_law_1108 (by decide) ?_
  refine lv_iadd hx hb dL_law_1109 ?_
  replace q := ck_s q
  obtain ⟨hin, q⟩ := q
  refine va_sld hx hb hXs hbl hbA M.2.2 (inb_in hin) dL_law_1110 ?_
  replace q := c2_s q
  obtain ⟨x_4, g_3, qc, q⟩ := q
  refine x_callV hx hb hml hl.1 hown hX M (S1 := S) (As := [.int (xs (x3 + (1 : Int32)).toNatClampNeg), .int (xs (x3 + (2 : Int32)).toNatClampNeg), .int (xs (x3 + (3 : Int32)).toNatClampNeg)]) (rest := [.int x_2]) okX12 ra2 rfl kw_1416 kw_1417 mok_X12_check (c_X12_check ra2 qc (Nat.le_refl 7)) kw_1415 rfl rfl dL_law_1111 (Nat.le_of_ble_eq_true rfl) ⟨by decide, by decide⟩ (hz_step hc hRc) (hz_step hs hRs) (fun H locs M hEF => ?_)
  refine lv_icmp_eq (tgt := 1462) hx hb dL_law_1114 (by decide) (fun c_5 => ?_) (fun c_5 => ?_)
  · replace q := if_t c_5 q
    exact w_L_law_1462 (N := N) C0 hX hlo hRc hRs hk18 _ _ _ _ _ _ _ _ _ _ _ _ M hE ra1 ra2 (lv_sub hl [0, 1, 2, 3] rfl) q hc hs
  · replace q := if_f c_5 q
    refine lv_iconst (v := 0) hx hb dL_law_1117 (by decide) ?_
    exact absurd q (by simp)
set_option maxHeartbeats 4000000 in
set_option maxRecDepth 100000 in
theorem w_L_law_993 {N b L : Nat} {xs : Nat → Int32} (C0 : lw_At p s m meth c b L xs) (hX : Kx D cA lo tS s) (hlo : lo = s.heap.size) {S0 S1 : Hs} {g1 : Hg} {cT wT : Nat} (hRc : cT ≤ room_1.cells) (hRs : wT ≤ room_1.slots) {k18 : Hs → Hg → Nat → Nat → Int32 → Option (Int32 × Hs × Hg × Nat × Nat)} (hk18 : ∀ (H : Heap) (locs : List Loc) (ls : Array Slot) (cells slots k w : Nat) (S : Hs) (g : Hg) (a1 : Nat) (a2 : Nat) (x3 : Int32), Mm D cA lo S g s H locs → Ext lo S0 S → Rf lo S a1 11 → Rf lo S a2 12 → lv_has ls 4 [(0, .ref b), (1, .ref a1), (2, .ref a2), (3, .int x3)] → k18 S g a1 a2 x3 = some ((1 : Int32), S1, g1, k, w) → cells + k = cT → slots + w = wT → W p l e room_1 s m #[Value.ref b] below meth c H locs cells slots (lw_Z below #[Value.ref b] s) (F0 m 18 ls [])) : ∀ (H : Heap) (locs : List Loc) (ls : Array Slot) (cells slots k w : Nat) (S : Hs) (g : Hg) (a1 : Nat) (a2 : Nat) (x3 : Int32), Mm D cA lo S g s H locs → Ext lo S0 S → Rf lo S a1 11 → Rf lo S a2 12 → lv_has ls 4 [(0, .ref b), (1, .ref a1), (2, .ref a2), (3, .int x3)] → b_L_law_993 N L xs k18 S g a1 a2 x3 = some ((1 : Int32), S1, g1, k, w) → cells + k = cT → slots + w = wT → W p l e room_1 s m #[Value.ref b] below meth c H locs cells slots (lw_Z below #[Value.ref b] s) (F0 m 993 ls []) := by
  obtain ⟨hx, hb, hr, hml, hown, hts, hXs, hbl, hlk, hgv⟩ := id C0
  have hbA : ¬ (fun q : Nat => lo ≤ q) b := by show ¬ lo ≤ b; omega
  intro H locs ls cells slots k w S g a1 a2 x3 M hE ra1 ra2 hl q hc hs
  unfold b_L_law_993 at q
  refine lv_aload_n hx hb dL_law_993 rfl (lv_at hl 1 rfl) ?_
  refine lv_aload_n hx hb dL_law_994 rfl (lv_at hl 0 rfl) ?_
  refine lv_iload_n hx hb dL_law_995 rfl (lv_at hl 3 rfl) ?_
  refine lv_iconst (v := 1) hx hb dL_law_996 (by decide) ?_
  refine lv_iadd hx hb dL_law_997 ?_
  replace q := ck_s q
  obtain ⟨hin, q⟩ := q
  refine va_sld hx hb hXs hbl hbA M.2.2 (inb_in hin) dL_law_998 ?_
  refine lv_aload_n hx hb dL_law_999 rfl (lv_at hl 0 rfl) ?_
  refine lv_iload_n hx hb dL_law_1000 rfl (lv_at hl 3 rfl) ?_
  refine lv_iconst (v := 2) hx hb dL_law_1001 (by decide) ?_
  refine lv_iadd hx hb dL_law_1002 ?_
  replace q := ck_s q
  obtain ⟨hin, q⟩ := q
  refine va_sld hx hb hXs hbl hbA M.2.2 (inb_in hin) dL_law_1003 ?_
  refine lv_aload_n hx hb dL_law_1004 rfl (lv_at hl 0 rfl) ?_
  refine lv_iload_n hx hb dL_law_1005 rfl (lv_at hl 3 rfl) ?_
  refine lv_iconst (v := 3) hx hb dL_law_1006 (by decide) ?_
  refine lv_iadd hx hb dL_law_1007 ?_
  replace q := ck_s q
  obtain ⟨hin, q⟩ := q
  refine va_sld hx hb hXs hbl hbA M.2.2 (inb_in hin) dL_law_1008 ?_
  refine lv_aload_n hx hb dL_law_1009 rfl (lv_at hl 0 rfl) ?_
  refine lv_iload_n hx hb dL_law_1010 rfl (lv_at hl 3 rfl) ?_
  refine lv_iconst (v := 4) hx hb dL_law_1011 (by decide) ?_
  refine lv_iadd hx hb dL_law_1012 ?_
  replace q := ck_s q
  obtain ⟨hin, q⟩ := q
  refine va_sld hx hb hXs hbl hbA M.2.2 (inb_in hin) dL_law_1013 ?_
  refine lv_i2l hx hb dL_law_1014 rfl ?_
  refine lv_bipush (v := 32) hx hb dL_law_1015 (by decide) ?_
  refine lv_lshl hx hb dL_law_1017 rfl ?_
  refine lv_aload_n hx hb dL_law_1018 rfl (lv_at hl 0 rfl) ?_
  refine lv_iload_n hx hb dL_law_1019 rfl (lv_at hl 3 rfl) ?_
  refine lv_iconst (v := 5) hx hb dL_law_1020 (by decide) ?_
  refine lv_iadd hx hb dL_law_1021 ?_
  replace q := ck_s q
  obtain ⟨hin, q⟩ := q
  refine va_sld hx hb hXs hbl hbA M.2.2 (inb_in hin) dL_law_1022 ?_
  refine lv_i2l hx hb dL_law_1023 rfl ?_
  refine lv_ldc2 (v := 4294967295) hx hb hown (hX.hts _ _ (mw kw_1514 rfl)) dL_law_1024 ?_
  refine lv_land hx hb dL_law_1027 ?_
  refine lv_lor hx hb dL_law_1028 ?_
  replace q := c2_s q
  obtain ⟨x_2, g_1, qc, q⟩ := q
  refine x_callV hx hb hml hl.1 hown hX M (S1 := S) (As := [.int (xs (x3 + (1 : Int32)).toNatClampNeg), .int (xs (x3 + (2 : Int32)).toNatClampNeg), .int (xs (x3 + (3 : Int32)).toNatClampNeg), .long ((((xs (x3 + (4 : Int32)).toNatClampNeg)).toInt64 <<< ((32 : Int32).toInt64 &&& 63)) ||| (((xs (x3 + (5 : Int32)).toNatClampNeg)).toInt64 &&& (4294967295 : Int64)))]) (rest := []) okX11 ra1 rfl kw_833 kw_834 mok_X11_forge (c_X11_forge ra1 qc (Nat.le_refl 2)) kw_832 rfl rfl dL_law_1029 (Nat.le_of_ble_eq_true rfl) ⟨by decide, by decide⟩ (hz_step hc hRc) (hz_step hs hRs) (fun H locs M hEF => ?_)
  refine lv_aload_n hx hb dL_law_1032 rfl (lv_at hl 2 rfl) ?_
  refine lv_aload_n hx hb dL_law_1033 rfl (lv_at hl 0 rfl) ?_
  refine lv_iload_n hx hb dL_law_1034 rfl (lv_at hl 3 rfl) ?_
  refine lv_iconst (v := 1) hx hb dL_law_1035 (by decide) ?_
  refine lv_iadd hx hb dL_law_1036 ?_
  replace q := ck_s q
  obtain ⟨hin, q⟩ := q
  refine va_sld hx hb hXs hbl hbA M.2.2 (inb_in hin) dL_law_1037 ?_
  refine lv_aload_n hx hb dL_law_1038 rfl (lv_at hl 0 rfl) ?_
  refine lv_iload_n hx hb dL_law_1039 rfl (lv_at hl 3 rfl) ?_
  refine lv_iconst (v := 2) hx hb dL_law_1040 (by decide) ?_
  refine lv_iadd hx hb dL_law_1041 ?_
  replace q := ck_s q
  obtain ⟨hin, q⟩ := q
  refine va_sld hx hb hXs hbl hbA M.2.2 (inb_in hin) dL_law_1042 ?_
  refine lv_aload_n hx hb dL_law_1043 rfl (lv_at hl 0 rfl) ?_
  refine lv_iload_n hx hb dL_law_1044 rfl (lv_at hl 3 rfl) ?_
  refine lv_iconst (v := 3) hx hb dL_law_1045 (by decide) ?_
  refine lv_iadd hx hb dL_law_1046 ?_
  replace q := ck_s q
  obtain ⟨hin, q⟩ := q
  refine va_sld hx hb hXs hbl hbA M.2.2 (inb_in hin) dL_law_1047 ?_
  refine lv_aload_n hx hb dL_law_1048 rfl (lv_at hl 0 rfl) ?_
  refine lv_iload_n hx hb dL_law_1049 rfl (lv_at hl 3 rfl) ?_
  refine lv_iconst (v := 4) hx hb dL_law_1050 (by decide) ?_
  refine lv_iadd hx hb dL_law_1051 ?_
  replace q := ck_s q
  obtain ⟨hin, q⟩ := q
  refine va_sld hx hb hXs hbl hbA M.2.2 (inb_in hin) dL_law_1052 ?_
  refine lv_i2l hx hb dL_law_1053 rfl ?_
  refine lv_bipush (v := 32) hx hb dL_law_1054 (by decide) ?_
  refine lv_lshl hx hb dL_law_1056 rfl ?_
  refine lv_aload_n hx hb dL_law_1057 rfl (lv_at hl 0 rfl) ?_
  refine lv_iload_n hx hb dL_law_1058 rfl (lv_at hl 3 rfl) ?_
  refine lv_iconst (v := 5) hx hb dL_law_1059 (by decide) ?_
  refine lv_iadd hx hb dL_law_1060 ?_
  replace q := ck_s q
  obtain ⟨hin, q⟩ := q
  refine va_sld hx hb hXs hbl hbA M.2.2 (inb_in hin) dL_law_1061 ?_
  refine lv_i2l hx hb dL_law_1062 rfl ?_
  refine lv_ldc2 (v := 4294967295) hx hb hown (hX.hts _ _ (mw kw_1514 rfl)) dL_law_1063 ?_
  refine lv_land hx hb dL_law_1066 ?_
  refine lv_lor hx hb dL_law_1067 ?_
  replace q := c2_s q
  obtain ⟨x_4, g_3, qc, q⟩ := q
  refine x_callV hx hb hml hl.1 hown hX M (S1 := S) (As := [.int (xs (x3 + (1 : Int32)).toNatClampNeg), .int (xs (x3 + (2 : Int32)).toNatClampNeg), .int (xs (x3 + (3 : Int32)).toNatClampNeg), .long ((((xs (x3 + (4 : Int32)).toNatClampNeg)).toInt64 <<< ((32 : Int32).toInt64 &&& 63)) ||| (((xs (x3 + (5 : Int32)).toNatClampNeg)).toInt64 &&& (4294967295 : Int64)))]) (rest := [.int x_2]) okX12 ra2 rfl kw_1412 kw_1413 mok_X12_forge (c_X12_forge ra2 qc (Nat.le_refl 2)) kw_1411 rfl rfl dL_law_1068 (Nat.le_of_ble_eq_true rfl) ⟨by decide, by decide⟩ (hz_step hc hRc) (hz_step hs hRs) (fun H locs M hEF => ?_)
  refine lv_icmp_eq (tgt := 1462) hx hb dL_law_1071 (by decide) (fun c_5 => ?_) (fun c_5 => ?_)
  · replace q := if_t c_5 q
    exact w_L_law_1462 (N := N) C0 hX hlo hRc hRs hk18 _ _ _ _ _ _ _ _ _ _ _ _ M hE ra1 ra2 (lv_sub hl [0, 1, 2, 3] rfl) q hc hs
  · replace q := if_f c_5 q
    refine lv_iconst (v := 0) hx hb dL_law_1074 (by decide) ?_
    exact absurd q (by simp)
set_option maxHeartbeats 4000000 in
set_option maxRecDepth 100000 in
theorem w_L_law_940 {N b L : Nat} {xs : Nat → Int32} (C0 : lw_At p s m meth c b L xs) (hX : Kx D cA lo tS s) (hlo : lo = s.heap.size) {S0 S1 : Hs} {g1 : Hg} {cT wT : Nat} (hRc : cT ≤ room_1.cells) (hRs : wT ≤ room_1.slots) {k18 : Hs → Hg → Nat → Nat → Int32 → Option (Int32 × Hs × Hg × Nat × Nat)} (hk18 : ∀ (H : Heap) (locs : List Loc) (ls : Array Slot) (cells slots k w : Nat) (S : Hs) (g : Hg) (a1 : Nat) (a2 : Nat) (x3 : Int32), Mm D cA lo S g s H locs → Ext lo S0 S → Rf lo S a1 11 → Rf lo S a2 12 → lv_has ls 4 [(0, .ref b), (1, .ref a1), (2, .ref a2), (3, .int x3)] → k18 S g a1 a2 x3 = some ((1 : Int32), S1, g1, k, w) → cells + k = cT → slots + w = wT → W p l e room_1 s m #[Value.ref b] below meth c H locs cells slots (lw_Z below #[Value.ref b] s) (F0 m 18 ls [])) : ∀ (H : Heap) (locs : List Loc) (ls : Array Slot) (cells slots k w : Nat) (S : Hs) (g : Hg) (a1 : Nat) (a2 : Nat) (x3 : Int32), Mm D cA lo S g s H locs → Ext lo S0 S → Rf lo S a1 11 → Rf lo S a2 12 → lv_has ls 4 [(0, .ref b), (1, .ref a1), (2, .ref a2), (3, .int x3)] → b_L_law_940 N L xs k18 S g a1 a2 x3 = some ((1 : Int32), S1, g1, k, w) → cells + k = cT → slots + w = wT → W p l e room_1 s m #[Value.ref b] below meth c H locs cells slots (lw_Z below #[Value.ref b] s) (F0 m 940 ls []) := by
  obtain ⟨hx, hb, hr, hml, hown, hts, hXs, hbl, hlk, hgv⟩ := id C0
  have hbA : ¬ (fun q : Nat => lo ≤ q) b := by show ¬ lo ≤ b; omega
  intro H locs ls cells slots k w S g a1 a2 x3 M hE ra1 ra2 hl q hc hs
  unfold b_L_law_940 at q
  refine lv_aload_n hx hb dL_law_940 rfl (lv_at hl 1 rfl) ?_
  refine lv_aload_n hx hb dL_law_941 rfl (lv_at hl 0 rfl) ?_
  refine lv_iload_n hx hb dL_law_942 rfl (lv_at hl 3 rfl) ?_
  refine lv_iconst (v := 1) hx hb dL_law_943 (by decide) ?_
  refine lv_iadd hx hb dL_law_944 ?_
  replace q := ck_s q
  obtain ⟨hin, q⟩ := q
  refine va_sld hx hb hXs hbl hbA M.2.2 (inb_in hin) dL_law_945 ?_
  refine lv_aload_n hx hb dL_law_946 rfl (lv_at hl 0 rfl) ?_
  refine lv_iload_n hx hb dL_law_947 rfl (lv_at hl 3 rfl) ?_
  refine lv_iconst (v := 2) hx hb dL_law_948 (by decide) ?_
  refine lv_iadd hx hb dL_law_949 ?_
  replace q := ck_s q
  obtain ⟨hin, q⟩ := q
  refine va_sld hx hb hXs hbl hbA M.2.2 (inb_in hin) dL_law_950 ?_
  refine lv_aload_n hx hb dL_law_951 rfl (lv_at hl 0 rfl) ?_
  refine lv_iload_n hx hb dL_law_952 rfl (lv_at hl 3 rfl) ?_
  refine lv_iconst (v := 3) hx hb dL_law_953 (by decide) ?_
  refine lv_iadd hx hb dL_law_954 ?_
  replace q := ck_s q
  obtain ⟨hin, q⟩ := q
  refine va_sld hx hb hXs hbl hbA M.2.2 (inb_in hin) dL_law_955 ?_
  refine lv_aload_n hx hb dL_law_956 rfl (lv_at hl 0 rfl) ?_
  refine lv_iload_n hx hb dL_law_957 rfl (lv_at hl 3 rfl) ?_
  refine lv_iconst (v := 4) hx hb dL_law_958 (by decide) ?_
  refine lv_iadd hx hb dL_law_959 ?_
  replace q := ck_s q
  obtain ⟨hin, q⟩ := q
  refine va_sld hx hb hXs hbl hbA M.2.2 (inb_in hin) dL_law_960 ?_
  replace q := c2_s q
  obtain ⟨x_2, g_1, qc, q⟩ := q
  refine x_callV hx hb hml hl.1 hown hX M (S1 := S) (As := [.int (xs (x3 + (1 : Int32)).toNatClampNeg), .int (xs (x3 + (2 : Int32)).toNatClampNeg), .int (xs (x3 + (3 : Int32)).toNatClampNeg), .int (xs (x3 + (4 : Int32)).toNatClampNeg)]) (rest := []) okX11 ra1 rfl kw_829 kw_830 mok_X11_bend (c_X11_bend ra1 qc (Nat.le_refl 2)) kw_828 rfl rfl dL_law_961 (Nat.le_of_ble_eq_true rfl) ⟨by decide, by decide⟩ (hz_step hc hRc) (hz_step hs hRs) (fun H locs M hEF => ?_)
  refine lv_aload_n hx hb dL_law_964 rfl (lv_at hl 2 rfl) ?_
  refine lv_aload_n hx hb dL_law_965 rfl (lv_at hl 0 rfl) ?_
  refine lv_iload_n hx hb dL_law_966 rfl (lv_at hl 3 rfl) ?_
  refine lv_iconst (v := 1) hx hb dL_law_967 (by decide) ?_
  refine lv_iadd hx hb dL_law_968 ?_
  replace q := ck_s q
  obtain ⟨hin, q⟩ := q
  refine va_sld hx hb hXs hbl hbA M.2.2 (inb_in hin) dL_law_969 ?_
  refine lv_aload_n hx hb dL_law_970 rfl (lv_at hl 0 rfl) ?_
  refine lv_iload_n hx hb dL_law_971 rfl (lv_at hl 3 rfl) ?_
  refine lv_iconst (v := 2) hx hb dL_law_972 (by decide) ?_
  refine lv_iadd hx hb dL_law_973 ?_
  replace q := ck_s q
  obtain ⟨hin, q⟩ := q
  refine va_sld hx hb hXs hbl hbA M.2.2 (inb_in hin) dL_law_974 ?_
  refine lv_aload_n hx hb dL_law_975 rfl (lv_at hl 0 rfl) ?_
  refine lv_iload_n hx hb dL_law_976 rfl (lv_at hl 3 rfl) ?_
  refine lv_iconst (v := 3) hx hb dL_law_977 (by decide) ?_
  refine lv_iadd hx hb dL_law_978 ?_
  replace q := ck_s q
  obtain ⟨hin, q⟩ := q
  refine va_sld hx hb hXs hbl hbA M.2.2 (inb_in hin) dL_law_979 ?_
  refine lv_aload_n hx hb dL_law_980 rfl (lv_at hl 0 rfl) ?_
  refine lv_iload_n hx hb dL_law_981 rfl (lv_at hl 3 rfl) ?_
  refine lv_iconst (v := 4) hx hb dL_law_982 (by decide) ?_
  refine lv_iadd hx hb dL_law_983 ?_
  replace q := ck_s q
  obtain ⟨hin, q⟩ := q
  refine va_sld hx hb hXs hbl hbA M.2.2 (inb_in hin) dL_law_984 ?_
  replace q := c2_s q
  obtain ⟨x_4, g_3, qc, q⟩ := q
  refine x_callV hx hb hml hl.1 hown hX M (S1 := S) (As := [.int (xs (x3 + (1 : Int32)).toNatClampNeg), .int (xs (x3 + (2 : Int32)).toNatClampNeg), .int (xs (x3 + (3 : Int32)).toNatClampNeg), .int (xs (x3 + (4 : Int32)).toNatClampNeg)]) (rest := [.int x_2]) okX12 ra2 rfl kw_1408 kw_1409 mok_X12_bend (c_X12_bend ra2 qc (Nat.le_refl 3)) kw_1407 rfl rfl dL_law_985 (Nat.le_of_ble_eq_true rfl) ⟨by decide, by decide⟩ (hz_step hc hRc) (hz_step hs hRs) (fun H locs M hEF => ?_)
  refine lv_icmp_eq (tgt := 1462) hx hb dL_law_988 (by decide) (fun c_5 => ?_) (fun c_5 => ?_)
  · replace q := if_t c_5 q
    exact w_L_law_1462 (N := N) C0 hX hlo hRc hRs hk18 _ _ _ _ _ _ _ _ _ _ _ _ M hE ra1 ra2 (lv_sub hl [0, 1, 2, 3] rfl) q hc hs
  · replace q := if_f c_5 q
    refine lv_iconst (v := 0) hx hb dL_law_991 (by decide) ?_
    exact absurd q (by simp)
set_option maxHeartbeats 4000000 in
set_option maxRecDepth 100000 in
theorem w_L_law_897 {N b L : Nat} {xs : Nat → Int32} (C0 : lw_At p s m meth c b L xs) (hX : Kx D cA lo tS s) (hlo : lo = s.heap.size) {S0 S1 : Hs} {g1 : Hg} {cT wT : Nat} (hRc : cT ≤ room_1.cells) (hRs : wT ≤ room_1.slots) {k18 : Hs → Hg → Nat → Nat → Int32 → Option (Int32 × Hs × Hg × Nat × Nat)} (hk18 : ∀ (H : Heap) (locs : List Loc) (ls : Array Slot) (cells slots k w : Nat) (S : Hs) (g : Hg) (a1 : Nat) (a2 : Nat) (x3 : Int32), Mm D cA lo S g s H locs → Ext lo S0 S → Rf lo S a1 11 → Rf lo S a2 12 → lv_has ls 4 [(0, .ref b), (1, .ref a1), (2, .ref a2), (3, .int x3)] → k18 S g a1 a2 x3 = some ((1 : Int32), S1, g1, k, w) → cells + k = cT → slots + w = wT → W p l e room_1 s m #[Value.ref b] below meth c H locs cells slots (lw_Z below #[Value.ref b] s) (F0 m 18 ls [])) : ∀ (H : Heap) (locs : List Loc) (ls : Array Slot) (cells slots k w : Nat) (S : Hs) (g : Hg) (a1 : Nat) (a2 : Nat) (x3 : Int32), Mm D cA lo S g s H locs → Ext lo S0 S → Rf lo S a1 11 → Rf lo S a2 12 → lv_has ls 4 [(0, .ref b), (1, .ref a1), (2, .ref a2), (3, .int x3)] → b_L_law_897 N L xs k18 S g a1 a2 x3 = some ((1 : Int32), S1, g1, k, w) → cells + k = cT → slots + w = wT → W p l e room_1 s m #[Value.ref b] below meth c H locs cells slots (lw_Z below #[Value.ref b] s) (F0 m 897 ls []) := by
  obtain ⟨hx, hb, hr, hml, hown, hts, hXs, hbl, hlk, hgv⟩ := id C0
  have hbA : ¬ (fun q : Nat => lo ≤ q) b := by show ¬ lo ≤ b; omega
  intro H locs ls cells slots k w S g a1 a2 x3 M hE ra1 ra2 hl q hc hs
  unfold b_L_law_897 at q
  refine lv_aload_n hx hb dL_law_897 rfl (lv_at hl 1 rfl) ?_
  refine lv_aload_n hx hb dL_law_898 rfl (lv_at hl 0 rfl) ?_
  refine lv_iload_n hx hb dL_law_899 rfl (lv_at hl 3 rfl) ?_
  refine lv_iconst (v := 1) hx hb dL_law_900 (by decide) ?_
  refine lv_iadd hx hb dL_law_901 ?_
  replace q := ck_s q
  obtain ⟨hin, q⟩ := q
  refine va_sld hx hb hXs hbl hbA M.2.2 (inb_in hin) dL_law_902 ?_
  refine lv_aload_n hx hb dL_law_903 rfl (lv_at hl 0 rfl) ?_
  refine lv_iload_n hx hb dL_law_904 rfl (lv_at hl 3 rfl) ?_
  refine lv_iconst (v := 2) hx hb dL_law_905 (by decide) ?_
  refine lv_iadd hx hb dL_law_906 ?_
  replace q := ck_s q
  obtain ⟨hin, q⟩ := q
  refine va_sld hx hb hXs hbl hbA M.2.2 (inb_in hin) dL_law_907 ?_
  refine lv_aload_n hx hb dL_law_908 rfl (lv_at hl 0 rfl) ?_
  refine lv_iload_n hx hb dL_law_909 rfl (lv_at hl 3 rfl) ?_
  refine lv_iconst (v := 3) hx hb dL_law_910 (by decide) ?_
  refine lv_iadd hx hb dL_law_911 ?_
  replace q := ck_s q
  obtain ⟨hin, q⟩ := q
  refine va_sld hx hb hXs hbl hbA M.2.2 (inb_in hin) dL_law_912 ?_
  replace q := c2_s q
  obtain ⟨x_2, g_1, qc, q⟩ := q
  refine x_callV hx hb hml hl.1 hown hX M (S1 := S) (As := [.int (xs (x3 + (1 : Int32)).toNatClampNeg), .int (xs (x3 + (2 : Int32)).toNatClampNeg), .int (xs (x3 + (3 : Int32)).toNatClampNeg)]) (rest := []) okX11 ra1 rfl kw_821 kw_822 mok_X11_step (c_X11_step ra1 qc (Nat.le_refl 2)) kw_820 rfl rfl dL_law_913 (Nat.le_of_ble_eq_true rfl) ⟨by decide, by decide⟩ (hz_step hc hRc) (hz_step hs hRs) (fun H locs M hEF => ?_)
  refine lv_aload_n hx hb dL_law_916 rfl (lv_at hl 2 rfl) ?_
  refine lv_aload_n hx hb dL_law_917 rfl (lv_at hl 0 rfl) ?_
  refine lv_iload_n hx hb dL_law_918 rfl (lv_at hl 3 rfl) ?_
  refine lv_iconst (v := 1) hx hb dL_law_919 (by decide) ?_
  refine lv_iadd hx hb dL_law_920 ?_
  replace q := ck_s q
  obtain ⟨hin, q⟩ := q
  refine va_sld hx hb hXs hbl hbA M.2.2 (inb_in hin) dL_law_921 ?_
  refine lv_aload_n hx hb dL_law_922 rfl (lv_at hl 0 rfl) ?_
  refine lv_iload_n hx hb dL_law_923 rfl (lv_at hl 3 rfl) ?_
  refine lv_iconst (v := 2) hx hb dL_law_924 (by decide) ?_
  refine lv_iadd hx hb dL_law_925 ?_
  replace q := ck_s q
  obtain ⟨hin, q⟩ := q
  refine va_sld hx hb hXs hbl hbA M.2.2 (inb_in hin) dL_law_926 ?_
  refine lv_aload_n hx hb dL_law_927 rfl (lv_at hl 0 rfl) ?_
  refine lv_iload_n hx hb dL_law_928 rfl (lv_at hl 3 rfl) ?_
  refine lv_iconst (v := 3) hx hb dL_law_929 (by decide) ?_
  refine lv_iadd hx hb dL_law_930 ?_
  replace q := ck_s q
  obtain ⟨hin, q⟩ := q
  refine va_sld hx hb hXs hbl hbA M.2.2 (inb_in hin) dL_law_931 ?_
  replace q := c2_s q
  obtain ⟨x_4, g_3, qc, q⟩ := q
  refine x_callV hx hb hml hl.1 hown hX M (S1 := S) (As := [.int (xs (x3 + (1 : Int32)).toNatClampNeg), .int (xs (x3 + (2 : Int32)).toNatClampNeg), .int (xs (x3 + (3 : Int32)).toNatClampNeg)]) (rest := [.int x_2]) okX12 ra2 rfl kw_1400 kw_1401 mok_X12_step_ (c_X12_step_ ra2 qc (Nat.le_refl 3)) kw_1399 rfl rfl dL_law_932 (Nat.le_of_ble_eq_true rfl) ⟨by decide, by decide⟩ (hz_step hc hRc) (hz_step hs hRs) (fun H locs M hEF => ?_)
  refine lv_icmp_eq (tgt := 1462) hx hb dL_law_935 (by decide) (fun c_5 => ?_) (fun c_5 => ?_)
  · replace q := if_t c_5 q
    exact w_L_law_1462 (N := N) C0 hX hlo hRc hRs hk18 _ _ _ _ _ _ _ _ _ _ _ _ M hE ra1 ra2 (lv_sub hl [0, 1, 2, 3] rfl) q hc hs
  · replace q := if_f c_5 q
    refine lv_iconst (v := 0) hx hb dL_law_938 (by decide) ?_
    exact absurd q (by simp)
set_option maxHeartbeats 4000000 in
set_option maxRecDepth 100000 in
theorem w_L_law_864 {N b L : Nat} {xs : Nat → Int32} (C0 : lw_At p s m meth c b L xs) (hX : Kx D cA lo tS s) (hlo : lo = s.heap.size) {S0 S1 : Hs} {g1 : Hg} {cT wT : Nat} (hRc : cT ≤ room_1.cells) (hRs : wT ≤ room_1.slots) {k18 : Hs → Hg → Nat → Nat → Int32 → Option (Int32 × Hs × Hg × Nat × Nat)} (hk18 : ∀ (H : Heap) (locs : List Loc) (ls : Array Slot) (cells slots k w : Nat) (S : Hs) (g : Hg) (a1 : Nat) (a2 : Nat) (x3 : Int32), Mm D cA lo S g s H locs → Ext lo S0 S → Rf lo S a1 11 → Rf lo S a2 12 → lv_has ls 4 [(0, .ref b), (1, .ref a1), (2, .ref a2), (3, .int x3)] → k18 S g a1 a2 x3 = some ((1 : Int32), S1, g1, k, w) → cells + k = cT → slots + w = wT → W p l e room_1 s m #[Value.ref b] below meth c H locs cells slots (lw_Z below #[Value.ref b] s) (F0 m 18 ls [])) : ∀ (H : Heap) (locs : List Loc) (ls : Array Slot) (cells slots k w : Nat) (S : Hs) (g : Hg) (a1 : Nat) (a2 : Nat) (x3 : Int32), Mm D cA lo S g s H locs → Ext lo S0 S → Rf lo S a1 11 → Rf lo S a2 12 → lv_has ls 4 [(0, .ref b), (1, .ref a1), (2, .ref a2), (3, .int x3)] → b_L_law_864 N L xs k18 S g a1 a2 x3 = some ((1 : Int32), S1, g1, k, w) → cells + k = cT → slots + w = wT → W p l e room_1 s m #[Value.ref b] below meth c H locs cells slots (lw_Z below #[Value.ref b] s) (F0 m 864 ls []) := by
  obtain ⟨hx, hb, hr, hml, hown, hts, hXs, hbl, hlk, hgv⟩ := id C0
  have hbA : ¬ (fun q : Nat => lo ≤ q) b := by show ¬ lo ≤ b; omega
  intro H locs ls cells slots k w S g a1 a2 x3 M hE ra1 ra2 hl q hc hs
  unfold b_L_law_864 at q
  refine lv_aload_n hx hb dL_law_864 rfl (lv_at hl 1 rfl) ?_
  refine lv_aload_n hx hb dL_law_865 rfl (lv_at hl 0 rfl) ?_
  refine lv_iload_n hx hb dL_law_866 rfl (lv_at hl 3 rfl) ?_
  refine lv_iconst (v := 1) hx hb dL_law_867 (by decide) ?_
  refine lv_iadd hx hb dL_law_868 ?_
  replace q := ck_s q
  obtain ⟨hin, q⟩ := q
  refine va_sld hx hb hXs hbl hbA M.2.2 (inb_in hin) dL_law_869 ?_
  refine lv_aload_n hx hb dL_law_870 rfl (lv_at hl 0 rfl) ?_
  refine lv_iload_n hx hb dL_law_871 rfl (lv_at hl 3 rfl) ?_
  refine lv_iconst (v := 2) hx hb dL_law_872 (by decide) ?_
  refine lv_iadd hx hb dL_law_873 ?_
  replace q := ck_s q
  obtain ⟨hin, q⟩ := q
  refine va_sld hx hb hXs hbl hbA M.2.2 (inb_in hin) dL_law_874 ?_
  replace q := c2_s q
  obtain ⟨x_2, g_1, qc, q⟩ := q
  refine x_callV hx hb hml hl.1 hown hX M (S1 := S) (As := [.int (xs (x3 + (1 : Int32)).toNatClampNeg), .int (xs (x3 + (2 : Int32)).toNatClampNeg)]) (rest := []) okX11 ra1 rfl kw_813 kw_814 mok_X11_proof (c_X11_proof ra1 qc (Nat.le_refl 2)) kw_812 rfl rfl dL_law_875 (Nat.le_of_ble_eq_true rfl) ⟨by decide, by decide⟩ (hz_step hc hRc) (hz_step hs hRs) (fun H locs M hEF => ?_)
  refine lv_aload_n hx hb dL_law_878 rfl (lv_at hl 2 rfl) ?_
  refine lv_aload_n hx hb dL_law_879 rfl (lv_at hl 0 rfl) ?_
  refine lv_iload_n hx hb dL_law_880 rfl (lv_at hl 3 rfl) ?_
  refine lv_iconst (v := 1) hx hb dL_law_881 (by decide) ?_
  refine lv_iadd hx hb dL_law_882 ?_
  replace q := ck_s q
  obtain ⟨hin, q⟩ := q
  refine va_sld hx hb hXs hbl hbA M.2.2 (inb_in hin) dL_law_883 ?_
  refine lv_aload_n hx hb dL_law_884 rfl (lv_at hl 0 rfl) ?_
  refine lv_iload_n hx hb dL_law_885 rfl (lv_at hl 3 rfl) ?_
  refine lv_iconst (v := 2) hx hb dL_law_886 (by decide) ?_
  refine lv_iadd hx hb dL_law_887 ?_
  replace q := ck_s q
  obtain ⟨hin, q⟩ := q
  refine va_sld hx hb hXs hbl hbA M.2.2 (inb_in hin) dL_law_888 ?_
  replace q := c2_s q
  obtain ⟨x_4, g_3, qc, q⟩ := q
  refine x_callV hx hb hml hl.1 hown hX M (S1 := S) (As := [.int (xs (x3 + (1 : Int32)).toNatClampNeg), .int (xs (x3 + (2 : Int32)).toNatClampNeg)]) (rest := [.int x_2]) okX12 ra2 rfl kw_1396 kw_1397 mok_X12_proof (c_X12_proof ra2 qc (Nat.le_refl 2)) kw_1395 rfl rfl dL_law_889 (Nat.le_of_ble_eq_true rfl) ⟨by decide, by decide⟩ (hz_step hc hRc) (hz_step hs hRs) (fun H locs M hEF => ?_)
  refine lv_icmp_eq (tgt := 1462) hx hb dL_law_892 (by decide) (fun c_5 => ?_) (fun c_5 => ?_)
  · replace q := if_t c_5 q
    exact w_L_law_1462 (N := N) C0 hX hlo hRc hRs hk18 _ _ _ _ _ _ _ _ _ _ _ _ M hE ra1 ra2 (lv_sub hl [0, 1, 2, 3] rfl) q hc hs
  · replace q := if_f c_5 q
    refine lv_iconst (v := 0) hx hb dL_law_895 (by decide) ?_
    exact absurd q (by simp)
set_option maxHeartbeats 4000000 in
set_option maxRecDepth 100000 in
theorem w_L_law_841 {N b L : Nat} {xs : Nat → Int32} (C0 : lw_At p s m meth c b L xs) (hX : Kx D cA lo tS s) (hlo : lo = s.heap.size) {S0 S1 : Hs} {g1 : Hg} {cT wT : Nat} (hRc : cT ≤ room_1.cells) (hRs : wT ≤ room_1.slots) {k18 : Hs → Hg → Nat → Nat → Int32 → Option (Int32 × Hs × Hg × Nat × Nat)} (hk18 : ∀ (H : Heap) (locs : List Loc) (ls : Array Slot) (cells slots k w : Nat) (S : Hs) (g : Hg) (a1 : Nat) (a2 : Nat) (x3 : Int32), Mm D cA lo S g s H locs → Ext lo S0 S → Rf lo S a1 11 → Rf lo S a2 12 → lv_has ls 4 [(0, .ref b), (1, .ref a1), (2, .ref a2), (3, .int x3)] → k18 S g a1 a2 x3 = some ((1 : Int32), S1, g1, k, w) → cells + k = cT → slots + w = wT → W p l e room_1 s m #[Value.ref b] below meth c H locs cells slots (lw_Z below #[Value.ref b] s) (F0 m 18 ls [])) : ∀ (H : Heap) (locs : List Loc) (ls : Array Slot) (cells slots k w : Nat) (S : Hs) (g : Hg) (a1 : Nat) (a2 : Nat) (x3 : Int32), Mm D cA lo S g s H locs → Ext lo S0 S → Rf lo S a1 11 → Rf lo S a2 12 → lv_has ls 4 [(0, .ref b), (1, .ref a1), (2, .ref a2), (3, .int x3)] → b_L_law_841 N L xs k18 S g a1 a2 x3 = some ((1 : Int32), S1, g1, k, w) → cells + k = cT → slots + w = wT → W p l e room_1 s m #[Value.ref b] below meth c H locs cells slots (lw_Z below #[Value.ref b] s) (F0 m 841 ls []) := by
  obtain ⟨hx, hb, hr, hml, hown, hts, hXs, hbl, hlk, hgv⟩ := id C0
  have hbA : ¬ (fun q : Nat => lo ≤ q) b := by show ¬ lo ≤ b; omega
  intro H locs ls cells slots k w S g a1 a2 x3 M hE ra1 ra2 hl q hc hs
  unfold b_L_law_841 at q
  refine lv_aload_n hx hb dL_law_841 rfl (lv_at hl 1 rfl) ?_
  refine lv_aload_n hx hb dL_law_842 rfl (lv_at hl 0 rfl) ?_
  refine lv_iload_n hx hb dL_law_843 rfl (lv_at hl 3 rfl) ?_
  refine lv_iconst (v := 1) hx hb dL_law_844 (by decide) ?_
  refine lv_iadd hx hb dL_law_845 ?_
  replace q := ck_s q
  obtain ⟨hin, q⟩ := q
  refine va_sld hx hb hXs hbl hbA M.2.2 (inb_in hin) dL_law_846 ?_
  replace q := c2_s q
  obtain ⟨x_2, g_1, qc, q⟩ := q
  refine x_callV hx hb hml hl.1 hown hX M (S1 := S) (As := [.int (xs (x3 + (1 : Int32)).toNatClampNeg)]) (rest := []) okX11 ra1 rfl kw_809 kw_810 mok_X11_drop (c_X11_drop ra1 qc (Nat.le_refl 2)) kw_808 rfl rfl dL_law_847 (Nat.le_of_ble_eq_true rfl) ⟨by decide, by decide⟩ (hz_step hc hRc) (hz_step hs hRs) (fun H locs M hEF => ?_)
  refine lv_aload_n hx hb dL_law_850 rfl (lv_at hl 2 rfl) ?_
  refine lv_aload_n hx hb dL_law_851 rfl (lv_at hl 0 rfl) ?_
  refine lv_iload_n hx hb dL_law_852 rfl (lv_at hl 3 rfl) ?_
  refine lv_iconst (v := 1) hx hb dL_law_853 (by decide) ?_
  refine lv_iadd hx hb dL_law_854 ?_
  replace q := ck_s q
  obtain ⟨hin, q⟩ := q
  refine va_sld hx hb hXs hbl hbA M.2.2 (inb_in hin) dL_law_855 ?_
  replace q := c2_s q
  obtain ⟨x_4, g_3, qc, q⟩ := q
  refine x_callV hx hb hml hl.1 hown hX M (S1 := S) (As := [.int (xs (x3 + (1 : Int32)).toNatClampNeg)]) (rest := [.int x_2]) okX12 ra2 rfl kw_1392 kw_1393 mok_X12_drop (c_X12_drop ra2 qc (Nat.le_refl 2)) kw_1391 rfl rfl dL_law_856 (Nat.le_of_ble_eq_true rfl) ⟨by decide, by decide⟩ (hz_step hc hRc) (hz_step hs hRs) (fun H locs M hEF => ?_)
  refine lv_icmp_eq (tgt := 1462) hx hb dL_law_859 (by decide) (fun c_5 => ?_) (fun c_5 => ?_)
  · replace q := if_t c_5 q
    exact w_L_law_1462 (N := N) C0 hX hlo hRc hRs hk18 _ _ _ _ _ _ _ _ _ _ _ _ M hE ra1 ra2 (lv_sub hl [0, 1, 2, 3] rfl) q hc hs
  · replace q := if_f c_5 q
    refine lv_iconst (v := 0) hx hb dL_law_862 (by decide) ?_
    exact absurd q (by simp)
set_option maxHeartbeats 4000000 in
set_option maxRecDepth 100000 in
theorem w_L_law_778 {N b L : Nat} {xs : Nat → Int32} (C0 : lw_At p s m meth c b L xs) (hX : Kx D cA lo tS s) (hlo : lo = s.heap.size) {S0 S1 : Hs} {g1 : Hg} {cT wT : Nat} (hRc : cT ≤ room_1.cells) (hRs : wT ≤ room_1.slots) {k18 : Hs → Hg → Nat → Nat → Int32 → Option (Int32 × Hs × Hg × Nat × Nat)} (hk18 : ∀ (H : Heap) (locs : List Loc) (ls : Array Slot) (cells slots k w : Nat) (S : Hs) (g : Hg) (a1 : Nat) (a2 : Nat) (x3 : Int32), Mm D cA lo S g s H locs → Ext lo S0 S → Rf lo S a1 11 → Rf lo S a2 12 → lv_has ls 4 [(0, .ref b), (1, .ref a1), (2, .ref a2), (3, .int x3)] → k18 S g a1 a2 x3 = some ((1 : Int32), S1, g1, k, w) → cells + k = cT → slots + w = wT → W p l e room_1 s m #[Value.ref b] below meth c H locs cells slots (lw_Z below #[Value.ref b] s) (F0 m 18 ls [])) : ∀ (H : Heap) (locs : List Loc) (ls : Array Slot) (cells slots k w : Nat) (S : Hs) (g : Hg) (a1 : Nat) (a2 : Nat) (x3 : Int32), Mm D cA lo S g s H locs → Ext lo S0 S → Rf lo S a1 11 → Rf lo S a2 12 → lv_has ls 4 [(0, .ref b), (1, .ref a1), (2, .ref a2), (3, .int x3)] → b_L_law_778 N L xs k18 S g a1 a2 x3 = some ((1 : Int32), S1, g1, k, w) → cells + k = cT → slots + w = wT → W p l e room_1 s m #[Value.ref b] below meth c H locs cells slots (lw_Z below #[Value.ref b] s) (F0 m 778 ls []) := by
  obtain ⟨hx, hb, hr, hml, hown, hts, hXs, hbl, hlk, hgv⟩ := id C0
  have hbA : ¬ (fun q : Nat => lo ≤ q) b := by show ¬ lo ≤ b; omega
  intro H locs ls cells slots k w S g a1 a2 x3 M hE ra1 ra2 hl q hc hs
  unfold b_L_law_778 at q
  refine lv_aload_n hx hb dL_law_778 rfl (lv_at hl 1 rfl) ?_
  refine lv_aload_n hx hb dL_law_779 rfl (lv_at hl 0 rfl) ?_
  refine lv_iload_n hx hb dL_law_780 rfl (lv_at hl 3 rfl) ?_
  refine lv_iconst (v := 1) hx hb dL_law_781 (by decide) ?_
  refine lv_iadd hx hb dL_law_782 ?_
  replace q := ck_s q
  obtain ⟨hin, q⟩ := q
  refine va_sld hx hb hXs hbl hbA M.2.2 (inb_in hin) dL_law_783 ?_
  refine lv_aload_n hx hb dL_law_784 rfl (lv_at hl 0 rfl) ?_
  refine lv_iload_n hx hb dL_law_785 rfl (lv_at hl 3 rfl) ?_
  refine lv_iconst (v := 2) hx hb dL_law_786 (by decide) ?_
  refine lv_iadd hx hb dL_law_787 ?_
  replace q := ck_s q
  obtain ⟨hin, q⟩ := q
  refine va_sld hx hb hXs hbl hbA M.2.2 (inb_in hin) dL_law_788 ?_
  refine lv_aload_n hx hb dL_law_789 rfl (lv_at hl 0 rfl) ?_
  refine lv_iload_n hx hb dL_law_790 rfl (lv_at hl 3 rfl) ?_
  refine lv_iconst (v := 3) hx hb dL_law_791 (by decide) ?_
  refine lv_iadd hx hb dL_law_792 ?_
  replace q := ck_s q
  obtain ⟨hin, q⟩ := q
  refine va_sld hx hb hXs hbl hbA M.2.2 (inb_in hin) dL_law_793 ?_
  refine lv_aload_n hx hb dL_law_794 rfl (lv_at hl 0 rfl) ?_
  refine lv_iload_n hx hb dL_law_795 rfl (lv_at hl 3 rfl) ?_
  refine lv_iconst (v := 4) hx hb dL_law_796 (by decide) ?_
  refine lv_iadd hx hb dL_law_797 ?_
  replace q := ck_s q
  obtain ⟨hin, q⟩ := q
  refine va_sld hx hb hXs hbl hbA M.2.2 (inb_in hin) dL_law_798 ?_
  refine lv_aload_n hx hb dL_law_799 rfl (lv_at hl 0 rfl) ?_
  refine lv_iload_n hx hb dL_law_800 rfl (lv_at hl 3 rfl) ?_
  refine lv_iconst (v := 5) hx hb dL_law_801 (by decide) ?_
  refine lv_iadd hx hb dL_law_802 ?_
  replace q := ck_s q
  obtain ⟨hin, q⟩ := q
  refine va_sld hx hb hXs hbl hbA M.2.2 (inb_in hin) dL_law_803 ?_
  replace q := c5_s q
  obtain ⟨x_2, S_3, g_1, k_4, w_5, k_6, w_7, qc, ek, ew, q⟩ := q
  refine x_callV hx hb hml hl.1 hown hX M (As := [.int (xs (x3 + (1 : Int32)).toNatClampNeg), .int (xs (x3 + (2 : Int32)).toNatClampNeg), .int (xs (x3 + (3 : Int32)).toNatClampNeg), .int (xs (x3 + (4 : Int32)).toNatClampNeg), .int (xs (x3 + (5 : Int32)).toNatClampNeg)]) (rest := []) okX11 ra1 rfl kw_800 kw_801 mok_X11_span (c_X11_span ra1 qc (Nat.le_refl 6)) kw_799 rfl rfl dL_law_804 (Nat.le_of_ble_eq_true rfl) ⟨by decide, by decide⟩ (hb_step hc ek hRc) (hb_step hs ew hRs) (fun H locs M hEF => ?_)
  replace ra1 := ra1.ext hEF.1
  replace ra2 := ra2.ext hEF.1
  replace hE := hE.tr hEF.1
  replace hc := hc_step hc ek
  replace hs := hc_step hs ew
  clear ek ew
  refine lv_aload_n hx hb dL_law_807 rfl (lv_at hl 2 rfl) ?_
  refine lv_aload_n hx hb dL_law_808 rfl (lv_at hl 0 rfl) ?_
  refine lv_iload_n hx hb dL_law_809 rfl (lv_at hl 3 rfl) ?_
  refine lv_iconst (v := 1) hx hb dL_law_810 (by decide) ?_
  refine lv_iadd hx hb dL_law_811 ?_
  replace q := ck_s q
  obtain ⟨hin, q⟩ := q
  refine va_sld hx hb hXs hbl hbA M.2.2 (inb_in hin) dL_law_812 ?_
  refine lv_aload_n hx hb dL_law_813 rfl (lv_at hl 0 rfl) ?_
  refine lv_iload_n hx hb dL_law_814 rfl (lv_at hl 3 rfl) ?_
  refine lv_iconst (v := 2) hx hb dL_law_815 (by decide) ?_
  refine lv_iadd hx hb dL_law_816 ?_
  replace q := ck_s q
  obtain ⟨hin, q⟩ := q
  refine va_sld hx hb hXs hbl hbA M.2.2 (inb_in hin) dL_law_817 ?_
  refine lv_aload_n hx hb dL_law_818 rfl (lv_at hl 0 rfl) ?_
  refine lv_iload_n hx hb dL_law_819 rfl (lv_at hl 3 rfl) ?_
  refine lv_iconst (v := 3) hx hb dL_law_820 (by decide) ?_
  refine lv_iadd hx hb dL_law_821 ?_
  replace q := ck_s q
  obtain ⟨hin, q⟩ := q
  refine va_sld hx hb hXs hbl hbA M.2.2 (inb_in hin) dL_law_822 ?_
  refine lv_aload_n hx hb dL_law_823 rfl (lv_at hl 0 rfl) ?_
  refine lv_iload_n hx hb dL_law_824 rfl (lv_at hl 3 rfl) ?_
  refine lv_iconst (v := 4) hx hb dL_law_825 (by decide) ?_
  refine lv_iadd hx hb dL_law_826 ?_
  replace q := ck_s q
  obtain ⟨hin, q⟩ := q
  refine va_sld hx hb hXs hbl hbA M.2.2 (inb_in hin) dL_law_827 ?_
  refine lv_aload_n hx hb dL_law_828 rfl (lv_at hl 0 rfl) ?_
  refine lv_iload_n hx hb dL_law_829 rfl (lv_at hl 3 rfl) ?_
  refine lv_iconst (v := 5) hx hb dL_law_830 (by decide) ?_
  refine lv_iadd hx hb dL_law_831 ?_
  replace q := ck_s q
  obtain ⟨hin, q⟩ := q
  refine va_sld hx hb hXs hbl hbA M.2.2 (inb_in hin) dL_law_832 ?_
  replace q := c2_s q
  obtain ⟨x_9, g_8, qc, q⟩ := q
  refine x_callV hx hb hml hl.1 hown hX M (S1 := S_3) (As := [.int (xs (x3 + (1 : Int32)).toNatClampNeg), .int (xs (x3 + (2 : Int32)).toNatClampNeg), .int (xs (x3 + (3 : Int32)).toNatClampNeg), .int (xs (x3 + (4 : Int32)).toNatClampNeg), .int (xs (x3 + (5 : Int32)).toNatClampNeg)]) (rest := [.int x_2]) okX12 ra2 rfl kw_1388 kw_1389 mok_X12_span (c_X12_span ra2 qc (Nat.le_refl 306)) kw_1387 rfl rfl dL_law_833 (Nat.le_of_ble_eq_true rfl) ⟨by decide, by decide⟩ (hz_step hc hRc) (hz_step hs hRs) (fun H locs M hEF => ?_)
  refine lv_icmp_eq (tgt := 1462) hx hb dL_law_836 (by decide) (fun c_10 => ?_) (fun c_10 => ?_)
  · replace q := if_t c_10 q
    exact w_L_law_1462 (N := N) C0 hX hlo hRc hRs hk18 _ _ _ _ _ _ _ _ _ _ _ _ M hE ra1 ra2 (lv_sub hl [0, 1, 2, 3] rfl) q hc hs
  · replace q := if_f c_10 q
    refine lv_iconst (v := 0) hx hb dL_law_839 (by decide) ?_
    exact absurd q (by simp)
set_option maxHeartbeats 4000000 in
set_option maxRecDepth 100000 in
theorem w_L_law_725 {N b L : Nat} {xs : Nat → Int32} (C0 : lw_At p s m meth c b L xs) (hX : Kx D cA lo tS s) (hlo : lo = s.heap.size) {S0 S1 : Hs} {g1 : Hg} {cT wT : Nat} (hRc : cT ≤ room_1.cells) (hRs : wT ≤ room_1.slots) {k18 : Hs → Hg → Nat → Nat → Int32 → Option (Int32 × Hs × Hg × Nat × Nat)} (hk18 : ∀ (H : Heap) (locs : List Loc) (ls : Array Slot) (cells slots k w : Nat) (S : Hs) (g : Hg) (a1 : Nat) (a2 : Nat) (x3 : Int32), Mm D cA lo S g s H locs → Ext lo S0 S → Rf lo S a1 11 → Rf lo S a2 12 → lv_has ls 4 [(0, .ref b), (1, .ref a1), (2, .ref a2), (3, .int x3)] → k18 S g a1 a2 x3 = some ((1 : Int32), S1, g1, k, w) → cells + k = cT → slots + w = wT → W p l e room_1 s m #[Value.ref b] below meth c H locs cells slots (lw_Z below #[Value.ref b] s) (F0 m 18 ls [])) : ∀ (H : Heap) (locs : List Loc) (ls : Array Slot) (cells slots k w : Nat) (S : Hs) (g : Hg) (a1 : Nat) (a2 : Nat) (x3 : Int32), Mm D cA lo S g s H locs → Ext lo S0 S → Rf lo S a1 11 → Rf lo S a2 12 → lv_has ls 4 [(0, .ref b), (1, .ref a1), (2, .ref a2), (3, .int x3)] → b_L_law_725 N L xs k18 S g a1 a2 x3 = some ((1 : Int32), S1, g1, k, w) → cells + k = cT → slots + w = wT → W p l e room_1 s m #[Value.ref b] below meth c H locs cells slots (lw_Z below #[Value.ref b] s) (F0 m 725 ls []) := by
  obtain ⟨hx, hb, hr, hml, hown, hts, hXs, hbl, hlk, hgv⟩ := id C0
  have hbA : ¬ (fun q : Nat => lo ≤ q) b := by show ¬ lo ≤ b; omega
  intro H locs ls cells slots k w S g a1 a2 x3 M hE ra1 ra2 hl q hc hs
  unfold b_L_law_725 at q
  refine lv_aload_n hx hb dL_law_725 rfl (lv_at hl 1 rfl) ?_
  refine lv_aload_n hx hb dL_law_726 rfl (lv_at hl 0 rfl) ?_
  refine lv_iload_n hx hb dL_law_727 rfl (lv_at hl 3 rfl) ?_
  refine lv_iconst (v := 1) hx hb dL_law_728 (by decide) ?_
  refine lv_iadd hx hb dL_law_729 ?_
  replace q := ck_s q
  obtain ⟨hin, q⟩ := q
  refine va_sld hx hb hXs hbl hbA M.2.2 (inb_in hin) dL_law_730 ?_
  refine lv_aload_n hx hb dL_law_731 rfl (lv_at hl 0 rfl) ?_
  refine lv_iload_n hx hb dL_law_732 rfl (lv_at hl 3 rfl) ?_
  refine lv_iconst (v := 2) hx hb dL_law_733 (by decide) ?_
  refine lv_iadd hx hb dL_law_734 ?_
  replace q := ck_s q
  obtain ⟨hin, q⟩ := q
  refine va_sld hx hb hXs hbl hbA M.2.2 (inb_in hin) dL_law_735 ?_
  refine lv_aload_n hx hb dL_law_736 rfl (lv_at hl 0 rfl) ?_
  refine lv_iload_n hx hb dL_law_737 rfl (lv_at hl 3 rfl) ?_
  refine lv_iconst (v := 3) hx hb dL_law_738 (by decide) ?_
  refine lv_iadd hx hb dL_law_739 ?_
  replace q := ck_s q
  obtain ⟨hin, q⟩ := q
  refine va_sld hx hb hXs hbl hbA M.2.2 (inb_in hin) dL_law_740 ?_
  refine lv_aload_n hx hb dL_law_741 rfl (lv_at hl 0 rfl) ?_
  refine lv_iload_n hx hb dL_law_742 rfl (lv_at hl 3 rfl) ?_
  refine lv_iconst (v := 4) hx hb dL_law_743 (by decide) ?_
  refine lv_iadd hx hb dL_law_744 ?_
  replace q := ck_s q
  obtain ⟨hin, q⟩ := q
  refine va_sld hx hb hXs hbl hbA M.2.2 (inb_in hin) dL_law_745 ?_
  replace q := c5_s q
  obtain ⟨x_2, S_3, g_1, k_4, w_5, k_6, w_7, qc, ek, ew, q⟩ := q
  refine x_callV hx hb hml hl.1 hown hX M (As := [.int (xs (x3 + (1 : Int32)).toNatClampNeg), .int (xs (x3 + (2 : Int32)).toNatClampNeg), .int (xs (x3 + (3 : Int32)).toNatClampNeg), .int (xs (x3 + (4 : Int32)).toNatClampNeg)]) (rest := []) okX11 ra1 rfl kw_795 kw_796 mok_X11_absent (c_X11_absent ra1 qc (Nat.le_refl 306)) kw_794 rfl rfl dL_law_746 (Nat.le_of_ble_eq_true rfl) ⟨by decide, by decide⟩ (hb_step hc ek hRc) (hb_step hs ew hRs) (fun H locs M hEF => ?_)
  replace ra1 := ra1.ext hEF.1
  replace ra2 := ra2.ext hEF.1
  replace hE := hE.tr hEF.1
  replace hc := hc_step hc ek
  replace hs := hc_step hs ew
  clear ek ew
  refine lv_aload_n hx hb dL_law_749 rfl (lv_at hl 2 rfl) ?_
  refine lv_aload_n hx hb dL_law_750 rfl (lv_at hl 0 rfl) ?_
  refine lv_iload_n hx hb dL_law_751 rfl (lv_at hl 3 rfl) ?_
  refine lv_iconst (v := 1) hx hb dL_law_752 (by decide) ?_
  refine lv_iadd hx hb dL_law_753 ?_
  replace q := ck_s q
  obtain ⟨hin, q⟩ := q
  refine va_sld hx hb hXs hbl hbA M.2.2 (inb_in hin) dL_law_754 ?_
  refine lv_aload_n hx hb dL_law_755 rfl (lv_at hl 0 rfl) ?_
  refine lv_iload_n hx hb dL_law_756 rfl (lv_at hl 3 rfl) ?_
  refine lv_iconst (v := 2) hx hb dL_law_757 (by decide) ?_
  refine lv_iadd hx hb dL_law_758 ?_
  replace q := ck_s q
  obtain ⟨hin, q⟩ := q
  refine va_sld hx hb hXs hbl hbA M.2.2 (inb_in hin) dL_law_759 ?_
  refine lv_aload_n hx hb dL_law_760 rfl (lv_at hl 0 rfl) ?_
  refine lv_iload_n hx hb dL_law_761 rfl (lv_at hl 3 rfl) ?_
  refine lv_iconst (v := 3) hx hb dL_law_762 (by decide) ?_
  refine lv_iadd hx hb dL_law_763 ?_
  replace q := ck_s q
  obtain ⟨hin, q⟩ := q
  refine va_sld hx hb hXs hbl hbA M.2.2 (inb_in hin) dL_law_764 ?_
  refine lv_aload_n hx hb dL_law_765 rfl (lv_at hl 0 rfl) ?_
  refine lv_iload_n hx hb dL_law_766 rfl (lv_at hl 3 rfl) ?_
  refine lv_iconst (v := 4) hx hb dL_law_767 (by decide) ?_
  refine lv_iadd hx hb dL_law_768 ?_
  replace q := ck_s q
  obtain ⟨hin, q⟩ := q
  refine va_sld hx hb hXs hbl hbA M.2.2 (inb_in hin) dL_law_769 ?_
  replace q := c2_s q
  obtain ⟨x_9, g_8, qc, q⟩ := q
  refine x_callV hx hb hml hl.1 hown hX M (S1 := S_3) (As := [.int (xs (x3 + (1 : Int32)).toNatClampNeg), .int (xs (x3 + (2 : Int32)).toNatClampNeg), .int (xs (x3 + (3 : Int32)).toNatClampNeg), .int (xs (x3 + (4 : Int32)).toNatClampNeg)]) (rest := [.int x_2]) okX12 ra2 rfl kw_1384 kw_1385 mok_X12_absent (c_X12_absent ra2 qc (Nat.le_refl 306)) kw_1383 rfl rfl dL_law_770 (Nat.le_of_ble_eq_true rfl) ⟨by decide, by decide⟩ (hz_step hc hRc) (hz_step hs hRs) (fun H locs M hEF => ?_)
  refine lv_icmp_eq (tgt := 1462) hx hb dL_law_773 (by decide) (fun c_10 => ?_) (fun c_10 => ?_)
  · replace q := if_t c_10 q
    exact w_L_law_1462 (N := N) C0 hX hlo hRc hRs hk18 _ _ _ _ _ _ _ _ _ _ _ _ M hE ra1 ra2 (lv_sub hl [0, 1, 2, 3] rfl) q hc hs
  · replace q := if_f c_10 q
    refine lv_iconst (v := 0) hx hb dL_law_776 (by decide) ?_
    exact absurd q (by simp)
set_option maxHeartbeats 4000000 in
set_option maxRecDepth 100000 in
theorem w_L_law_672 {N b L : Nat} {xs : Nat → Int32} (C0 : lw_At p s m meth c b L xs) (hX : Kx D cA lo tS s) (hlo : lo = s.heap.size) {S0 S1 : Hs} {g1 : Hg} {cT wT : Nat} (hRc : cT ≤ room_1.cells) (hRs : wT ≤ room_1.slots) {k18 : Hs → Hg → Nat → Nat → Int32 → Option (Int32 × Hs × Hg × Nat × Nat)} (hk18 : ∀ (H : Heap) (locs : List Loc) (ls : Array Slot) (cells slots k w : Nat) (S : Hs) (g : Hg) (a1 : Nat) (a2 : Nat) (x3 : Int32), Mm D cA lo S g s H locs → Ext lo S0 S → Rf lo S a1 11 → Rf lo S a2 12 → lv_has ls 4 [(0, .ref b), (1, .ref a1), (2, .ref a2), (3, .int x3)] → k18 S g a1 a2 x3 = some ((1 : Int32), S1, g1, k, w) → cells + k = cT → slots + w = wT → W p l e room_1 s m #[Value.ref b] below meth c H locs cells slots (lw_Z below #[Value.ref b] s) (F0 m 18 ls [])) : ∀ (H : Heap) (locs : List Loc) (ls : Array Slot) (cells slots k w : Nat) (S : Hs) (g : Hg) (a1 : Nat) (a2 : Nat) (x3 : Int32), Mm D cA lo S g s H locs → Ext lo S0 S → Rf lo S a1 11 → Rf lo S a2 12 → lv_has ls 4 [(0, .ref b), (1, .ref a1), (2, .ref a2), (3, .int x3)] → b_L_law_672 N L xs k18 S g a1 a2 x3 = some ((1 : Int32), S1, g1, k, w) → cells + k = cT → slots + w = wT → W p l e room_1 s m #[Value.ref b] below meth c H locs cells slots (lw_Z below #[Value.ref b] s) (F0 m 672 ls []) := by
  obtain ⟨hx, hb, hr, hml, hown, hts, hXs, hbl, hlk, hgv⟩ := id C0
  have hbA : ¬ (fun q : Nat => lo ≤ q) b := by show ¬ lo ≤ b; omega
  intro H locs ls cells slots k w S g a1 a2 x3 M hE ra1 ra2 hl q hc hs
  unfold b_L_law_672 at q
  refine lv_aload_n hx hb dL_law_672 rfl (lv_at hl 1 rfl) ?_
  refine lv_aload_n hx hb dL_law_673 rfl (lv_at hl 0 rfl) ?_
  refine lv_iload_n hx hb dL_law_674 rfl (lv_at hl 3 rfl) ?_
  refine lv_iconst (v := 1) hx hb dL_law_675 (by decide) ?_
  refine lv_iadd hx hb dL_law_676 ?_
  replace q := ck_s q
  obtain ⟨hin, q⟩ := q
  refine va_sld hx hb hXs hbl hbA M.2.2 (inb_in hin) dL_law_677 ?_
  refine lv_aload_n hx hb dL_law_678 rfl (lv_at hl 0 rfl) ?_
  refine lv_iload_n hx hb dL_law_679 rfl (lv_at hl 3 rfl) ?_
  refine lv_iconst (v := 2) hx hb dL_law_680 (by decide) ?_
  refine lv_iadd hx hb dL_law_681 ?_
  replace q := ck_s q
  obtain ⟨hin, q⟩ := q
  refine va_sld hx hb hXs hbl hbA M.2.2 (inb_in hin) dL_law_682 ?_
  refine lv_aload_n hx hb dL_law_683 rfl (lv_at hl 0 rfl) ?_
  refine lv_iload_n hx hb dL_law_684 rfl (lv_at hl 3 rfl) ?_
  refine lv_iconst (v := 3) hx hb dL_law_685 (by decide) ?_
  refine lv_iadd hx hb dL_law_686 ?_
  replace q := ck_s q
  obtain ⟨hin, q⟩ := q
  refine va_sld hx hb hXs hbl hbA M.2.2 (inb_in hin) dL_law_687 ?_
  refine lv_aload_n hx hb dL_law_688 rfl (lv_at hl 0 rfl) ?_
  refine lv_iload_n hx hb dL_law_689 rfl (lv_at hl 3 rfl) ?_
  refine lv_iconst (v := 4) hx hb dL_law_690 (by decide) ?_
  refine lv_iadd hx hb dL_law_691 ?_
  replace q := ck_s q
  obtain ⟨hin, q⟩ := q
  refine va_sld hx hb hXs hbl hbA M.2.2 (inb_in hin) dL_law_692 ?_
  replace q := c5_s q
  obtain ⟨x_2, S_3, g_1, k_4, w_5, k_6, w_7, qc, ek, ew, q⟩ := q
  refine x_callV hx hb hml hl.1 hown hX M (As := [.int (xs (x3 + (1 : Int32)).toNatClampNeg), .int (xs (x3 + (2 : Int32)).toNatClampNeg), .int (xs (x3 + (3 : Int32)).toNatClampNeg), .int (xs (x3 + (4 : Int32)).toNatClampNeg)]) (rest := []) okX11 ra1 rfl kw_785 kw_786 mok_X11_held (c_X11_held ra1 qc (Nat.le_refl 306)) kw_784 rfl rfl dL_law_693 (Nat.le_of_ble_eq_true rfl) ⟨by decide, by decide⟩ (hb_step hc ek hRc) (hb_step hs ew hRs) (fun H locs M hEF => ?_)
  replace ra1 := ra1.ext hEF.1
  replace ra2 := ra2.ext hEF.1
  replace hE := hE.tr hEF.1
  replace hc := hc_step hc ek
  replace hs := hc_step hs ew
  clear ek ew
  refine lv_aload_n hx hb dL_law_696 rfl (lv_at hl 2 rfl) ?_
  refine lv_aload_n hx hb dL_law_697 rfl (lv_at hl 0 rfl) ?_
  refine lv_iload_n hx hb dL_law_698 rfl (lv_at hl 3 rfl) ?_
  refine lv_iconst (v := 1) hx hb dL_law_699 (by decide) ?_
  refine lv_iadd hx hb dL_law_700 ?_
  replace q := ck_s q
  obtain ⟨hin, q⟩ := q
  refine va_sld hx hb hXs hbl hbA M.2.2 (inb_in hin) dL_law_701 ?_
  refine lv_aload_n hx hb dL_law_702 rfl (lv_at hl 0 rfl) ?_
  refine lv_iload_n hx hb dL_law_703 rfl (lv_at hl 3 rfl) ?_
  refine lv_iconst (v := 2) hx hb dL_law_704 (by decide) ?_
  refine lv_iadd hx hb dL_law_705 ?_
  replace q := ck_s q
  obtain ⟨hin, q⟩ := q
  refine va_sld hx hb hXs hbl hbA M.2.2 (inb_in hin) dL_law_706 ?_
  refine lv_aload_n hx hb dL_law_707 rfl (lv_at hl 0 rfl) ?_
  refine lv_iload_n hx hb dL_law_708 rfl (lv_at hl 3 rfl) ?_
  refine lv_iconst (v := 3) hx hb dL_law_709 (by decide) ?_
  refine lv_iadd hx hb dL_law_710 ?_
  replace q := ck_s q
  obtain ⟨hin, q⟩ := q
  refine va_sld hx hb hXs hbl hbA M.2.2 (inb_in hin) dL_law_711 ?_
  refine lv_aload_n hx hb dL_law_712 rfl (lv_at hl 0 rfl) ?_
  refine lv_iload_n hx hb dL_law_713 rfl (lv_at hl 3 rfl) ?_
  refine lv_iconst (v := 4) hx hb dL_law_714 (by decide) ?_
  refine lv_iadd hx hb dL_law_715 ?_
  replace q := ck_s q
  obtain ⟨hin, q⟩ := q
  refine va_sld hx hb hXs hbl hbA M.2.2 (inb_in hin) dL_law_716 ?_
  replace q := c2_s q
  obtain ⟨x_9, g_8, qc, q⟩ := q
  refine x_callV hx hb hml hl.1 hown hX M (S1 := S_3) (As := [.int (xs (x3 + (1 : Int32)).toNatClampNeg), .int (xs (x3 + (2 : Int32)).toNatClampNeg), .int (xs (x3 + (3 : Int32)).toNatClampNeg), .int (xs (x3 + (4 : Int32)).toNatClampNeg)]) (rest := [.int x_2]) okX12 ra2 rfl kw_1376 kw_1377 mok_X12_held (c_X12_held ra2 qc (Nat.le_refl 306)) kw_1375 rfl rfl dL_law_717 (Nat.le_of_ble_eq_true rfl) ⟨by decide, by decide⟩ (hz_step hc hRc) (hz_step hs hRs) (fun H locs M hEF => ?_)
  refine lv_icmp_eq (tgt := 1462) hx hb dL_law_720 (by decide) (fun c_10 => ?_) (fun c_10 => ?_)
  · replace q := if_t c_10 q
    exact w_L_law_1462 (N := N) C0 hX hlo hRc hRs hk18 _ _ _ _ _ _ _ _ _ _ _ _ M hE ra1 ra2 (lv_sub hl [0, 1, 2, 3] rfl) q hc hs
  · replace q := if_f c_10 q
    refine lv_iconst (v := 0) hx hb dL_law_723 (by decide) ?_
    exact absurd q (by simp)
set_option maxHeartbeats 4000000 in
set_option maxRecDepth 100000 in
theorem w_L_law_619 {N b L : Nat} {xs : Nat → Int32} (C0 : lw_At p s m meth c b L xs) (hX : Kx D cA lo tS s) (hlo : lo = s.heap.size) {S0 S1 : Hs} {g1 : Hg} {cT wT : Nat} (hRc : cT ≤ room_1.cells) (hRs : wT ≤ room_1.slots) {k18 : Hs → Hg → Nat → Nat → Int32 → Option (Int32 × Hs × Hg × Nat × Nat)} (hk18 : ∀ (H : Heap) (locs : List Loc) (ls : Array Slot) (cells slots k w : Nat) (S : Hs) (g : Hg) (a1 : Nat) (a2 : Nat) (x3 : Int32), Mm D cA lo S g s H locs → Ext lo S0 S → Rf lo S a1 11 → Rf lo S a2 12 → lv_has ls 4 [(0, .ref b), (1, .ref a1), (2, .ref a2), (3, .int x3)] → k18 S g a1 a2 x3 = some ((1 : Int32), S1, g1, k, w) → cells + k = cT → slots + w = wT → W p l e room_1 s m #[Value.ref b] below meth c H locs cells slots (lw_Z below #[Value.ref b] s) (F0 m 18 ls [])) : ∀ (H : Heap) (locs : List Loc) (ls : Array Slot) (cells slots k w : Nat) (S : Hs) (g : Hg) (a1 : Nat) (a2 : Nat) (x3 : Int32), Mm D cA lo S g s H locs → Ext lo S0 S → Rf lo S a1 11 → Rf lo S a2 12 → lv_has ls 4 [(0, .ref b), (1, .ref a1), (2, .ref a2), (3, .int x3)] → b_L_law_619 N L xs k18 S g a1 a2 x3 = some ((1 : Int32), S1, g1, k, w) → cells + k = cT → slots + w = wT → W p l e room_1 s m #[Value.ref b] below meth c H locs cells slots (lw_Z below #[Value.ref b] s) (F0 m 619 ls []) := by
  obtain ⟨hx, hb, hr, hml, hown, hts, hXs, hbl, hlk, hgv⟩ := id C0
  have hbA : ¬ (fun q : Nat => lo ≤ q) b := by show ¬ lo ≤ b; omega
  intro H locs ls cells slots k w S g a1 a2 x3 M hE ra1 ra2 hl q hc hs
  unfold b_L_law_619 at q
  refine lv_aload_n hx hb dL_law_619 rfl (lv_at hl 1 rfl) ?_
  refine lv_aload_n hx hb dL_law_620 rfl (lv_at hl 0 rfl) ?_
  refine lv_iload_n hx hb dL_law_621 rfl (lv_at hl 3 rfl) ?_
  refine lv_iconst (v := 1) hx hb dL_law_622 (by decide) ?_
  refine lv_iadd hx hb dL_law_623 ?_
  replace q := ck_s q
  obtain ⟨hin, q⟩ := q
  refine va_sld hx hb hXs hbl hbA M.2.2 (inb_in hin) dL_law_624 ?_
  refine lv_aload_n hx hb dL_law_625 rfl (lv_at hl 0 rfl) ?_
  refine lv_iload_n hx hb dL_law_626 rfl (lv_at hl 3 rfl) ?_
  refine lv_iconst (v := 2) hx hb dL_law_627 (by decide) ?_
  refine lv_iadd hx hb dL_law_628 ?_
  replace q := ck_s q
  obtain ⟨hin, q⟩ := q
  refine va_sld hx hb hXs hbl hbA M.2.2 (inb_in hin) dL_law_629 ?_
  refine lv_aload_n hx hb dL_law_630 rfl (lv_at hl 0 rfl) ?_
  refine lv_iload_n hx hb dL_law_631 rfl (lv_at hl 3 rfl) ?_
  refine lv_iconst (v := 3) hx hb dL_law_632 (by decide) ?_
  refine lv_iadd hx hb dL_law_633 ?_
  replace q := ck_s q
  obtain ⟨hin, q⟩ := q
  refine va_sld hx hb hXs hbl hbA M.2.2 (inb_in hin) dL_law_634 ?_
  refine lv_aload_n hx hb dL_law_635 rfl (lv_at hl 0 rfl) ?_
  refine lv_iload_n hx hb dL_law_636 rfl (lv_at hl 3 rfl) ?_
  refine lv_iconst (v := 4) hx hb dL_law_637 (by decide) ?_
  refine lv_iadd hx hb dL_law_638 ?_
  replace q := ck_s q
  obtain ⟨hin, q⟩ := q
  refine va_sld hx hb hXs hbl hbA M.2.2 (inb_in hin) dL_law_639 ?_
  replace q := c5_s q
  obtain ⟨x_2, S_3, g_1, k_4, w_5, k_6, w_7, qc, ek, ew, q⟩ := q
  refine x_callV hx hb hml hl.1 hown hX M (As := [.int (xs (x3 + (1 : Int32)).toNatClampNeg), .int (xs (x3 + (2 : Int32)).toNatClampNeg), .int (xs (x3 + (3 : Int32)).toNatClampNeg), .int (xs (x3 + (4 : Int32)).toNatClampNeg)]) (rest := []) okX11 ra1 rfl kw_776 kw_777 mok_X11_grown (c_X11_grown ra1 qc (Nat.le_refl 6)) kw_775 rfl rfl dL_law_640 (Nat.le_of_ble_eq_true rfl) ⟨by decide, by decide⟩ (hb_step hc ek hRc) (hb_step hs ew hRs) (fun H locs M hEF => ?_)
  replace ra1 := ra1.ext hEF.1
  replace ra2 := ra2.ext hEF.1
  replace hE := hE.tr hEF.1
  replace hc := hc_step hc ek
  replace hs := hc_step hs ew
  clear ek ew
  refine lv_aload_n hx hb dL_law_643 rfl (lv_at hl 2 rfl) ?_
  refine lv_aload_n hx hb dL_law_644 rfl (lv_at hl 0 rfl) ?_
  refine lv_iload_n hx hb dL_law_645 rfl (lv_at hl 3 rfl) ?_
  refine lv_iconst (v := 1) hx hb dL_law_646 (by decide) ?_
  refine lv_iadd hx hb dL_law_647 ?_
  replace q := ck_s q
  obtain ⟨hin, q⟩ := q
  refine va_sld hx hb hXs hbl hbA M.2.2 (inb_in hin) dL_law_648 ?_
  refine lv_aload_n hx hb dL_law_649 rfl (lv_at hl 0 rfl) ?_
  refine lv_iload_n hx hb dL_law_650 rfl (lv_at hl 3 rfl) ?_
  refine lv_iconst (v := 2) hx hb dL_law_651 (by decide) ?_
  refine lv_iadd hx hb dL_law_652 ?_
  replace q := ck_s q
  obtain ⟨hin, q⟩ := q
  refine va_sld hx hb hXs hbl hbA M.2.2 (inb_in hin) dL_law_653 ?_
  refine lv_aload_n hx hb dL_law_654 rfl (lv_at hl 0 rfl) ?_
  refine lv_iload_n hx hb dL_law_655 rfl (lv_at hl 3 rfl) ?_
  refine lv_iconst (v := 3) hx hb dL_law_656 (by decide) ?_
  refine lv_iadd hx hb dL_law_657 ?_
  replace q := ck_s q
  obtain ⟨hin, q⟩ := q
  refine va_sld hx hb hXs hbl hbA M.2.2 (inb_in hin) dL_law_658 ?_
  refine lv_aload_n hx hb dL_law_659 rfl (lv_at hl 0 rfl) ?_
  refine lv_iload_n hx hb dL_law_660 rfl (lv_at hl 3 rfl) ?_
  refine lv_iconst (v := 4) hx hb dL_law_661 (by decide) ?_
  refine lv_iadd hx hb dL_law_662 ?_
  replace q := ck_s q
  obtain ⟨hin, q⟩ := q
  refine va_sld hx hb hXs hbl hbA M.2.2 (inb_in hin) dL_law_663 ?_
  replace q := c2_s q
  obtain ⟨x_9, g_8, qc, q⟩ := q
  refine x_callV hx hb hml hl.1 hown hX M (S1 := S_3) (As := [.int (xs (x3 + (1 : Int32)).toNatClampNeg), .int (xs (x3 + (2 : Int32)).toNatClampNeg), .int (xs (x3 + (3 : Int32)).toNatClampNeg), .int (xs (x3 + (4 : Int32)).toNatClampNeg)]) (rest := [.int x_2]) okX12 ra2 rfl kw_1372 kw_1373 mok_X12_grown (c_X12_grown ra2 qc (Nat.le_refl 306)) kw_1371 rfl rfl dL_law_664 (Nat.le_of_ble_eq_true rfl) ⟨by decide, by decide⟩ (hz_step hc hRc) (hz_step hs hRs) (fun H locs M hEF => ?_)
  refine lv_icmp_eq (tgt := 1462) hx hb dL_law_667 (by decide) (fun c_10 => ?_) (fun c_10 => ?_)
  · replace q := if_t c_10 q
    exact w_L_law_1462 (N := N) C0 hX hlo hRc hRs hk18 _ _ _ _ _ _ _ _ _ _ _ _ M hE ra1 ra2 (lv_sub hl [0, 1, 2, 3] rfl) q hc hs
  · replace q := if_f c_10 q
    refine lv_iconst (v := 0) hx hb dL_law_670 (by decide) ?_
    exact absurd q (by simp)
set_option maxHeartbeats 4000000 in
set_option maxRecDepth 100000 in
theorem w_L_law_566 {N b L : Nat} {xs : Nat → Int32} (C0 : lw_At p s m meth c b L xs) (hX : Kx D cA lo tS s) (hlo : lo = s.heap.size) {S0 S1 : Hs} {g1 : Hg} {cT wT : Nat} (hRc : cT ≤ room_1.cells) (hRs : wT ≤ room_1.slots) {k18 : Hs → Hg → Nat → Nat → Int32 → Option (Int32 × Hs × Hg × Nat × Nat)} (hk18 : ∀ (H : Heap) (locs : List Loc) (ls : Array Slot) (cells slots k w : Nat) (S : Hs) (g : Hg) (a1 : Nat) (a2 : Nat) (x3 : Int32), Mm D cA lo S g s H locs → Ext lo S0 S → Rf lo S a1 11 → Rf lo S a2 12 → lv_has ls 4 [(0, .ref b), (1, .ref a1), (2, .ref a2), (3, .int x3)] → k18 S g a1 a2 x3 = some ((1 : Int32), S1, g1, k, w) → cells + k = cT → slots + w = wT → W p l e room_1 s m #[Value.ref b] below meth c H locs cells slots (lw_Z below #[Value.ref b] s) (F0 m 18 ls [])) : ∀ (H : Heap) (locs : List Loc) (ls : Array Slot) (cells slots k w : Nat) (S : Hs) (g : Hg) (a1 : Nat) (a2 : Nat) (x3 : Int32), Mm D cA lo S g s H locs → Ext lo S0 S → Rf lo S a1 11 → Rf lo S a2 12 → lv_has ls 4 [(0, .ref b), (1, .ref a1), (2, .ref a2), (3, .int x3)] → b_L_law_566 N L xs k18 S g a1 a2 x3 = some ((1 : Int32), S1, g1, k, w) → cells + k = cT → slots + w = wT → W p l e room_1 s m #[Value.ref b] below meth c H locs cells slots (lw_Z below #[Value.ref b] s) (F0 m 566 ls []) := by
  obtain ⟨hx, hb, hr, hml, hown, hts, hXs, hbl, hlk, hgv⟩ := id C0
  have hbA : ¬ (fun q : Nat => lo ≤ q) b := by show ¬ lo ≤ b; omega
  intro H locs ls cells slots k w S g a1 a2 x3 M hE ra1 ra2 hl q hc hs
  unfold b_L_law_566 at q
  refine lv_aload_n hx hb dL_law_566 rfl (lv_at hl 1 rfl) ?_
  refine lv_aload_n hx hb dL_law_567 rfl (lv_at hl 0 rfl) ?_
  refine lv_iload_n hx hb dL_law_568 rfl (lv_at hl 3 rfl) ?_
  refine lv_iconst (v := 1) hx hb dL_law_569 (by decide) ?_
  refine lv_iadd hx hb dL_law_570 ?_
  replace q := ck_s q
  obtain ⟨hin, q⟩ := q
  refine va_sld hx hb hXs hbl hbA M.2.2 (inb_in hin) dL_law_571 ?_
  refine lv_aload_n hx hb dL_law_572 rfl (lv_at hl 0 rfl) ?_
  refine lv_iload_n hx hb dL_law_573 rfl (lv_at hl 3 rfl) ?_
  refine lv_iconst (v := 2) hx hb dL_law_574 (by decide) ?_
  refine lv_iadd hx hb dL_law_575 ?_
  replace q := ck_s q
  obtain ⟨hin, q⟩ := q
  refine va_sld hx hb hXs hbl hbA M.2.2 (inb_in hin) dL_law_576 ?_
  refine lv_aload_n hx hb dL_law_577 rfl (lv_at hl 0 rfl) ?_
  refine lv_iload_n hx hb dL_law_578 rfl (lv_at hl 3 rfl) ?_
  refine lv_iconst (v := 3) hx hb dL_law_579 (by decide) ?_
  refine lv_iadd hx hb dL_law_580 ?_
  replace q := ck_s q
  obtain ⟨hin, q⟩ := q
  refine va_sld hx hb hXs hbl hbA M.2.2 (inb_in hin) dL_law_581 ?_
  refine lv_aload_n hx hb dL_law_582 rfl (lv_at hl 0 rfl) ?_
  refine lv_iload_n hx hb dL_law_583 rfl (lv_at hl 3 rfl) ?_
  refine lv_iconst (v := 4) hx hb dL_law_584 (by decide) ?_
  refine lv_iadd hx hb dL_law_585 ?_
  replace q := ck_s q
  obtain ⟨hin, q⟩ := q
  refine va_sld hx hb hXs hbl hbA M.2.2 (inb_in hin) dL_law_586 ?_
  replace q := c5_s q
  obtain ⟨x_2, S_3, g_1, k_4, w_5, k_6, w_7, qc, ek, ew, q⟩ := q
  refine x_callV hx hb hml hl.1 hown hX M (As := [.int (xs (x3 + (1 : Int32)).toNatClampNeg), .int (xs (x3 + (2 : Int32)).toNatClampNeg), .int (xs (x3 + (3 : Int32)).toNatClampNeg), .int (xs (x3 + (4 : Int32)).toNatClampNeg)]) (rest := []) okX11 ra1 rfl kw_728 kw_729 mok_X11_within (c_X11_within ra1 qc (Nat.le_refl 6)) kw_727 rfl rfl dL_law_587 (Nat.le_of_ble_eq_true rfl) ⟨by decide, by decide⟩ (hb_step hc ek hRc) (hb_step hs ew hRs) (fun H locs M hEF => ?_)
  replace ra1 := ra1.ext hEF.1
  replace ra2 := ra2.ext hEF.1
  replace hE := hE.tr hEF.1
  replace hc := hc_step hc ek
  replace hs := hc_step hs ew
  clear ek ew
  refine lv_aload_n hx hb dL_law_590 rfl (lv_at hl 2 rfl) ?_
  refine lv_aload_n hx hb dL_law_591 rfl (lv_at hl 0 rfl) ?_
  refine lv_iload_n hx hb dL_law_592 rfl (lv_at hl 3 rfl) ?_
  refine lv_iconst (v := 1) hx hb dL_law_593 (by decide) ?_
  refine lv_iadd hx hb dL_law_594 ?_
  replace q := ck_s q
  obtain ⟨hin, q⟩ := q
  refine va_sld hx hb hXs hbl hbA M.2.2 (inb_in hin) dL_law_595 ?_
  refine lv_aload_n hx hb dL_law_596 rfl (lv_at hl 0 rfl) ?_
  refine lv_iload_n hx hb dL_law_597 rfl (lv_at hl 3 rfl) ?_
  refine lv_iconst (v := 2) hx hb dL_law_598 (by decide) ?_
  refine lv_iadd hx hb dL_law_599 ?_
  replace q := ck_s q
  obtain ⟨hin, q⟩ := q
  refine va_sld hx hb hXs hbl hbA M.2.2 (inb_in hin) dL_law_600 ?_
  refine lv_aload_n hx hb dL_law_601 rfl (lv_at hl 0 rfl) ?_
  refine lv_iload_n hx hb dL_law_602 rfl (lv_at hl 3 rfl) ?_
  refine lv_iconst (v := 3) hx hb dL_law_603 (by decide) ?_
  refine lv_iadd hx hb dL_law_604 ?_
  replace q := ck_s q
  obtain ⟨hin, q⟩ := q
  refine va_sld hx hb hXs hbl hbA M.2.2 (inb_in hin) dL_law_605 ?_
  refine lv_aload_n hx hb dL_law_606 rfl (lv_at hl 0 rfl) ?_
  refine lv_iload_n hx hb dL_law_607 rfl (lv_at hl 3 rfl) ?_
  refine lv_iconst (v := 4) hx hb dL_law_608 (by decide) ?_
  refine lv_iadd hx hb dL_law_609 ?_
  replace q := ck_s q
  obtain ⟨hin, q⟩ := q
  refine va_sld hx hb hXs hbl hbA M.2.2 (inb_in hin) dL_law_610 ?_
  replace q := c2_s q
  obtain ⟨x_9, g_8, qc, q⟩ := q
  refine x_callV hx hb hml hl.1 hown hX M (S1 := S_3) (As := [.int (xs (x3 + (1 : Int32)).toNatClampNeg), .int (xs (x3 + (2 : Int32)).toNatClampNeg), .int (xs (x3 + (3 : Int32)).toNatClampNeg), .int (xs (x3 + (4 : Int32)).toNatClampNeg)]) (rest := [.int x_2]) okX12 ra2 rfl kw_1352 kw_1353 mok_X12_within (c_X12_within ra2 qc (Nat.le_refl 306)) kw_1351 rfl rfl dL_law_611 (Nat.le_of_ble_eq_true rfl) ⟨by decide, by decide⟩ (hz_step hc hRc) (hz_step hs hRs) (fun H locs M hEF => ?_)
  refine lv_icmp_eq (tgt := 1462) hx hb dL_law_614 (by decide) (fun c_10 => ?_) (fun c_10 => ?_)
  · replace q := if_t c_10 q
    exact w_L_law_1462 (N := N) C0 hX hlo hRc hRs hk18 _ _ _ _ _ _ _ _ _ _ _ _ M hE ra1 ra2 (lv_sub hl [0, 1, 2, 3] rfl) q hc hs
  · replace q := if_f c_10 q
    refine lv_iconst (v := 0) hx hb dL_law_617 (by decide) ?_
    exact absurd q (by simp)
set_option maxHeartbeats 4000000 in
set_option maxRecDepth 100000 in
theorem w_L_law_513 {N b L : Nat} {xs : Nat → Int32} (C0 : lw_At p s m meth c b L xs) (hX : Kx D cA lo tS s) (hlo : lo = s.heap.size) {S0 S1 : Hs} {g1 : Hg} {cT wT : Nat} (hRc : cT ≤ room_1.cells) (hRs : wT ≤ room_1.slots) {k18 : Hs → Hg → Nat → Nat → Int32 → Option (Int32 × Hs × Hg × Nat × Nat)} (hk18 : ∀ (H : Heap) (locs : List Loc) (ls : Array Slot) (cells slots k w : Nat) (S : Hs) (g : Hg) (a1 : Nat) (a2 : Nat) (x3 : Int32), Mm D cA lo S g s H locs → Ext lo S0 S → Rf lo S a1 11 → Rf lo S a2 12 → lv_has ls 4 [(0, .ref b), (1, .ref a1), (2, .ref a2), (3, .int x3)] → k18 S g a1 a2 x3 = some ((1 : Int32), S1, g1, k, w) → cells + k = cT → slots + w = wT → W p l e room_1 s m #[Value.ref b] below meth c H locs cells slots (lw_Z below #[Value.ref b] s) (F0 m 18 ls [])) : ∀ (H : Heap) (locs : List Loc) (ls : Array Slot) (cells slots k w : Nat) (S : Hs) (g : Hg) (a1 : Nat) (a2 : Nat) (x3 : Int32), Mm D cA lo S g s H locs → Ext lo S0 S → Rf lo S a1 11 → Rf lo S a2 12 → lv_has ls 4 [(0, .ref b), (1, .ref a1), (2, .ref a2), (3, .int x3)] → b_L_law_513 N L xs k18 S g a1 a2 x3 = some ((1 : Int32), S1, g1, k, w) → cells + k = cT → slots + w = wT → W p l e room_1 s m #[Value.ref b] below meth c H locs cells slots (lw_Z below #[Value.ref b] s) (F0 m 513 ls []) := by
  obtain ⟨hx, hb, hr, hml, hown, hts, hXs, hbl, hlk, hgv⟩ := id C0
  have hbA : ¬ (fun q : Nat => lo ≤ q) b := by show ¬ lo ≤ b; omega
  intro H locs ls cells slots k w S g a1 a2 x3 M hE ra1 ra2 hl q hc hs
  unfold b_L_law_513 at q
  refine lv_aload_n hx hb dL_law_513 rfl (lv_at hl 1 rfl) ?_
  refine lv_aload_n hx hb dL_law_514 rfl (lv_at hl 0 rfl) ?_
  refine lv_iload_n hx hb dL_law_515 rfl (lv_at hl 3 rfl) ?_
  refine lv_iconst (v := 1) hx hb dL_law_516 (by decide) ?_
  refine lv_iadd hx hb dL_law_517 ?_
  replace q := ck_s q
  obtain ⟨hin, q⟩ := q
  refine va_sld hx hb hXs hbl hbA M.2.2 (inb_in hin) dL_law_518 ?_
  refine lv_aload_n hx hb dL_law_519 rfl (lv_at hl 0 rfl) ?_
  refine lv_iload_n hx hb dL_law_520 rfl (lv_at hl 3 rfl) ?_
  refine lv_iconst (v := 2) hx hb dL_law_521 (by decide) ?_
  refine lv_iadd hx hb dL_law_522 ?_
  replace q := ck_s q
  obtain ⟨hin, q⟩ := q
  refine va_sld hx hb hXs hbl hbA M.2.2 (inb_in hin) dL_law_523 ?_
  refine lv_aload_n hx hb dL_law_524 rfl (lv_at hl 0 rfl) ?_
  refine lv_iload_n hx hb dL_law_525 rfl (lv_at hl 3 rfl) ?_
  refine lv_iconst (v := 3) hx hb dL_law_526 (by decide) ?_
  refine lv_iadd hx hb dL_law_527 ?_
  replace q := ck_s q
  obtain ⟨hin, q⟩ := q
  refine va_sld hx hb hXs hbl hbA M.2.2 (inb_in hin) dL_law_528 ?_
  refine lv_aload_n hx hb dL_law_529 rfl (lv_at hl 0 rfl) ?_
  refine lv_iload_n hx hb dL_law_530 rfl (lv_at hl 3 rfl) ?_
  refine lv_iconst (v := 4) hx hb dL_law_531 (by decide) ?_
  refine lv_iadd hx hb dL_law_532 ?_
  replace q := ck_s q
  obtain ⟨hin, q⟩ := q
  refine va_sld hx hb hXs hbl hbA M.2.2 (inb_in hin) dL_law_533 ?_
  replace q := c2_s q
  obtain ⟨x_2, g_1, qc, q⟩ := q
  refine x_callV hx hb hml hl.1 hown hX M (S1 := S) (As := [.int (xs (x3 + (1 : Int32)).toNatClampNeg), .int (xs (x3 + (2 : Int32)).toNatClampNeg), .int (xs (x3 + (3 : Int32)).toNatClampNeg), .int (xs (x3 + (4 : Int32)).toNatClampNeg)]) (rest := []) okX11 ra1 rfl kw_643 kw_644 mok_X11_head (c_X11_head ra1 qc (Nat.le_refl 308)) kw_642 rfl rfl dL_law_534 (Nat.le_of_ble_eq_true rfl) ⟨by decide, by decide⟩ (hz_step hc hRc) (hz_step hs hRs) (fun H locs M hEF => ?_)
  refine lv_aload_n hx hb dL_law_537 rfl (lv_at hl 2 rfl) ?_
  refine lv_aload_n hx hb dL_law_538 rfl (lv_at hl 0 rfl) ?_
  refine lv_iload_n hx hb dL_law_539 rfl (lv_at hl 3 rfl) ?_
  refine lv_iconst (v := 1) hx hb dL_law_540 (by decide) ?_
  refine lv_iadd hx hb dL_law_541 ?_
  replace q := ck_s q
  obtain ⟨hin, q⟩ := q
  refine va_sld hx hb hXs hbl hbA M.2.2 (inb_in hin) dL_law_542 ?_
  refine lv_aload_n hx hb dL_law_543 rfl (lv_at hl 0 rfl) ?_
  refine lv_iload_n hx hb dL_law_544 rfl (lv_at hl 3 rfl) ?_
  refine lv_iconst (v := 2) hx hb dL_law_545 (by decide) ?_
  refine lv_iadd hx hb dL_law_546 ?_
  replace q := ck_s q
  obtain ⟨hin, q⟩ := q
  refine va_sld hx hb hXs hbl hbA M.2.2 (inb_in hin) dL_law_547 ?_
  refine lv_aload_n hx hb dL_law_548 rfl (lv_at hl 0 rfl) ?_
  refine lv_iload_n hx hb dL_law_549 rfl (lv_at hl 3 rfl) ?_
  refine lv_iconst (v := 3) hx hb dL_law_550 (by decide) ?_
  refine lv_iadd hx hb dL_law_551 ?_
  replace q := ck_s q
  obtain ⟨hin, q⟩ := q
  refine va_sld hx hb hXs hbl hbA M.2.2 (inb_in hin) dL_law_552 ?_
  refine lv_aload_n hx hb dL_law_553 rfl (lv_at hl 0 rfl) ?_
  refine lv_iload_n hx hb dL_law_554 rfl (lv_at hl 3 rfl) ?_
  refine lv_iconst (v := 4) hx hb dL_law_555 (by decide) ?_
  refine lv_iadd hx hb dL_law_556 ?_
  replace q := ck_s q
  obtain ⟨hin, q⟩ := q
  refine va_sld hx hb hXs hbl hbA M.2.2 (inb_in hin) dL_law_557 ?_
  replace q := c2_s q
  obtain ⟨x_4, g_3, qc, q⟩ := q
  refine x_callV hx hb hml hl.1 hown hX M (S1 := S) (As := [.int (xs (x3 + (1 : Int32)).toNatClampNeg), .int (xs (x3 + (2 : Int32)).toNatClampNeg), .int (xs (x3 + (3 : Int32)).toNatClampNeg), .int (xs (x3 + (4 : Int32)).toNatClampNeg)]) (rest := [.int x_2]) okX12 ra2 rfl kw_1297 kw_1298 mok_X12_head_ (c_X12_head_ ra2 qc (Nat.le_refl 307)) kw_1296 rfl rfl dL_law_558 (Nat.le_of_ble_eq_true rfl) ⟨by decide, by decide⟩ (hz_step hc hRc) (hz_step hs hRs) (fun H locs M hEF => ?_)
  refine lv_icmp_eq (tgt := 1462) hx hb dL_law_561 (by decide) (fun c_5 => ?_) (fun c_5 => ?_)
  · replace q := if_t c_5 q
    exact w_L_law_1462 (N := N) C0 hX hlo hRc hRs hk18 _ _ _ _ _ _ _ _ _ _ _ _ M hE ra1 ra2 (lv_sub hl [0, 1, 2, 3] rfl) q hc hs
  · replace q := if_f c_5 q
    refine lv_iconst (v := 0) hx hb dL_law_564 (by decide) ?_
    exact absurd q (by simp)
set_option maxHeartbeats 4000000 in
set_option maxRecDepth 100000 in
theorem w_L_law_470 {N b L : Nat} {xs : Nat → Int32} (C0 : lw_At p s m meth c b L xs) (hX : Kx D cA lo tS s) (hlo : lo = s.heap.size) {S0 S1 : Hs} {g1 : Hg} {cT wT : Nat} (hRc : cT ≤ room_1.cells) (hRs : wT ≤ room_1.slots) {k18 : Hs → Hg → Nat → Nat → Int32 → Option (Int32 × Hs × Hg × Nat × Nat)} (hk18 : ∀ (H : Heap) (locs : List Loc) (ls : Array Slot) (cells slots k w : Nat) (S : Hs) (g : Hg) (a1 : Nat) (a2 : Nat) (x3 : Int32), Mm D cA lo S g s H locs → Ext lo S0 S → Rf lo S a1 11 → Rf lo S a2 12 → lv_has ls 4 [(0, .ref b), (1, .ref a1), (2, .ref a2), (3, .int x3)] → k18 S g a1 a2 x3 = some ((1 : Int32), S1, g1, k, w) → cells + k = cT → slots + w = wT → W p l e room_1 s m #[Value.ref b] below meth c H locs cells slots (lw_Z below #[Value.ref b] s) (F0 m 18 ls [])) : ∀ (H : Heap) (locs : List Loc) (ls : Array Slot) (cells slots k w : Nat) (S : Hs) (g : Hg) (a1 : Nat) (a2 : Nat) (x3 : Int32), Mm D cA lo S g s H locs → Ext lo S0 S → Rf lo S a1 11 → Rf lo S a2 12 → lv_has ls 4 [(0, .ref b), (1, .ref a1), (2, .ref a2), (3, .int x3)] → b_L_law_470 N L xs k18 S g a1 a2 x3 = some ((1 : Int32), S1, g1, k, w) → cells + k = cT → slots + w = wT → W p l e room_1 s m #[Value.ref b] below meth c H locs cells slots (lw_Z below #[Value.ref b] s) (F0 m 470 ls []) := by
  obtain ⟨hx, hb, hr, hml, hown, hts, hXs, hbl, hlk, hgv⟩ := id C0
  have hbA : ¬ (fun q : Nat => lo ≤ q) b := by show ¬ lo ≤ b; omega
  intro H locs ls cells slots k w S g a1 a2 x3 M hE ra1 ra2 hl q hc hs
  unfold b_L_law_470 at q
  refine lv_aload_n hx hb dL_law_470 rfl (lv_at hl 1 rfl) ?_
  refine lv_aload_n hx hb dL_law_471 rfl (lv_at hl 0 rfl) ?_
  refine lv_iload_n hx hb dL_law_472 rfl (lv_at hl 3 rfl) ?_
  refine lv_iconst (v := 1) hx hb dL_law_473 (by decide) ?_
  refine lv_iadd hx hb dL_law_474 ?_
  replace q := ck_s q
  obtain ⟨hin, q⟩ := q
  refine va_sld hx hb hXs hbl hbA M.2.2 (inb_in hin) dL_law_475 ?_
  refine lv_aload_n hx hb dL_law_476 rfl (lv_at hl 0 rfl) ?_
  refine lv_iload_n hx hb dL_law_477 rfl (lv_at hl 3 rfl) ?_
  refine lv_iconst (v := 2) hx hb dL_law_478 (by decide) ?_
  refine lv_iadd hx hb dL_law_479 ?_
  replace q := ck_s q
  obtain ⟨hin, q⟩ := q
  refine va_sld hx hb hXs hbl hbA M.2.2 (inb_in hin) dL_law_480 ?_
  refine lv_aload_n hx hb dL_law_481 rfl (lv_at hl 0 rfl) ?_
  refine lv_iload_n hx hb dL_law_482 rfl (lv_at hl 3 rfl) ?_
  refine lv_iconst (v := 3) hx hb dL_law_483 (by decide) ?_
  refine lv_iadd hx hb dL_law_484 ?_
  replace q := ck_s q
  obtain ⟨hin, q⟩ := q
  refine va_sld hx hb hXs hbl hbA M.2.2 (inb_in hin) dL_law_485 ?_
  replace q := c2_s q
  obtain ⟨x_2, g_1, qc, q⟩ := q
  refine x_callV hx hb hml hl.1 hown hX M (S1 := S) (As := [.int (xs (x3 + (1 : Int32)).toNatClampNeg), .int (xs (x3 + (2 : Int32)).toNatClampNeg), .int (xs (x3 + (3 : Int32)).toNatClampNeg)]) (rest := []) okX11 ra1 rfl kw_634 kw_635 mok_X11_latest (c_X11_latest ra1 qc (Nat.le_refl 4)) kw_633 rfl rfl dL_law_486 (Nat.le_of_ble_eq_true rfl) ⟨by decide, by decide⟩ (hz_step hc hRc) (hz_step hs hRs) (fun H locs M hEF => ?_)
  refine lv_aload_n hx hb dL_law_489 rfl (lv_at hl 2 rfl) ?_
  refine lv_aload_n hx hb dL_law_490 rfl (lv_at hl 0 rfl) ?_
  refine lv_iload_n hx hb dL_law_491 rfl (lv_at hl 3 rfl) ?_
  refine lv_iconst (v := 1) hx hb dL_law_492 (by decide) ?_
  refine lv_iadd hx hb dL_law_493 ?_
  replace q := ck_s q
  obtain ⟨hin, q⟩ := q
  refine va_sld hx hb hXs hbl hbA M.2.2 (inb_in hin) dL_law_494 ?_
  refine lv_aload_n hx hb dL_law_495 rfl (lv_at hl 0 rfl) ?_
  refine lv_iload_n hx hb dL_law_496 rfl (lv_at hl 3 rfl) ?_
  refine lv_iconst (v := 2) hx hb dL_law_497 (by decide) ?_
  refine lv_iadd hx hb dL_law_498 ?_
  replace q := ck_s q
  obtain ⟨hin, q⟩ := q
  refine va_sld hx hb hXs hbl hbA M.2.2 (inb_in hin) dL_law_499 ?_
  refine lv_aload_n hx hb dL_law_500 rfl (lv_at hl 0 rfl) ?_
  refine lv_iload_n hx hb dL_law_501 rfl (lv_at hl 3 rfl) ?_
  refine lv_iconst (v := 3) hx hb dL_law_502 (by decide) ?_
  refine lv_iadd hx hb dL_law_503 ?_
  replace q := ck_s q
  obtain ⟨hin, q⟩ := q
  refine va_sld hx hb hXs hbl hbA M.2.2 (inb_in hin) dL_law_504 ?_
  replace q := c2_s q
  obtain ⟨x_4, g_3, qc, q⟩ := q
  refine x_callV hx hb hml hl.1 hown hX M (S1 := S) (As := [.int (xs (x3 + (1 : Int32)).toNatClampNeg), .int (xs (x3 + (2 : Int32)).toNatClampNeg), .int (xs (x3 + (3 : Int32)).toNatClampNeg)]) (rest := [.int x_2]) okX12 ra2 rfl kw_1293 kw_1294 mok_X12_latest (c_X12_latest ra2 qc (Nat.le_refl 3)) kw_1292 rfl rfl dL_law_505 (Nat.le_of_ble_eq_true rfl) ⟨by decide, by decide⟩ (hz_step hc hRc) (hz_step hs hRs) (fun H locs M hEF => ?_)
  refine lv_icmp_eq (tgt := 1462) hx hb dL_law_508 (by decide) (fun c_5 => ?_) (fun c_5 => ?_)
  · replace q := if_t c_5 q
    exact w_L_law_1462 (N := N) C0 hX hlo hRc hRs hk18 _ _ _ _ _ _ _ _ _ _ _ _ M hE ra1 ra2 (lv_sub hl [0, 1, 2, 3] rfl) q hc hs
  · replace q := if_f c_5 q
    refine lv_iconst (v := 0) hx hb dL_law_511 (by decide) ?_
    exact absurd q (by simp)
set_option maxHeartbeats 4000000 in
set_option maxRecDepth 100000 in
theorem w_L_law_437 {N b L : Nat} {xs : Nat → Int32} (C0 : lw_At p s m meth c b L xs) (hX : Kx D cA lo tS s) (hlo : lo = s.heap.size) {S0 S1 : Hs} {g1 : Hg} {cT wT : Nat} (hRc : cT ≤ room_1.cells) (hRs : wT ≤ room_1.slots) {k18 : Hs → Hg → Nat → Nat → Int32 → Option (Int32 × Hs × Hg × Nat × Nat)} (hk18 : ∀ (H : Heap) (locs : List Loc) (ls : Array Slot) (cells slots k w : Nat) (S : Hs) (g : Hg) (a1 : Nat) (a2 : Nat) (x3 : Int32), Mm D cA lo S g s H locs → Ext lo S0 S → Rf lo S a1 11 → Rf lo S a2 12 → lv_has ls 4 [(0, .ref b), (1, .ref a1), (2, .ref a2), (3, .int x3)] → k18 S g a1 a2 x3 = some ((1 : Int32), S1, g1, k, w) → cells + k = cT → slots + w = wT → W p l e room_1 s m #[Value.ref b] below meth c H locs cells slots (lw_Z below #[Value.ref b] s) (F0 m 18 ls [])) : ∀ (H : Heap) (locs : List Loc) (ls : Array Slot) (cells slots k w : Nat) (S : Hs) (g : Hg) (a1 : Nat) (a2 : Nat) (x3 : Int32), Mm D cA lo S g s H locs → Ext lo S0 S → Rf lo S a1 11 → Rf lo S a2 12 → lv_has ls 4 [(0, .ref b), (1, .ref a1), (2, .ref a2), (3, .int x3)] → b_L_law_437 N L xs k18 S g a1 a2 x3 = some ((1 : Int32), S1, g1, k, w) → cells + k = cT → slots + w = wT → W p l e room_1 s m #[Value.ref b] below meth c H locs cells slots (lw_Z below #[Value.ref b] s) (F0 m 437 ls []) := by
  obtain ⟨hx, hb, hr, hml, hown, hts, hXs, hbl, hlk, hgv⟩ := id C0
  have hbA : ¬ (fun q : Nat => lo ≤ q) b := by show ¬ lo ≤ b; omega
  intro H locs ls cells slots k w S g a1 a2 x3 M hE ra1 ra2 hl q hc hs
  unfold b_L_law_437 at q
  refine lv_aload_n hx hb dL_law_437 rfl (lv_at hl 1 rfl) ?_
  refine lv_aload_n hx hb dL_law_438 rfl (lv_at hl 0 rfl) ?_
  refine lv_iload_n hx hb dL_law_439 rfl (lv_at hl 3 rfl) ?_
  refine lv_iconst (v := 1) hx hb dL_law_440 (by decide) ?_
  refine lv_iadd hx hb dL_law_441 ?_
  replace q := ck_s q
  obtain ⟨hin, q⟩ := q
  refine va_sld hx hb hXs hbl hbA M.2.2 (inb_in hin) dL_law_442 ?_
  refine lv_aload_n hx hb dL_law_443 rfl (lv_at hl 0 rfl) ?_
  refine lv_iload_n hx hb dL_law_444 rfl (lv_at hl 3 rfl) ?_
  refine lv_iconst (v := 2) hx hb dL_law_445 (by decide) ?_
  refine lv_iadd hx hb dL_law_446 ?_
  replace q := ck_s q
  obtain ⟨hin, q⟩ := q
  refine va_sld hx hb hXs hbl hbA M.2.2 (inb_in hin) dL_law_447 ?_
  replace q := c2_s q
  obtain ⟨x_2, g_1, qc, q⟩ := q
  refine x_callV hx hb hml hl.1 hown hX M (S1 := S) (As := [.int (xs (x3 + (1 : Int32)).toNatClampNeg), .int (xs (x3 + (2 : Int32)).toNatClampNeg)]) (rest := []) okX11 ra1 rfl kw_607 kw_608 mok_X11_count (c_X11_count ra1 qc (Nat.le_refl 4)) kw_606 rfl rfl dL_law_448 (Nat.le_of_ble_eq_true rfl) ⟨by decide, by decide⟩ (hz_step hc hRc) (hz_step hs hRs) (fun H locs M hEF => ?_)
  refine lv_aload_n hx hb dL_law_451 rfl (lv_at hl 2 rfl) ?_
  refine lv_aload_n hx hb dL_law_452 rfl (lv_at hl 0 rfl) ?_
  refine lv_iload_n hx hb dL_law_453 rfl (lv_at hl 3 rfl) ?_
  refine lv_iconst (v := 1) hx hb dL_law_454 (by decide) ?_
  refine lv_iadd hx hb dL_law_455 ?_
  replace q := ck_s q
  obtain ⟨hin, q⟩ := q
  refine va_sld hx hb hXs hbl hbA M.2.2 (inb_in hin) dL_law_456 ?_
  refine lv_aload_n hx hb dL_law_457 rfl (lv_at hl 0 rfl) ?_
  refine lv_iload_n hx hb dL_law_458 rfl (lv_at hl 3 rfl) ?_
  refine lv_iconst (v := 2) hx hb dL_law_459 (by decide) ?_
  refine lv_iadd hx hb dL_law_460 ?_
  replace q := ck_s q
  obtain ⟨hin, q⟩ := q
  refine va_sld hx hb hXs hbl hbA M.2.2 (inb_in hin) dL_law_461 ?_
  replace q := c2_s q
  obtain ⟨x_4, g_3, qc, q⟩ := q
  refine x_callV hx hb hml hl.1 hown hX M (S1 := S) (As := [.int (xs (x3 + (1 : Int32)).toNatClampNeg), .int (xs (x3 + (2 : Int32)).toNatClampNeg)]) (rest := [.int x_2]) okX12 ra2 rfl kw_1260 kw_1261 mok_X12_count (c_X12_count ra2 qc (Nat.le_refl 5)) kw_1259 rfl rfl dL_law_462 (Nat.le_of_ble_eq_true rfl) ⟨by decide, by decide⟩ (hz_step hc hRc) (hz_step hs hRs) (fun H locs M hEF => ?_)
  refine lv_icmp_eq (tgt := 1462) hx hb dL_law_465 (by decide) (fun c_5 => ?_) (fun c_5 => ?_)
  · replace q := if_t c_5 q
    exact w_L_law_1462 (N := N) C0 hX hlo hRc hRs hk18 _ _ _ _ _ _ _ _ _ _ _ _ M hE ra1 ra2 (lv_sub hl [0, 1, 2, 3] rfl) q hc hs
  · replace q := if_f c_5 q
    refine lv_iconst (v := 0) hx hb dL_law_468 (by decide) ?_
    exact absurd q (by simp)
set_option maxHeartbeats 4000000 in
set_option maxRecDepth 100000 in
theorem w_L_law_404 {N b L : Nat} {xs : Nat → Int32} (C0 : lw_At p s m meth c b L xs) (hX : Kx D cA lo tS s) (hlo : lo = s.heap.size) {S0 S1 : Hs} {g1 : Hg} {cT wT : Nat} (hRc : cT ≤ room_1.cells) (hRs : wT ≤ room_1.slots) {k18 : Hs → Hg → Nat → Nat → Int32 → Option (Int32 × Hs × Hg × Nat × Nat)} (hk18 : ∀ (H : Heap) (locs : List Loc) (ls : Array Slot) (cells slots k w : Nat) (S : Hs) (g : Hg) (a1 : Nat) (a2 : Nat) (x3 : Int32), Mm D cA lo S g s H locs → Ext lo S0 S → Rf lo S a1 11 → Rf lo S a2 12 → lv_has ls 4 [(0, .ref b), (1, .ref a1), (2, .ref a2), (3, .int x3)] → k18 S g a1 a2 x3 = some ((1 : Int32), S1, g1, k, w) → cells + k = cT → slots + w = wT → W p l e room_1 s m #[Value.ref b] below meth c H locs cells slots (lw_Z below #[Value.ref b] s) (F0 m 18 ls [])) : ∀ (H : Heap) (locs : List Loc) (ls : Array Slot) (cells slots k w : Nat) (S : Hs) (g : Hg) (a1 : Nat) (a2 : Nat) (x3 : Int32), Mm D cA lo S g s H locs → Ext lo S0 S → Rf lo S a1 11 → Rf lo S a2 12 → lv_has ls 4 [(0, .ref b), (1, .ref a1), (2, .ref a2), (3, .int x3)] → b_L_law_404 N L xs k18 S g a1 a2 x3 = some ((1 : Int32), S1, g1, k, w) → cells + k = cT → slots + w = wT → W p l e room_1 s m #[Value.ref b] below meth c H locs cells slots (lw_Z below #[Value.ref b] s) (F0 m 404 ls []) := by
  obtain ⟨hx, hb, hr, hml, hown, hts, hXs, hbl, hlk, hgv⟩ := id C0
  have hbA : ¬ (fun q : Nat => lo ≤ q) b := by show ¬ lo ≤ b; omega
  intro H locs ls cells slots k w S g a1 a2 x3 M hE ra1 ra2 hl q hc hs
  unfold b_L_law_404 at q
  refine lv_aload_n hx hb dL_law_404 rfl (lv_at hl 1 rfl) ?_
  refine lv_aload_n hx hb dL_law_405 rfl (lv_at hl 0 rfl) ?_
  refine lv_iload_n hx hb dL_law_406 rfl (lv_at hl 3 rfl) ?_
  refine lv_iconst (v := 1) hx hb dL_law_407 (by decide) ?_
  refine lv_iadd hx hb dL_law_408 ?_
  replace q := ck_s q
  obtain ⟨hin, q⟩ := q
  refine va_sld hx hb hXs hbl hbA M.2.2 (inb_in hin) dL_law_409 ?_
  refine lv_aload_n hx hb dL_law_410 rfl (lv_at hl 0 rfl) ?_
  refine lv_iload_n hx hb dL_law_411 rfl (lv_at hl 3 rfl) ?_
  refine lv_iconst (v := 2) hx hb dL_law_412 (by decide) ?_
  refine lv_iadd hx hb dL_law_413 ?_
  replace q := ck_s q
  obtain ⟨hin, q⟩ := q
  refine va_sld hx hb hXs hbl hbA M.2.2 (inb_in hin) dL_law_414 ?_
  replace q := c2_s q
  obtain ⟨x_2, g_1, qc, q⟩ := q
  refine x_callV hx hb hml hl.1 hown hX M (S1 := S) (As := [.int (xs (x3 + (1 : Int32)).toNatClampNeg), .int (xs (x3 + (2 : Int32)).toNatClampNeg)]) (rest := []) okX11 ra1 rfl kw_599 kw_600 mok_X11_keep (c_X11_keep ra1 qc (Nat.le_refl 2)) kw_598 rfl rfl dL_law_415 (Nat.le_of_ble_eq_true rfl) ⟨by decide, by decide⟩ (hz_step hc hRc) (hz_step hs hRs) (fun H locs M hEF => ?_)
  refine lv_aload_n hx hb dL_law_418 rfl (lv_at hl 2 rfl) ?_
  refine lv_aload_n hx hb dL_law_419 rfl (lv_at hl 0 rfl) ?_
  refine lv_iload_n hx hb dL_law_420 rfl (lv_at hl 3 rfl) ?_
  refine lv_iconst (v := 1) hx hb dL_law_421 (by decide) ?_
  refine lv_iadd hx hb dL_law_422 ?_
  replace q := ck_s q
  obtain ⟨hin, q⟩ := q
  refine va_sld hx hb hXs hbl hbA M.2.2 (inb_in hin) dL_law_423 ?_
  refine lv_aload_n hx hb dL_law_424 rfl (lv_at hl 0 rfl) ?_
  refine lv_iload_n hx hb dL_law_425 rfl (lv_at hl 3 rfl) ?_
  refine lv_iconst (v := 2) hx hb dL_law_426 (by decide) ?_
  refine lv_iadd hx hb dL_law_427 ?_
  replace q := ck_s q
  obtain ⟨hin, q⟩ := q
  refine va_sld hx hb hXs hbl hbA M.2.2 (inb_in hin) dL_law_428 ?_
  replace q := c2_s q
  obtain ⟨x_4, g_3, qc, q⟩ := q
  refine x_callV hx hb hml hl.1 hown hX M (S1 := S) (As := [.int (xs (x3 + (1 : Int32)).toNatClampNeg), .int (xs (x3 + (2 : Int32)).toNatClampNeg)]) (rest := [.int x_2]) okX12 ra2 rfl kw_1256 kw_1257 mok_X12_keep (c_X12_keep ra2 qc (Nat.le_refl 2)) kw_1255 rfl rfl dL_law_429 (Nat.le_of_ble_eq_true rfl) ⟨by decide, by decide⟩ (hz_step hc hRc) (hz_step hs hRs) (fun H locs M hEF => ?_)
  refine lv_icmp_eq (tgt := 1462) hx hb dL_law_432 (by decide) (fun c_5 => ?_) (fun c_5 => ?_)
  · replace q := if_t c_5 q
    exact w_L_law_1462 (N := N) C0 hX hlo hRc hRs hk18 _ _ _ _ _ _ _ _ _ _ _ _ M hE ra1 ra2 (lv_sub hl [0, 1, 2, 3] rfl) q hc hs
  · replace q := if_f c_5 q
    refine lv_iconst (v := 0) hx hb dL_law_435 (by decide) ?_
    exact absurd q (by simp)
set_option maxHeartbeats 4000000 in
set_option maxRecDepth 100000 in
theorem w_L_law_371 {N b L : Nat} {xs : Nat → Int32} (C0 : lw_At p s m meth c b L xs) (hX : Kx D cA lo tS s) (hlo : lo = s.heap.size) {S0 S1 : Hs} {g1 : Hg} {cT wT : Nat} (hRc : cT ≤ room_1.cells) (hRs : wT ≤ room_1.slots) {k18 : Hs → Hg → Nat → Nat → Int32 → Option (Int32 × Hs × Hg × Nat × Nat)} (hk18 : ∀ (H : Heap) (locs : List Loc) (ls : Array Slot) (cells slots k w : Nat) (S : Hs) (g : Hg) (a1 : Nat) (a2 : Nat) (x3 : Int32), Mm D cA lo S g s H locs → Ext lo S0 S → Rf lo S a1 11 → Rf lo S a2 12 → lv_has ls 4 [(0, .ref b), (1, .ref a1), (2, .ref a2), (3, .int x3)] → k18 S g a1 a2 x3 = some ((1 : Int32), S1, g1, k, w) → cells + k = cT → slots + w = wT → W p l e room_1 s m #[Value.ref b] below meth c H locs cells slots (lw_Z below #[Value.ref b] s) (F0 m 18 ls [])) : ∀ (H : Heap) (locs : List Loc) (ls : Array Slot) (cells slots k w : Nat) (S : Hs) (g : Hg) (a1 : Nat) (a2 : Nat) (x3 : Int32), Mm D cA lo S g s H locs → Ext lo S0 S → Rf lo S a1 11 → Rf lo S a2 12 → lv_has ls 4 [(0, .ref b), (1, .ref a1), (2, .ref a2), (3, .int x3)] → b_L_law_371 N L xs k18 S g a1 a2 x3 = some ((1 : Int32), S1, g1, k, w) → cells + k = cT → slots + w = wT → W p l e room_1 s m #[Value.ref b] below meth c H locs cells slots (lw_Z below #[Value.ref b] s) (F0 m 371 ls []) := by
  obtain ⟨hx, hb, hr, hml, hown, hts, hXs, hbl, hlk, hgv⟩ := id C0
  have hbA : ¬ (fun q : Nat => lo ≤ q) b := by show ¬ lo ≤ b; omega
  intro H locs ls cells slots k w S g a1 a2 x3 M hE ra1 ra2 hl q hc hs
  unfold b_L_law_371 at q
  refine lv_aload_n hx hb dL_law_371 rfl (lv_at hl 1 rfl) ?_
  refine lv_aload_n hx hb dL_law_372 rfl (lv_at hl 0 rfl) ?_
  refine lv_iload_n hx hb dL_law_373 rfl (lv_at hl 3 rfl) ?_
  refine lv_iconst (v := 1) hx hb dL_law_374 (by decide) ?_
  refine lv_iadd hx hb dL_law_375 ?_
  replace q := ck_s q
  obtain ⟨hin, q⟩ := q
  refine va_sld hx hb hXs hbl hbA M.2.2 (inb_in hin) dL_law_376 ?_
  refine lv_aload_n hx hb dL_law_377 rfl (lv_at hl 0 rfl) ?_
  refine lv_iload_n hx hb dL_law_378 rfl (lv_at hl 3 rfl) ?_
  refine lv_iconst (v := 2) hx hb dL_law_379 (by decide) ?_
  refine lv_iadd hx hb dL_law_380 ?_
  replace q := ck_s q
  obtain ⟨hin, q⟩ := q
  refine va_sld hx hb hXs hbl hbA M.2.2 (inb_in hin) dL_law_381 ?_
  replace q := c2_s q
  obtain ⟨x_2, g_1, qc, q⟩ := q
  refine x_callV hx hb hml hl.1 hown hX M (S1 := S) (As := [.int (xs (x3 + (1 : Int32)).toNatClampNeg), .int (xs (x3 + (2 : Int32)).toNatClampNeg)]) (rest := []) okX11 ra1 rfl kw_591 kw_592 mok_X11_prune (c_X11_prune ra1 qc (Nat.le_refl 2)) kw_590 rfl rfl dL_law_382 (Nat.le_of_ble_eq_true rfl) ⟨by decide, by decide⟩ (hz_step hc hRc) (hz_step hs hRs) (fun H locs M hEF => ?_)
  refine lv_aload_n hx hb dL_law_385 rfl (lv_at hl 2 rfl) ?_
  refine lv_aload_n hx hb dL_law_386 rfl (lv_at hl 0 rfl) ?_
  refine lv_iload_n hx hb dL_law_387 rfl (lv_at hl 3 rfl) ?_
  refine lv_iconst (v := 1) hx hb dL_law_388 (by decide) ?_
  refine lv_iadd hx hb dL_law_389 ?_
  replace q := ck_s q
  obtain ⟨hin, q⟩ := q
  refine va_sld hx hb hXs hbl hbA M.2.2 (inb_in hin) dL_law_390 ?_
  refine lv_aload_n hx hb dL_law_391 rfl (lv_at hl 0 rfl) ?_
  refine lv_iload_n hx hb dL_law_392 rfl (lv_at hl 3 rfl) ?_
  refine lv_iconst (v := 2) hx hb dL_law_393 (by decide) ?_
  refine lv_iadd hx hb dL_law_394 ?_
  replace q := ck_s q
  obtain ⟨hin, q⟩ := q
  refine va_sld hx hb hXs hbl hbA M.2.2 (inb_in hin) dL_law_395 ?_
  replace q := c2_s q
  obtain ⟨x_4, g_3, qc, q⟩ := q
  refine x_callV hx hb hml hl.1 hown hX M (S1 := S) (As := [.int (xs (x3 + (1 : Int32)).toNatClampNeg), .int (xs (x3 + (2 : Int32)).toNatClampNeg)]) (rest := [.int x_2]) okX12 ra2 rfl kw_1252 kw_1253 mok_X12_prune (c_X12_prune ra2 qc (Nat.le_refl 3)) kw_1251 rfl rfl dL_law_396 (Nat.le_of_ble_eq_true rfl) ⟨by decide, by decide⟩ (hz_step hc hRc) (hz_step hs hRs) (fun H locs M hEF => ?_)
  refine lv_icmp_eq (tgt := 1462) hx hb dL_law_399 (by decide) (fun c_5 => ?_) (fun c_5 => ?_)
  · replace q := if_t c_5 q
    exact w_L_law_1462 (N := N) C0 hX hlo hRc hRs hk18 _ _ _ _ _ _ _ _ _ _ _ _ M hE ra1 ra2 (lv_sub hl [0, 1, 2, 3] rfl) q hc hs
  · replace q := if_f c_5 q
    refine lv_iconst (v := 0) hx hb dL_law_402 (by decide) ?_
    exact absurd q (by simp)
set_option maxHeartbeats 4000000 in
set_option maxRecDepth 100000 in
theorem w_L_law_338 {N b L : Nat} {xs : Nat → Int32} (C0 : lw_At p s m meth c b L xs) (hX : Kx D cA lo tS s) (hlo : lo = s.heap.size) {S0 S1 : Hs} {g1 : Hg} {cT wT : Nat} (hRc : cT ≤ room_1.cells) (hRs : wT ≤ room_1.slots) {k18 : Hs → Hg → Nat → Nat → Int32 → Option (Int32 × Hs × Hg × Nat × Nat)} (hk18 : ∀ (H : Heap) (locs : List Loc) (ls : Array Slot) (cells slots k w : Nat) (S : Hs) (g : Hg) (a1 : Nat) (a2 : Nat) (x3 : Int32), Mm D cA lo S g s H locs → Ext lo S0 S → Rf lo S a1 11 → Rf lo S a2 12 → lv_has ls 4 [(0, .ref b), (1, .ref a1), (2, .ref a2), (3, .int x3)] → k18 S g a1 a2 x3 = some ((1 : Int32), S1, g1, k, w) → cells + k = cT → slots + w = wT → W p l e room_1 s m #[Value.ref b] below meth c H locs cells slots (lw_Z below #[Value.ref b] s) (F0 m 18 ls [])) : ∀ (H : Heap) (locs : List Loc) (ls : Array Slot) (cells slots k w : Nat) (S : Hs) (g : Hg) (a1 : Nat) (a2 : Nat) (x3 : Int32), Mm D cA lo S g s H locs → Ext lo S0 S → Rf lo S a1 11 → Rf lo S a2 12 → lv_has ls 4 [(0, .ref b), (1, .ref a1), (2, .ref a2), (3, .int x3)] → b_L_law_338 N L xs k18 S g a1 a2 x3 = some ((1 : Int32), S1, g1, k, w) → cells + k = cT → slots + w = wT → W p l e room_1 s m #[Value.ref b] below meth c H locs cells slots (lw_Z below #[Value.ref b] s) (F0 m 338 ls []) := by
  obtain ⟨hx, hb, hr, hml, hown, hts, hXs, hbl, hlk, hgv⟩ := id C0
  have hbA : ¬ (fun q : Nat => lo ≤ q) b := by show ¬ lo ≤ b; omega
  intro H locs ls cells slots k w S g a1 a2 x3 M hE ra1 ra2 hl q hc hs
  unfold b_L_law_338 at q
  refine lv_aload_n hx hb dL_law_338 rfl (lv_at hl 1 rfl) ?_
  refine lv_aload_n hx hb dL_law_339 rfl (lv_at hl 0 rfl) ?_
  refine lv_iload_n hx hb dL_law_340 rfl (lv_at hl 3 rfl) ?_
  refine lv_iconst (v := 1) hx hb dL_law_341 (by decide) ?_
  refine lv_iadd hx hb dL_law_342 ?_
  replace q := ck_s q
  obtain ⟨hin, q⟩ := q
  refine va_sld hx hb hXs hbl hbA M.2.2 (inb_in hin) dL_law_343 ?_
  refine lv_aload_n hx hb dL_law_344 rfl (lv_at hl 0 rfl) ?_
  refine lv_iload_n hx hb dL_law_345 rfl (lv_at hl 3 rfl) ?_
  refine lv_iconst (v := 2) hx hb dL_law_346 (by decide) ?_
  refine lv_iadd hx hb dL_law_347 ?_
  replace q := ck_s q
  obtain ⟨hin, q⟩ := q
  refine va_sld hx hb hXs hbl hbA M.2.2 (inb_in hin) dL_law_348 ?_
  replace q := c2_s q
  obtain ⟨x_2, g_1, qc, q⟩ := q
  refine x_callV hx hb hml hl.1 hown hX M (S1 := S) (As := [.int (xs (x3 + (1 : Int32)).toNatClampNeg), .int (xs (x3 + (2 : Int32)).toNatClampNeg)]) (rest := []) okX11 ra1 rfl kw_587 kw_588 mok_X11_lag (c_X11_lag ra1 qc (Nat.le_refl 4)) kw_586 rfl rfl dL_law_349 (Nat.le_of_ble_eq_true rfl) ⟨by decide, by decide⟩ (hz_step hc hRc) (hz_step hs hRs) (fun H locs M hEF => ?_)
  refine lv_aload_n hx hb dL_law_352 rfl (lv_at hl 2 rfl) ?_
  refine lv_aload_n hx hb dL_law_353 rfl (lv_at hl 0 rfl) ?_
  refine lv_iload_n hx hb dL_law_354 rfl (lv_at hl 3 rfl) ?_
  refine lv_iconst (v := 1) hx hb dL_law_355 (by decide) ?_
  refine lv_iadd hx hb dL_law_356 ?_
  replace q := ck_s q
  obtain ⟨hin, q⟩ := q
  refine va_sld hx hb hXs hbl hbA M.2.2 (inb_in hin) dL_law_357 ?_
  refine lv_aload_n hx hb dL_law_358 rfl (lv_at hl 0 rfl) ?_
  refine lv_iload_n hx hb dL_law_359 rfl (lv_at hl 3 rfl) ?_
  refine lv_iconst (v := 2) hx hb dL_law_360 (by decide) ?_
  refine lv_iadd hx hb dL_law_361 ?_
  replace q := ck_s q
  obtain ⟨hin, q⟩ := q
  refine va_sld hx hb hXs hbl hbA M.2.2 (inb_in hin) dL_law_362 ?_
  replace q := c2_s q
  obtain ⟨x_4, g_3, qc, q⟩ := q
  refine x_callV hx hb hml hl.1 hown hX M (S1 := S) (As := [.int (xs (x3 + (1 : Int32)).toNatClampNeg), .int (xs (x3 + (2 : Int32)).toNatClampNeg)]) (rest := [.int x_2]) okX12 ra2 rfl kw_1248 kw_1249 mok_X12_lag (c_X12_lag ra2 qc (Nat.le_refl 3)) kw_1247 rfl rfl dL_law_363 (Nat.le_of_ble_eq_true rfl) ⟨by decide, by decide⟩ (hz_step hc hRc) (hz_step hs hRs) (fun H locs M hEF => ?_)
  refine lv_icmp_eq (tgt := 1462) hx hb dL_law_366 (by decide) (fun c_5 => ?_) (fun c_5 => ?_)
  · replace q := if_t c_5 q
    exact w_L_law_1462 (N := N) C0 hX hlo hRc hRs hk18 _ _ _ _ _ _ _ _ _ _ _ _ M hE ra1 ra2 (lv_sub hl [0, 1, 2, 3] rfl) q hc hs
  · replace q := if_f c_5 q
    refine lv_iconst (v := 0) hx hb dL_law_369 (by decide) ?_
    exact absurd q (by simp)
set_option maxHeartbeats 4000000 in
set_option maxRecDepth 100000 in
theorem w_L_law_305 {N b L : Nat} {xs : Nat → Int32} (C0 : lw_At p s m meth c b L xs) (hX : Kx D cA lo tS s) (hlo : lo = s.heap.size) {S0 S1 : Hs} {g1 : Hg} {cT wT : Nat} (hRc : cT ≤ room_1.cells) (hRs : wT ≤ room_1.slots) {k18 : Hs → Hg → Nat → Nat → Int32 → Option (Int32 × Hs × Hg × Nat × Nat)} (hk18 : ∀ (H : Heap) (locs : List Loc) (ls : Array Slot) (cells slots k w : Nat) (S : Hs) (g : Hg) (a1 : Nat) (a2 : Nat) (x3 : Int32), Mm D cA lo S g s H locs → Ext lo S0 S → Rf lo S a1 11 → Rf lo S a2 12 → lv_has ls 4 [(0, .ref b), (1, .ref a1), (2, .ref a2), (3, .int x3)] → k18 S g a1 a2 x3 = some ((1 : Int32), S1, g1, k, w) → cells + k = cT → slots + w = wT → W p l e room_1 s m #[Value.ref b] below meth c H locs cells slots (lw_Z below #[Value.ref b] s) (F0 m 18 ls [])) : ∀ (H : Heap) (locs : List Loc) (ls : Array Slot) (cells slots k w : Nat) (S : Hs) (g : Hg) (a1 : Nat) (a2 : Nat) (x3 : Int32), Mm D cA lo S g s H locs → Ext lo S0 S → Rf lo S a1 11 → Rf lo S a2 12 → lv_has ls 4 [(0, .ref b), (1, .ref a1), (2, .ref a2), (3, .int x3)] → b_L_law_305 N L xs k18 S g a1 a2 x3 = some ((1 : Int32), S1, g1, k, w) → cells + k = cT → slots + w = wT → W p l e room_1 s m #[Value.ref b] below meth c H locs cells slots (lw_Z below #[Value.ref b] s) (F0 m 305 ls []) := by
  obtain ⟨hx, hb, hr, hml, hown, hts, hXs, hbl, hlk, hgv⟩ := id C0
  have hbA : ¬ (fun q : Nat => lo ≤ q) b := by show ¬ lo ≤ b; omega
  intro H locs ls cells slots k w S g a1 a2 x3 M hE ra1 ra2 hl q hc hs
  unfold b_L_law_305 at q
  refine lv_aload_n hx hb dL_law_305 rfl (lv_at hl 1 rfl) ?_
  refine lv_aload_n hx hb dL_law_306 rfl (lv_at hl 0 rfl) ?_
  refine lv_iload_n hx hb dL_law_307 rfl (lv_at hl 3 rfl) ?_
  refine lv_iconst (v := 1) hx hb dL_law_308 (by decide) ?_
  refine lv_iadd hx hb dL_law_309 ?_
  replace q := ck_s q
  obtain ⟨hin, q⟩ := q
  refine va_sld hx hb hXs hbl hbA M.2.2 (inb_in hin) dL_law_310 ?_
  refine lv_aload_n hx hb dL_law_311 rfl (lv_at hl 0 rfl) ?_
  refine lv_iload_n hx hb dL_law_312 rfl (lv_at hl 3 rfl) ?_
  refine lv_iconst (v := 2) hx hb dL_law_313 (by decide) ?_
  refine lv_iadd hx hb dL_law_314 ?_
  replace q := ck_s q
  obtain ⟨hin, q⟩ := q
  refine va_sld hx hb hXs hbl hbA M.2.2 (inb_in hin) dL_law_315 ?_
  replace q := c2_s q
  obtain ⟨x_2, g_1, qc, q⟩ := q
  refine x_callV hx hb hml hl.1 hown hX M (S1 := S) (As := [.int (xs (x3 + (1 : Int32)).toNatClampNeg), .int (xs (x3 + (2 : Int32)).toNatClampNeg)]) (rest := []) okX11 ra1 rfl kw_571 kw_572 mok_X11_hide (c_X11_hide ra1 qc (Nat.le_refl 4)) kw_570 rfl rfl dL_law_316 (Nat.le_of_ble_eq_true rfl) ⟨by decide, by decide⟩ (hz_step hc hRc) (hz_step hs hRs) (fun H locs M hEF => ?_)
  refine lv_aload_n hx hb dL_law_319 rfl (lv_at hl 2 rfl) ?_
  refine lv_aload_n hx hb dL_law_320 rfl (lv_at hl 0 rfl) ?_
  refine lv_iload_n hx hb dL_law_321 rfl (lv_at hl 3 rfl) ?_
  refine lv_iconst (v := 1) hx hb dL_law_322 (by decide) ?_
  refine lv_iadd hx hb dL_law_323 ?_
  replace q := ck_s q
  obtain ⟨hin, q⟩ := q
  refine va_sld hx hb hXs hbl hbA M.2.2 (inb_in hin) dL_law_324 ?_
  refine lv_aload_n hx hb dL_law_325 rfl (lv_at hl 0 rfl) ?_
  refine lv_iload_n hx hb dL_law_326 rfl (lv_at hl 3 rfl) ?_
  refine lv_iconst (v := 2) hx hb dL_law_327 (by decide) ?_
  refine lv_iadd hx hb dL_law_328 ?_
  replace q := ck_s q
  obtain ⟨hin, q⟩ := q
  refine va_sld hx hb hXs hbl hbA M.2.2 (inb_in hin) dL_law_329 ?_
  replace q := c2_s q
  obtain ⟨x_4, g_3, qc, q⟩ := q
  refine x_callV hx hb hml hl.1 hown hX M (S1 := S) (As := [.int (xs (x3 + (1 : Int32)).toNatClampNeg), .int (xs (x3 + (2 : Int32)).toNatClampNeg)]) (rest := [.int x_2]) okX12 ra2 rfl kw_1236 kw_1237 mok_X12_hide (c_X12_hide ra2 qc (Nat.le_refl 3)) kw_1235 rfl rfl dL_law_330 (Nat.le_of_ble_eq_true rfl) ⟨by decide, by decide⟩ (hz_step hc hRc) (hz_step hs hRs) (fun H locs M hEF => ?_)
  refine lv_icmp_eq (tgt := 1462) hx hb dL_law_333 (by decide) (fun c_5 => ?_) (fun c_5 => ?_)
  · replace q := if_t c_5 q
    exact w_L_law_1462 (N := N) C0 hX hlo hRc hRs hk18 _ _ _ _ _ _ _ _ _ _ _ _ M hE ra1 ra2 (lv_sub hl [0, 1, 2, 3] rfl) q hc hs
  · replace q := if_f c_5 q
    refine lv_iconst (v := 0) hx hb dL_law_336 (by decide) ?_
    exact absurd q (by simp)
set_option maxHeartbeats 4000000 in
set_option maxRecDepth 100000 in
theorem w_L_law_272 {N b L : Nat} {xs : Nat → Int32} (C0 : lw_At p s m meth c b L xs) (hX : Kx D cA lo tS s) (hlo : lo = s.heap.size) {S0 S1 : Hs} {g1 : Hg} {cT wT : Nat} (hRc : cT ≤ room_1.cells) (hRs : wT ≤ room_1.slots) {k18 : Hs → Hg → Nat → Nat → Int32 → Option (Int32 × Hs × Hg × Nat × Nat)} (hk18 : ∀ (H : Heap) (locs : List Loc) (ls : Array Slot) (cells slots k w : Nat) (S : Hs) (g : Hg) (a1 : Nat) (a2 : Nat) (x3 : Int32), Mm D cA lo S g s H locs → Ext lo S0 S → Rf lo S a1 11 → Rf lo S a2 12 → lv_has ls 4 [(0, .ref b), (1, .ref a1), (2, .ref a2), (3, .int x3)] → k18 S g a1 a2 x3 = some ((1 : Int32), S1, g1, k, w) → cells + k = cT → slots + w = wT → W p l e room_1 s m #[Value.ref b] below meth c H locs cells slots (lw_Z below #[Value.ref b] s) (F0 m 18 ls [])) : ∀ (H : Heap) (locs : List Loc) (ls : Array Slot) (cells slots k w : Nat) (S : Hs) (g : Hg) (a1 : Nat) (a2 : Nat) (x3 : Int32), Mm D cA lo S g s H locs → Ext lo S0 S → Rf lo S a1 11 → Rf lo S a2 12 → lv_has ls 4 [(0, .ref b), (1, .ref a1), (2, .ref a2), (3, .int x3)] → b_L_law_272 N L xs k18 S g a1 a2 x3 = some ((1 : Int32), S1, g1, k, w) → cells + k = cT → slots + w = wT → W p l e room_1 s m #[Value.ref b] below meth c H locs cells slots (lw_Z below #[Value.ref b] s) (F0 m 272 ls []) := by
  obtain ⟨hx, hb, hr, hml, hown, hts, hXs, hbl, hlk, hgv⟩ := id C0
  have hbA : ¬ (fun q : Nat => lo ≤ q) b := by show ¬ lo ≤ b; omega
  intro H locs ls cells slots k w S g a1 a2 x3 M hE ra1 ra2 hl q hc hs
  unfold b_L_law_272 at q
  refine lv_aload_n hx hb dL_law_272 rfl (lv_at hl 1 rfl) ?_
  refine lv_aload_n hx hb dL_law_273 rfl (lv_at hl 0 rfl) ?_
  refine lv_iload_n hx hb dL_law_274 rfl (lv_at hl 3 rfl) ?_
  refine lv_iconst (v := 1) hx hb dL_law_275 (by decide) ?_
  refine lv_iadd hx hb dL_law_276 ?_
  replace q := ck_s q
  obtain ⟨hin, q⟩ := q
  refine va_sld hx hb hXs hbl hbA M.2.2 (inb_in hin) dL_law_277 ?_
  refine lv_aload_n hx hb dL_law_278 rfl (lv_at hl 0 rfl) ?_
  refine lv_iload_n hx hb dL_law_279 rfl (lv_at hl 3 rfl) ?_
  refine lv_iconst (v := 2) hx hb dL_law_280 (by decide) ?_
  refine lv_iadd hx hb dL_law_281 ?_
  replace q := ck_s q
  obtain ⟨hin, q⟩ := q
  refine va_sld hx hb hXs hbl hbA M.2.2 (inb_in hin) dL_law_282 ?_
  replace q := c5_s q
  obtain ⟨x_2, S_3, g_1, k_4, w_5, k_6, w_7, qc, ek, ew, q⟩ := q
  refine x_callV hx hb hml hl.1 hown hX M (As := [.int (xs (x3 + (1 : Int32)).toNatClampNeg), .int (xs (x3 + (2 : Int32)).toNatClampNeg)]) (rest := []) okX11 ra1 rfl kw_546 kw_547 mok_X11_fork (c_X11_fork ra1 qc (Nat.le_refl 4)) kw_545 rfl rfl dL_law_283 (Nat.le_of_ble_eq_true rfl) ⟨by decide, by decide⟩ (hb_step hc ek hRc) (hb_step hs ew hRs) (fun H locs M hEF => ?_)
  replace ra1 := ra1.ext hEF.1
  replace ra2 := ra2.ext hEF.1
  replace hE := hE.tr hEF.1
  replace hc := hc_step hc ek
  replace hs := hc_step hs ew
  clear ek ew
  refine lv_aload_n hx hb dL_law_286 rfl (lv_at hl 2 rfl) ?_
  refine lv_aload_n hx hb dL_law_287 rfl (lv_at hl 0 rfl) ?_
  refine lv_iload_n hx hb dL_law_288 rfl (lv_at hl 3 rfl) ?_
  refine lv_iconst (v := 1) hx hb dL_law_289 (by decide) ?_
  refine lv_iadd hx hb dL_law_290 ?_
  replace q := ck_s q
  obtain ⟨hin, q⟩ := q
  refine va_sld hx hb hXs hbl hbA M.2.2 (inb_in hin) dL_law_291 ?_
  refine lv_aload_n hx hb dL_law_292 rfl (lv_at hl 0 rfl) ?_
  refine lv_iload_n hx hb dL_law_293 rfl (lv_at hl 3 rfl) ?_
  refine lv_iconst (v := 2) hx hb dL_law_294 (by decide) ?_
  refine lv_iadd hx hb dL_law_295 ?_
  replace q := ck_s q
  obtain ⟨hin, q⟩ := q
  refine va_sld hx hb hXs hbl hbA M.2.2 (inb_in hin) dL_law_296 ?_
  replace q := c2_s q
  obtain ⟨x_9, g_8, qc, q⟩ := q
  refine x_callV hx hb hml hl.1 hown hX M (S1 := S_3) (As := [.int (xs (x3 + (1 : Int32)).toNatClampNeg), .int (xs (x3 + (2 : Int32)).toNatClampNeg)]) (rest := [.int x_2]) okX12 ra2 rfl kw_1228 kw_1229 mok_X12_fork (c_X12_fork ra2 qc (Nat.le_refl 3)) kw_1227 rfl rfl dL_law_297 (Nat.le_of_ble_eq_true rfl) ⟨by decide, by decide⟩ (hz_step hc hRc) (hz_step hs hRs) (fun H locs M hEF => ?_)
  refine lv_icmp_eq (tgt := 1462) hx hb dL_law_300 (by decide) (fun c_10 => ?_) (fun c_10 => ?_)
  · replace q := if_t c_10 q
    exact w_L_law_1462 (N := N) C0 hX hlo hRc hRs hk18 _ _ _ _ _ _ _ _ _ _ _ _ M hE ra1 ra2 (lv_sub hl [0, 1, 2, 3] rfl) q hc hs
  · replace q := if_f c_10 q
    refine lv_iconst (v := 0) hx hb dL_law_303 (by decide) ?_
    exact absurd q (by simp)
set_option maxHeartbeats 4000000 in
set_option maxRecDepth 100000 in
theorem w_L_law_199 {N b L : Nat} {xs : Nat → Int32} (C0 : lw_At p s m meth c b L xs) (hX : Kx D cA lo tS s) (hlo : lo = s.heap.size) {S0 S1 : Hs} {g1 : Hg} {cT wT : Nat} (hRc : cT ≤ room_1.cells) (hRs : wT ≤ room_1.slots) {k18 : Hs → Hg → Nat → Nat → Int32 → Option (Int32 × Hs × Hg × Nat × Nat)} (hk18 : ∀ (H : Heap) (locs : List Loc) (ls : Array Slot) (cells slots k w : Nat) (S : Hs) (g : Hg) (a1 : Nat) (a2 : Nat) (x3 : Int32), Mm D cA lo S g s H locs → Ext lo S0 S → Rf lo S a1 11 → Rf lo S a2 12 → lv_has ls 4 [(0, .ref b), (1, .ref a1), (2, .ref a2), (3, .int x3)] → k18 S g a1 a2 x3 = some ((1 : Int32), S1, g1, k, w) → cells + k = cT → slots + w = wT → W p l e room_1 s m #[Value.ref b] below meth c H locs cells slots (lw_Z below #[Value.ref b] s) (F0 m 18 ls [])) : ∀ (H : Heap) (locs : List Loc) (ls : Array Slot) (cells slots k w : Nat) (S : Hs) (g : Hg) (a1 : Nat) (a2 : Nat) (x3 : Int32), Mm D cA lo S g s H locs → Ext lo S0 S → Rf lo S a1 11 → Rf lo S a2 12 → lv_has ls 4 [(0, .ref b), (1, .ref a1), (2, .ref a2), (3, .int x3)] → b_L_law_199 N L xs k18 S g a1 a2 x3 = some ((1 : Int32), S1, g1, k, w) → cells + k = cT → slots + w = wT → W p l e room_1 s m #[Value.ref b] below meth c H locs cells slots (lw_Z below #[Value.ref b] s) (F0 m 199 ls []) := by
  obtain ⟨hx, hb, hr, hml, hown, hts, hXs, hbl, hlk, hgv⟩ := id C0
  have hbA : ¬ (fun q : Nat => lo ≤ q) b := by show ¬ lo ≤ b; omega
  intro H locs ls cells slots k w S g a1 a2 x3 M hE ra1 ra2 hl q hc hs
  unfold b_L_law_199 at q
  refine lv_aload_n hx hb dL_law_199 rfl (lv_at hl 1 rfl) ?_
  refine lv_aload_n hx hb dL_law_200 rfl (lv_at hl 0 rfl) ?_
  refine lv_iload_n hx hb dL_law_201 rfl (lv_at hl 3 rfl) ?_
  refine lv_iconst (v := 1) hx hb dL_law_202 (by decide) ?_
  refine lv_iadd hx hb dL_law_203 ?_
  replace q := ck_s q
  obtain ⟨hin, q⟩ := q
  refine va_sld hx hb hXs hbl hbA M.2.2 (inb_in hin) dL_law_204 ?_
  refine lv_aload_n hx hb dL_law_205 rfl (lv_at hl 0 rfl) ?_
  refine lv_iload_n hx hb dL_law_206 rfl (lv_at hl 3 rfl) ?_
  refine lv_iconst (v := 2) hx hb dL_law_207 (by decide) ?_
  refine lv_iadd hx hb dL_law_208 ?_
  replace q := ck_s q
  obtain ⟨hin, q⟩ := q
  refine va_sld hx hb hXs hbl hbA M.2.2 (inb_in hin) dL_law_209 ?_
  refine lv_aload_n hx hb dL_law_210 rfl (lv_at hl 0 rfl) ?_
  refine lv_iload_n hx hb dL_law_211 rfl (lv_at hl 3 rfl) ?_
  refine lv_iconst (v := 3) hx hb dL_law_212 (by decide) ?_
  refine lv_iadd hx hb dL_law_213 ?_
  replace q := ck_s q
  obtain ⟨hin, q⟩ := q
  refine va_sld hx hb hXs hbl hbA M.2.2 (inb_in hin) dL_law_214 ?_
  refine lv_i2l hx hb dL_law_215 rfl ?_
  refine lv_bipush (v := 32) hx hb dL_law_216 (by decide) ?_
  refine lv_lshl hx hb dL_law_218 rfl ?_
  refine lv_aload_n hx hb dL_law_219 rfl (lv_at hl 0 rfl) ?_
  refine lv_iload_n hx hb dL_law_220 rfl (lv_at hl 3 rfl) ?_
  refine lv_iconst (v := 4) hx hb dL_law_221 (by decide) ?_
  refine lv_iadd hx hb dL_law_222 ?_
  replace q := ck_s q
  obtain ⟨hin, q⟩ := q
  refine va_sld hx hb hXs hbl hbA M.2.2 (inb_in hin) dL_law_223 ?_
  refine lv_i2l hx hb dL_law_224 rfl ?_
  refine lv_ldc2 (v := 4294967295) hx hb hown (hX.hts _ _ (mw kw_1514 rfl)) dL_law_225 ?_
  refine lv_land hx hb dL_law_228 ?_
  refine lv_lor hx hb dL_law_229 ?_
  replace q := c2_s q
  obtain ⟨x_2, g_1, qc, q⟩ := q
  refine x_callV hx hb hml hl.1 hown hX M (S1 := S) (As := [.int (xs (x3 + (1 : Int32)).toNatClampNeg), .int (xs (x3 + (2 : Int32)).toNatClampNeg), .long ((((xs (x3 + (3 : Int32)).toNatClampNeg)).toInt64 <<< ((32 : Int32).toInt64 &&& 63)) ||| (((xs (x3 + (4 : Int32)).toNatClampNeg)).toInt64 &&& (4294967295 : Int64)))]) (rest := []) okX11 ra1 rfl kw_491 kw_492 mok_X11_add (c_X11_add ra1 qc (Nat.le_refl 6)) kw_490 rfl rfl dL_law_230 (Nat.le_of_ble_eq_true rfl) ⟨by decide, by decide⟩ (hz_step hc hRc) (hz_step hs hRs) (fun H locs M hEF => ?_)
  refine lv_aload_n hx hb dL_law_233 rfl (lv_at hl 2 rfl) ?_
  refine lv_aload_n hx hb dL_law_234 rfl (lv_at hl 0 rfl) ?_
  refine lv_iload_n hx hb dL_law_235 rfl (lv_at hl 3 rfl) ?_
  refine lv_iconst (v := 1) hx hb dL_law_236 (by decide) ?_
  refine lv_iadd hx hb dL_law_237 ?_
  replace q := ck_s q
  obtain ⟨hin, q⟩ := q
  refine va_sld hx hb hXs hbl hbA M.2.2 (inb_in hin) dL_law_238 ?_
  refine lv_aload_n hx hb dL_law_239 rfl (lv_at hl 0 rfl) ?_
  refine lv_iload_n hx hb dL_law_240 rfl (lv_at hl 3 rfl) ?_
  refine lv_iconst (v := 2) hx hb dL_law_241 (by decide) ?_
  refine lv_iadd hx hb dL_law_242 ?_
  replace q := ck_s q
  obtain ⟨hin, q⟩ := q
  refine va_sld hx hb hXs hbl hbA M.2.2 (inb_in hin) dL_law_243 ?_
  refine lv_aload_n hx hb dL_law_244 rfl (lv_at hl 0 rfl) ?_
  refine lv_iload_n hx hb dL_law_245 rfl (lv_at hl 3 rfl) ?_
  refine lv_iconst (v := 3) hx hb dL_law_246 (by decide) ?_
  refine lv_iadd hx hb dL_law_247 ?_
  replace q := ck_s q
  obtain ⟨hin, q⟩ := q
  refine va_sld hx hb hXs hbl hbA M.2.2 (inb_in hin) dL_law_248 ?_
  refine lv_i2l hx hb dL_law_249 rfl ?_
  refine lv_bipush (v := 32) hx hb dL_law_250 (by decide) ?_
  refine lv_lshl hx hb dL_law_252 rfl ?_
  refine lv_aload_n hx hb dL_law_253 rfl (lv_at hl 0 rfl) ?_
  refine lv_iload_n hx hb dL_law_254 rfl (lv_at hl 3 rfl) ?_
  refine lv_iconst (v := 4) hx hb dL_law_255 (by decide) ?_
  refine lv_iadd hx hb dL_law_256 ?_
  replace q := ck_s q
  obtain ⟨hin, q⟩ := q
  refine va_sld hx hb hXs hbl hbA M.2.2 (inb_in hin) dL_law_257 ?_
  refine lv_i2l hx hb dL_law_258 rfl ?_
  refine lv_ldc2 (v := 4294967295) hx hb hown (hX.hts _ _ (mw kw_1514 rfl)) dL_law_259 ?_
  refine lv_land hx hb dL_law_262 ?_
  refine lv_lor hx hb dL_law_263 ?_
  replace q := c2_s q
  obtain ⟨x_4, g_3, qc, q⟩ := q
  refine x_callV hx hb hml hl.1 hown hX M (S1 := S) (As := [.int (xs (x3 + (1 : Int32)).toNatClampNeg), .int (xs (x3 + (2 : Int32)).toNatClampNeg), .long ((((xs (x3 + (3 : Int32)).toNatClampNeg)).toInt64 <<< ((32 : Int32).toInt64 &&& 63)) ||| (((xs (x3 + (4 : Int32)).toNatClampNeg)).toInt64 &&& (4294967295 : Int64)))]) (rest := [.int x_2]) okX12 ra2 rfl kw_1216 kw_1217 mok_X12_add (c_X12_add ra2 qc (Nat.le_refl 2)) kw_1215 rfl rfl dL_law_264 (Nat.le_of_ble_eq_true rfl) ⟨by decide, by decide⟩ (hz_step hc hRc) (hz_step hs hRs) (fun H locs M hEF => ?_)
  refine lv_icmp_eq (tgt := 1462) hx hb dL_law_267 (by decide) (fun c_5 => ?_) (fun c_5 => ?_)
  · replace q := if_t c_5 q
    exact w_L_law_1462 (N := N) C0 hX hlo hRc hRs hk18 _ _ _ _ _ _ _ _ _ _ _ _ M hE ra1 ra2 (lv_sub hl [0, 1, 2, 3] rfl) q hc hs
  · replace q := if_f c_5 q
    refine lv_iconst (v := 0) hx hb dL_law_270 (by decide) ?_
    exact absurd q (by simp)
set_option maxHeartbeats 4000000 in
set_option maxRecDepth 100000 in
theorem w_L_law_176 {N b L : Nat} {xs : Nat → Int32} (C0 : lw_At p s m meth c b L xs) (hX : Kx D cA lo tS s) (hlo : lo = s.heap.size) {S0 S1 : Hs} {g1 : Hg} {cT wT : Nat} (hRc : cT ≤ room_1.cells) (hRs : wT ≤ room_1.slots) {k18 : Hs → Hg → Nat → Nat → Int32 → Option (Int32 × Hs × Hg × Nat × Nat)} (hk18 : ∀ (H : Heap) (locs : List Loc) (ls : Array Slot) (cells slots k w : Nat) (S : Hs) (g : Hg) (a1 : Nat) (a2 : Nat) (x3 : Int32), Mm D cA lo S g s H locs → Ext lo S0 S → Rf lo S a1 11 → Rf lo S a2 12 → lv_has ls 4 [(0, .ref b), (1, .ref a1), (2, .ref a2), (3, .int x3)] → k18 S g a1 a2 x3 = some ((1 : Int32), S1, g1, k, w) → cells + k = cT → slots + w = wT → W p l e room_1 s m #[Value.ref b] below meth c H locs cells slots (lw_Z below #[Value.ref b] s) (F0 m 18 ls [])) : ∀ (H : Heap) (locs : List Loc) (ls : Array Slot) (cells slots k w : Nat) (S : Hs) (g : Hg) (a1 : Nat) (a2 : Nat) (x3 : Int32), Mm D cA lo S g s H locs → Ext lo S0 S → Rf lo S a1 11 → Rf lo S a2 12 → lv_has ls 4 [(0, .ref b), (1, .ref a1), (2, .ref a2), (3, .int x3)] → b_L_law_176 N L xs k18 S g a1 a2 x3 = some ((1 : Int32), S1, g1, k, w) → cells + k = cT → slots + w = wT → W p l e room_1 s m #[Value.ref b] below meth c H locs cells slots (lw_Z below #[Value.ref b] s) (F0 m 176 ls []) := by
  obtain ⟨hx, hb, hr, hml, hown, hts, hXs, hbl, hlk, hgv⟩ := id C0
  have hbA : ¬ (fun q : Nat => lo ≤ q) b := by show ¬ lo ≤ b; omega
  intro H locs ls cells slots k w S g a1 a2 x3 M hE ra1 ra2 hl q hc hs
  unfold b_L_law_176 at q
  refine lv_aload_n hx hb dL_law_176 rfl (lv_at hl 1 rfl) ?_
  refine lv_aload_n hx hb dL_law_177 rfl (lv_at hl 0 rfl) ?_
  refine lv_iload_n hx hb dL_law_178 rfl (lv_at hl 3 rfl) ?_
  refine lv_iconst (v := 1) hx hb dL_law_179 (by decide) ?_
  refine lv_iadd hx hb dL_law_180 ?_
  replace q := ck_s q
  obtain ⟨hin, q⟩ := q
  refine va_sld hx hb hXs hbl hbA M.2.2 (inb_in hin) dL_law_181 ?_
  replace q := c5_s q
  obtain ⟨x_2, S_3, g_1, k_4, w_5, k_6, w_7, qc, ek, ew, q⟩ := q
  refine x_callV hx hb hml hl.1 hown hX M (As := [.int (xs (x3 + (1 : Int32)).toNatClampNeg)]) (rest := []) okX11 ra1 rfl kw_379 kw_380 mok_X11_open (c_X11_open ra1 qc (Nat.le_refl 4)) kw_378 rfl rfl dL_law_182 (Nat.le_of_ble_eq_true rfl) ⟨by decide, by decide⟩ (hb_step hc ek hRc) (hb_step hs ew hRs) (fun H locs M hEF => ?_)
  replace ra1 := ra1.ext hEF.1
  replace ra2 := ra2.ext hEF.1
  replace hE := hE.tr hEF.1
  replace hc := hc_step hc ek
  replace hs := hc_step hs ew
  clear ek ew
  refine lv_aload_n hx hb dL_law_185 rfl (lv_at hl 2 rfl) ?_
  refine lv_aload_n hx hb dL_law_186 rfl (lv_at hl 0 rfl) ?_
  refine lv_iload_n hx hb dL_law_187 rfl (lv_at hl 3 rfl) ?_
  refine lv_iconst (v := 1) hx hb dL_law_188 (by decide) ?_
  refine lv_iadd hx hb dL_law_189 ?_
  replace q := ck_s q
  obtain ⟨hin, q⟩ := q
  refine va_sld hx hb hXs hbl hbA M.2.2 (inb_in hin) dL_law_190 ?_
  replace q := c2_s q
  obtain ⟨x_9, g_8, qc, q⟩ := q
  refine x_callV hx hb hml hl.1 hown hX M (S1 := S_3) (As := [.int (xs (x3 + (1 : Int32)).toNatClampNeg)]) (rest := [.int x_2]) okX12 ra2 rfl kw_1212 kw_1213 mok_X12_open (c_X12_open ra2 qc (Nat.le_refl 1)) kw_1211 rfl rfl dL_law_191 (Nat.le_of_ble_eq_true rfl) ⟨by decide, by decide⟩ (hz_step hc hRc) (hz_step hs hRs) (fun H locs M hEF => ?_)
  refine lv_icmp_eq (tgt := 1462) hx hb dL_law_194 (by decide) (fun c_10 => ?_) (fun c_10 => ?_)
  · replace q := if_t c_10 q
    exact w_L_law_1462 (N := N) C0 hX hlo hRc hRs hk18 _ _ _ _ _ _ _ _ _ _ _ _ M hE ra1 ra2 (lv_sub hl [0, 1, 2, 3] rfl) q hc hs
  · replace q := if_f c_10 q
    refine lv_iconst (v := 0) hx hb dL_law_197 (by decide) ?_
    exact absurd q (by simp)
set_option maxHeartbeats 4000000 in
set_option maxRecDepth 100000 in
theorem w_L_law_18 {N b L : Nat} {xs : Nat → Int32} (C0 : lw_At p s m meth c b L xs) (hX : Kx D cA lo tS s) (hlo : lo = s.heap.size) {S0 S1 : Hs} {g1 : Hg} {cT wT : Nat} (hRc : cT ≤ room_1.cells) (hRs : wT ≤ room_1.slots) {k18 : Hs → Hg → Nat → Nat → Int32 → Option (Int32 × Hs × Hg × Nat × Nat)} (hk18 : ∀ (H : Heap) (locs : List Loc) (ls : Array Slot) (cells slots k w : Nat) (S : Hs) (g : Hg) (a1 : Nat) (a2 : Nat) (x3 : Int32), Mm D cA lo S g s H locs → Ext lo S0 S → Rf lo S a1 11 → Rf lo S a2 12 → lv_has ls 4 [(0, .ref b), (1, .ref a1), (2, .ref a2), (3, .int x3)] → k18 S g a1 a2 x3 = some ((1 : Int32), S1, g1, k, w) → cells + k = cT → slots + w = wT → W p l e room_1 s m #[Value.ref b] below meth c H locs cells slots (lw_Z below #[Value.ref b] s) (F0 m 18 ls [])) : ∀ (H : Heap) (locs : List Loc) (ls : Array Slot) (cells slots k w : Nat) (S : Hs) (g : Hg) (a1 : Nat) (a2 : Nat) (x3 : Int32), Mm D cA lo S g s H locs → Ext lo S0 S → Rf lo S a1 11 → Rf lo S a2 12 → lv_has ls 4 [(0, .ref b), (1, .ref a1), (2, .ref a2), (3, .int x3)] → b_L_law_18 N L xs k18 S g a1 a2 x3 = some ((1 : Int32), S1, g1, k, w) → cells + k = cT → slots + w = wT → W p l e room_1 s m #[Value.ref b] below meth c H locs cells slots (lw_Z below #[Value.ref b] s) (F0 m 18 ls []) := by
  obtain ⟨hx, hb, hr, hml, hown, hts, hXs, hbl, hlk, hgv⟩ := id C0
  have hbA : ¬ (fun q : Nat => lo ≤ q) b := by show ¬ lo ≤ b; omega
  intro H locs ls cells slots k w S g a1 a2 x3 M hE ra1 ra2 hl q hc hs
  unfold b_L_law_18 at q
  refine lv_iload_n hx hb dL_law_18 rfl (lv_at hl 3 rfl) ?_
  refine lv_aload_n hx hb dL_law_19 rfl (lv_at hl 0 rfl) ?_
  refine va_slen hx hb hXs hbl hbA M.2.2 dL_law_20 ?_
  refine lv_bipush (v := 6) hx hb dL_law_21 (by decide) ?_
  refine lv_isub hx hb dL_law_23 ?_
  refine lv_icmp_gt (tgt := 1468) hx hb dL_law_24 (by decide) (fun c_1 => ?_) (fun c_1 => ?_)
  · replace q := if_t c_1 q
    refine lv_iconst (v := 1) hx hb dL_law_1468 (by decide) ?_
    cases q
    have hRc2 : cT ≤ room_1.cells := hRc
    have hRs2 : wT ≤ room_1.slots := hRs
    refine va_forget (fun q hq => by rw [← hlo]; exact M.2.2.2.2 q hq) ?_
    refine W.widen (k := room_1.cells) (n := room_1.slots) (by omega) (by omega) ?_
    exact lw_ret hx hb hr hlk dL_law_1469
  · replace q := if_f c_1 q
    refine lv_aload_n hx hb dL_law_27 rfl (lv_at hl 0 rfl) ?_
    refine lv_iload_n hx hb dL_law_28 rfl (lv_at hl 3 rfl) ?_
    replace q := ck_s q
    obtain ⟨hin, q⟩ := q
    refine va_sld hx hb hXs hbl hbA M.2.2 (inb_in hin) dL_law_29 ?_
    refine lv_bipush (v := 31) hx hb dL_law_30 (by decide) ?_
    refine lv_iand hx hb dL_law_32 ?_
    refine lv_topi (fun x_2 e_x_2 => ?_)
    replace q := nm_s q e_x_2
    clear e_x_2
    by_cases cx_2_0 : x_2 = 0
    · replace q := if_t cx_2_0 q
      subst cx_2_0
      refine lv_tableIn (off := 143) (tgt := 176) hx hb dL_law_33 (by decide) (by decide) (by decide) (by decide) ?_
      exact w_L_law_176 (N := N) C0 hX hlo hRc hRs hk18 _ _ _ _ _ _ _ _ _ _ _ _ M hE ra1 ra2 (lv_sub hl [0, 1, 2, 3] rfl) q hc hs
    replace q := if_f cx_2_0 q
    by_cases cx_2_1 : x_2 = 1
    · replace q := if_t cx_2_1 q
      subst cx_2_1
      refine lv_tableIn (off := 166) (tgt := 199) hx hb dL_law_33 (by decide) (by decide) (by decide) (by decide) ?_
      exact w_L_law_199 (N := N) C0 hX hlo hRc hRs hk18 _ _ _ _ _ _ _ _ _ _ _ _ M hE ra1 ra2 (lv_sub hl [0, 1, 2, 3] rfl) q hc hs
    replace q := if_f cx_2_1 q
    by_cases cx_2_2 : x_2 = 2
    · replace q := if_t cx_2_2 q
      subst cx_2_2
      refine lv_tableIn (off := 239) (tgt := 272) hx hb dL_law_33 (by decide) (by decide) (by decide) (by decide) ?_
      exact w_L_law_272 (N := N) C0 hX hlo hRc hRs hk18 _ _ _ _ _ _ _ _ _ _ _ _ M hE ra1 ra2 (lv_sub hl [0, 1, 2, 3] rfl) q hc hs
    replace q := if_f cx_2_2 q
    by_cases cx_2_3 : x_2 = 3
    · replace q := if_t cx_2_3 q
      subst cx_2_3
      refine lv_tableIn (off := 272) (tgt := 305) hx hb dL_law_33 (by decide) (by decide) (by decide) (by decide) ?_
      exact w_L_law_305 (N := N) C0 hX hlo hRc hRs hk18 _ _ _ _ _ _ _ _ _ _ _ _ M hE ra1 ra2 (lv_sub hl [0, 1, 2, 3] rfl) q hc hs
    replace q := if_f cx_2_3 q
    by_cases cx_2_4 : x_2 = 4
    · replace q := if_t cx_2_4 q
      subst cx_2_4
      refine lv_tableIn (off := 305) (tgt := 338) hx hb dL_law_33 (by decide) (by decide) (by decide) (by decide) ?_
      exact w_L_law_338 (N := N) C0 hX hlo hRc hRs hk18 _ _ _ _ _ _ _ _ _ _ _ _ M hE ra1 ra2 (lv_sub hl [0, 1, 2, 3] rfl) q hc hs
    replace q := if_f cx_2_4 q
    by_cases cx_2_5 : x_2 = 5
    · replace q := if_t cx_2_5 q
      subst cx_2_5
      refine lv_tableIn (off := 338) (tgt := 371) hx hb dL_law_33 (by decide) (by decide) (by decide) (by decide) ?_
      exact w_L_law_371 (N := N) C0 hX hlo hRc hRs hk18 _ _ _ _ _ _ _ _ _ _ _ _ M hE ra1 ra2 (lv_sub hl [0, 1, 2, 3] rfl) q hc hs
    replace q := if_f cx_2_5 q
    by_cases cx_2_6 : x_2 = 6
    · replace q := if_t cx_2_6 q
      subst cx_2_6
      refine lv_tableIn (off := 371) (tgt := 404) hx hb dL_law_33 (by decide) (by decide) (by decide) (by decide) ?_
      exact w_L_law_404 (N := N) C0 hX hlo hRc hRs hk18 _ _ _ _ _ _ _ _ _ _ _ _ M hE ra1 ra2 (lv_sub hl [0, 1, 2, 3] rfl) q hc hs
    replace q := if_f cx_2_6 q
    by_cases cx_2_7 : x_2 = 7
    · replace q := if_t cx_2_7 q
      subst cx_2_7
      refine lv_tableIn (off := 404) (tgt := 437) hx hb dL_law_33 (by decide) (by decide) (by decide) (by decide) ?_
      exact w_L_law_437 (N := N) C0 hX hlo hRc hRs hk18 _ _ _ _ _ _ _ _ _ _ _ _ M hE ra1 ra2 (lv_sub hl [0, 1, 2, 3] rfl) q hc hs
    replace q := if_f cx_2_7 q
    by_cases cx_2_8 : x_2 = 8
    · replace q := if_t cx_2_8 q
      subst cx_2_8
      refine lv_tableIn (off := 437) (tgt := 470) hx hb dL_law_33 (by decide) (by decide) (by decide) (by decide) ?_
      exact w_L_law_470 (N := N) C0 hX hlo hRc hRs hk18 _ _ _ _ _ _ _ _ _ _ _ _ M hE ra1 ra2 (lv_sub hl [0, 1, 2, 3] rfl) q hc hs
    replace q := if_f cx_2_8 q
    by_cases cx_2_9 : x_2 = 9
    · replace q := if_t cx_2_9 q
      subst cx_2_9
      refine lv_tableIn (off := 480) (tgt := 513) hx hb dL_law_33 (by decide) (by decide) (by decide) (by decide) ?_
      exact w_L_law_513 (N := N) C0 hX hlo hRc hRs hk18 _ _ _ _ _ _ _ _ _ _ _ _ M hE ra1 ra2 (lv_sub hl [0, 1, 2, 3] rfl) q hc hs
    replace q := if_f cx_2_9 q
    by_cases cx_2_10 : x_2 = 10
    · replace q := if_t cx_2_10 q
      subst cx_2_10
      refine lv_tableIn (off := 533) (tgt := 566) hx hb dL_law_33 (by decide) (by decide) (by decide) (by decide) ?_
      exact w_L_law_566 (N := N) C0 hX hlo hRc hRs hk18 _ _ _ _ _ _ _ _ _ _ _ _ M hE ra1 ra2 (lv_sub hl [0, 1, 2, 3] rfl) q hc hs
    replace q := if_f cx_2_10 q
    by_cases cx_2_11 : x_2 = 11
    · replace q := if_t cx_2_11 q
      subst cx_2_11
      refine lv_tableIn (off := 586) (tgt := 619) hx hb dL_law_33 (by decide) (by decide) (by decide) (by decide) ?_
      exact w_L_law_619 (N := N) C0 hX hlo hRc hRs hk18 _ _ _ _ _ _ _ _ _ _ _ _ M hE ra1 ra2 (lv_sub hl [0, 1, 2, 3] rfl) q hc hs
    replace q := if_f cx_2_11 q
    by_cases cx_2_12 : x_2 = 12
    · replace q := if_t cx_2_12 q
      subst cx_2_12
      refine lv_tableIn (off := 639) (tgt := 672) hx hb dL_law_33 (by decide) (by decide) (by decide) (by decide) ?_
      exact w_L_law_672 (N := N) C0 hX hlo hRc hRs hk18 _ _ _ _ _ _ _ _ _ _ _ _ M hE ra1 ra2 (lv_sub hl [0, 1, 2, 3] rfl) q hc hs
    replace q := if_f cx_2_12 q
    by_cases cx_2_13 : x_2 = 13
    · replace q := if_t cx_2_13 q
      subst cx_2_13
      refine lv_tableIn (off := 692) (tgt := 725) hx hb dL_law_33 (by decide) (by decide) (by decide) (by decide) ?_
      exact w_L_law_725 (N := N) C0 hX hlo hRc hRs hk18 _ _ _ _ _ _ _ _ _ _ _ _ M hE ra1 ra2 (lv_sub hl [0, 1, 2, 3] rfl) q hc hs
    replace q := if_f cx_2_13 q
    by_cases cx_2_14 : x_2 = 14
    · replace q := if_t cx_2_14 q
      subst cx_2_14
      refine lv_tableIn (off := 745) (tgt := 778) hx hb dL_law_33 (by decide) (by decide) (by decide) (by decide) ?_
      exact w_L_law_778 (N := N) C0 hX hlo hRc hRs hk18 _ _ _ _ _ _ _ _ _ _ _ _ M hE ra1 ra2 (lv_sub hl [0, 1, 2, 3] rfl) q hc hs
    replace q := if_f cx_2_14 q
    by_cases cx_2_15 : x_2 = 15
    · replace q := if_t cx_2_15 q
      subst cx_2_15
      refine lv_tableIn (off := 808) (tgt := 841) hx hb dL_law_33 (by decide) (by decide) (by decide) (by decide) ?_
      exact w_L_law_841 (N := N) C0 hX hlo hRc hRs hk18 _ _ _ _ _ _ _ _ _ _ _ _ M hE ra1 ra2 (lv_sub hl [0, 1, 2, 3] rfl) q hc hs
    replace q := if_f cx_2_15 q
    by_cases cx_2_16 : x_2 = 16
    · replace q := if_t cx_2_16 q
      subst cx_2_16
      refine lv_tableIn (off := 831) (tgt := 864) hx hb dL_law_33 (by decide) (by decide) (by decide) (by decide) ?_
      exact w_L_law_864 (N := N) C0 hX hlo hRc hRs hk18 _ _ _ _ _ _ _ _ _ _ _ _ M hE ra1 ra2 (lv_sub hl [0, 1, 2, 3] rfl) q hc hs
    replace q := if_f cx_2_16 q
    by_cases cx_2_17 : x_2 = 17
    · replace q := if_t cx_2_17 q
      subst cx_2_17
      refine lv_tableIn (off := 864) (tgt := 897) hx hb dL_law_33 (by decide) (by decide) (by decide) (by decide) ?_
      exact w_L_law_897 (N := N) C0 hX hlo hRc hRs hk18 _ _ _ _ _ _ _ _ _ _ _ _ M hE ra1 ra2 (lv_sub hl [0, 1, 2, 3] rfl) q hc hs
    replace q := if_f cx_2_17 q
    by_cases cx_2_18 : x_2 = 18
    · replace q := if_t cx_2_18 q
      subst cx_2_18
      refine lv_tableIn (off := 907) (tgt := 940) hx hb dL_law_33 (by decide) (by decide) (by decide) (by decide) ?_
      exact w_L_law_940 (N := N) C0 hX hlo hRc hRs hk18 _ _ _ _ _ _ _ _ _ _ _ _ M hE ra1 ra2 (lv_sub hl [0, 1, 2, 3] rfl) q hc hs
    replace q := if_f cx_2_18 q
    by_cases cx_2_19 : x_2 = 19
    · replace q := if_t cx_2_19 q
      subst cx_2_19
      refine lv_tableIn (off := 960) (tgt := 993) hx hb dL_law_33 (by decide) (by decide) (by decide) (by decide) ?_
      exact w_L_law_993 (N := N) C0 hX hlo hRc hRs hk18 _ _ _ _ _ _ _ _ _ _ _ _ M hE ra1 ra2 (lv_sub hl [0, 1, 2, 3] rfl) q hc hs
    replace q := if_f cx_2_19 q
    by_cases cx_2_20 : x_2 = 20
    · replace q := if_t cx_2_20 q
      subst cx_2_20
      refine lv_tableIn (off := 1043) (tgt := 1076) hx hb dL_law_33 (by decide) (by decide) (by decide) (by decide) ?_
      exact w_L_law_1076 (N := N) C0 hX hlo hRc hRs hk18 _ _ _ _ _ _ _ _ _ _ _ _ M hE ra1 ra2 (lv_sub hl [0, 1, 2, 3] rfl) q hc hs
    replace q := if_f cx_2_20 q
    by_cases cx_2_21 : x_2 = 21
    · replace q := if_t cx_2_21 q
      subst cx_2_21
      refine lv_tableIn (off := 1086) (tgt := 1119) hx hb dL_law_33 (by decide) (by decide) (by decide) (by decide) ?_
      exact w_L_law_1119 (N := N) C0 hX hlo hRc hRs hk18 _ _ _ _ _ _ _ _ _ _ _ _ M hE ra1 ra2 (lv_sub hl [0, 1, 2, 3] rfl) q hc hs
    replace q := if_f cx_2_21 q
    by_cases cx_2_22 : x_2 = 22
    · replace q := if_t cx_2_22 q
      subst cx_2_22
      refine lv_tableIn (off := 1129) (tgt := 1162) hx hb dL_law_33 (by decide) (by decide) (by decide) (by decide) ?_
      exact w_L_law_1162 (N := N) C0 hX hlo hRc hRs hk18 _ _ _ _ _ _ _ _ _ _ _ _ M hE ra1 ra2 (lv_sub hl [0, 1, 2, 3] rfl) q hc hs
    replace q := if_f cx_2_22 q
    by_cases cx_2_23 : x_2 = 23
    · replace q := if_t cx_2_23 q
      subst cx_2_23
      refine lv_tableIn (off := 1162) (tgt := 1195) hx hb dL_law_33 (by decide) (by decide) (by decide) (by decide) ?_
      exact w_L_law_1195 (N := N) C0 hX hlo hRc hRs hk18 _ _ _ _ _ _ _ _ _ _ _ _ M hE ra1 ra2 (lv_sub hl [0, 1, 2, 3] rfl) q hc hs
    replace q := if_f cx_2_23 q
    by_cases cx_2_24 : x_2 = 24
    · replace q := if_t cx_2_24 q
      subst cx_2_24
      refine lv_tableIn (off := 1195) (tgt := 1228) hx hb dL_law_33 (by decide) (by decide) (by decide) (by decide) ?_
      exact w_L_law_1228 (N := N) C0 hX hlo hRc hRs hk18 _ _ _ _ _ _ _ _ _ _ _ _ M hE ra1 ra2 (lv_sub hl [0, 1, 2, 3] rfl) q hc hs
    replace q := if_f cx_2_24 q
    by_cases cx_2_25 : x_2 = 25
    · replace q := if_t cx_2_25 q
      subst cx_2_25
      refine lv_tableIn (off := 1228) (tgt := 1261) hx hb dL_law_33 (by decide) (by decide) (by decide) (by decide) ?_
      exact w_L_law_1261 (N := N) C0 hX hlo hRc hRs hk18 _ _ _ _ _ _ _ _ _ _ _ _ M hE ra1 ra2 (lv_sub hl [0, 1, 2, 3] rfl) q hc hs
    replace q := if_f cx_2_25 q
    by_cases cx_2_26 : x_2 = 26
    · replace q := if_t cx_2_26 q
      subst cx_2_26
      refine lv_tableIn (off := 1271) (tgt := 1304) hx hb dL_law_33 (by decide) (by decide) (by decide) (by decide) ?_
      exact w_L_law_1304 (N := N) C0 hX hlo hRc hRs hk18 _ _ _ _ _ _ _ _ _ _ _ _ M hE ra1 ra2 (lv_sub hl [0, 1, 2, 3] rfl) q hc hs
    replace q := if_f cx_2_26 q
    by_cases cx_2_27 : x_2 = 27
    · replace q := if_t cx_2_27 q
      subst cx_2_27
      refine lv_tableIn (off := 1324) (tgt := 1357) hx hb dL_law_33 (by decide) (by decide) (by decide) (by decide) ?_
      exact w_L_law_1357 (N := N) C0 hX hlo hRc hRs hk18 _ _ _ _ _ _ _ _ _ _ _ _ M hE ra1 ra2 (lv_sub hl [0, 1, 2, 3] rfl) q hc hs
    replace q := if_f cx_2_27 q
    by_cases cx_2_28 : x_2 = 28
    · replace q := if_t cx_2_28 q
      subst cx_2_28
      refine lv_tableIn (off := 1347) (tgt := 1380) hx hb dL_law_33 (by decide) (by decide) (by decide) (by decide) ?_
      exact w_L_law_1380 (N := N) C0 hX hlo hRc hRs hk18 _ _ _ _ _ _ _ _ _ _ _ _ M hE ra1 ra2 (lv_sub hl [0, 1, 2, 3] rfl) q hc hs
    replace q := if_f cx_2_28 q
    by_cases cx_2_29 : x_2 = 29
    · replace q := if_t cx_2_29 q
      subst cx_2_29
      refine lv_tableIn (off := 1380) (tgt := 1413) hx hb dL_law_33 (by decide) (by decide) (by decide) (by decide) ?_
      exact w_L_law_1413 (N := N) C0 hX hlo hRc hRs hk18 _ _ _ _ _ _ _ _ _ _ _ _ M hE ra1 ra2 (lv_sub hl [0, 1, 2, 3] rfl) q hc hs
    replace q := if_f cx_2_29 q
    by_cases cx_2_30 : x_2 = 30
    · replace q := if_t cx_2_30 q
      subst cx_2_30
      refine lv_tableIn (off := 1403) (tgt := 1436) hx hb dL_law_33 (by decide) (by decide) (by decide) (by decide) ?_
      exact w_L_law_1436 (N := N) C0 hX hlo hRc hRs hk18 _ _ _ _ _ _ _ _ _ _ _ _ M hE ra1 ra2 (lv_sub hl [0, 1, 2, 3] rfl) q hc hs
    replace q := if_f cx_2_30 q
    by_cases cx_2_31 : x_2 = 31
    · replace q := if_t cx_2_31 q
      subst cx_2_31
      refine lv_tableIn (off := 1416) (tgt := 1449) hx hb dL_law_33 (by decide) (by decide) (by decide) (by decide) ?_
      exact w_L_law_1449 (N := N) C0 hX hlo hRc hRs hk18 _ _ _ _ _ _ _ _ _ _ _ _ M hE ra1 ra2 (lv_sub hl [0, 1, 2, 3] rfl) q hc hs
    replace q := if_f cx_2_31 q
    refine lv_tableOut (tgt := 1462) hx hb dL_law_33 (sw_def (fun z h1 h2 => ?_)) (by decide) ?_
    · have hz : z = 0 ∨ z = 1 ∨ z = 2 ∨ z = 3 ∨ z = 4 ∨ z = 5 ∨ z = 6 ∨ z = 7 ∨ z = 8 ∨ z = 9 ∨ z = 10 ∨ z = 11 ∨ z = 12 ∨ z = 13 ∨ z = 14 ∨ z = 15 ∨ z = 16 ∨ z = 17 ∨ z = 18 ∨ z = 19 ∨ z = 20 ∨ z = 21 ∨ z = 22 ∨ z = 23 ∨ z = 24 ∨ z = 25 ∨ z = 26 ∨ z = 27 ∨ z = 28 ∨ z = 29 ∨ z = 30 ∨ z = 31 := by omega
      rcases hz with rfl | rfl | rfl | rfl | rfl | rfl | rfl | rfl | rfl | rfl | rfl | rfl | rfl | rfl | rfl | rfl | rfl | rfl | rfl | rfl | rfl | rfl | rfl | rfl | rfl | rfl | rfl | rfl | rfl | rfl | rfl | rfl
      · exact cx_2_0
      · exact cx_2_1
      · exact cx_2_2
      · exact cx_2_3
      · exact cx_2_4
      · exact cx_2_5
      · exact cx_2_6
      · exact cx_2_7
      · exact cx_2_8
      · exact cx_2_9
      · exact cx_2_10
      · exact cx_2_11
      · exact cx_2_12
      · exact cx_2_13
      · exact cx_2_14
      · exact cx_2_15
      · exact cx_2_16
      · exact cx_2_17
      · exact cx_2_18
      · exact cx_2_19
      · exact cx_2_20
      · exact cx_2_21
      · exact cx_2_22
      · exact cx_2_23
      · exact cx_2_24
      · exact cx_2_25
      · exact cx_2_26
      · exact cx_2_27
      · exact cx_2_28
      · exact cx_2_29
      · exact cx_2_30
      · exact cx_2_31
    · exact w_L_law_1462 (N := N) C0 hX hlo hRc hRs hk18 _ _ _ _ _ _ _ _ _ _ _ _ M hE ra1 ra2 (lv_sub hl [0, 1, 2, 3] rfl) q hc hs
set_option maxRecDepth 100000 in
theorem l_L_law_18 {N b L : Nat} {xs : Nat → Int32} (C0 : lw_At p s m meth c b L xs) (hX : Kx D cA lo tS s) (hlo : lo = s.heap.size) {S0 S1 : Hs} {g1 : Hg} {cT wT : Nat} (hRc : cT ≤ room_1.cells) (hRs : wT ≤ room_1.slots) : ∀ (n : Nat), ∀ (H : Heap) (locs : List Loc) (ls : Array Slot) (cells slots k w : Nat) (S : Hs) (g : Hg) (a1 : Nat) (a2 : Nat) (x3 : Int32), Mm D cA lo S g s H locs → Ext lo S0 S → Rf lo S a1 11 → Rf lo S a2 12 → lv_has ls 4 [(0, .ref b), (1, .ref a1), (2, .ref a2), (3, .int x3)] → n_L_law_18 N L xs n S g a1 a2 x3 = some ((1 : Int32), S1, g1, k, w) → cells + k = cT → slots + w = wT → W p l e room_1 s m #[Value.ref b] below meth c H locs cells slots (lw_Z below #[Value.ref b] s) (F0 m 18 ls []) := by
  intro n
  induction n with
  | zero =>
    intro H locs ls cells slots k w S g a1 a2 x3 M hE ra1 ra2 hl q hc hs
    exact absurd q (by simp [n_L_law_18])
  | succ n ih => exact w_L_law_18 (N := N) C0 hX hlo hRc hRs  ih
set_option maxHeartbeats 4000000 in
set_option maxRecDepth 100000 in
theorem w_L_law_0 {N b L : Nat} {xs : Nat → Int32} (C0 : lw_At p s m meth c b L xs) (hX : Kx D cA lo tS s) (hlo : lo = s.heap.size) {S0 S1 : Hs} {g1 : Hg} {cT wT : Nat} (hRc : cT ≤ room_1.cells) (hRs : wT ≤ room_1.slots) : ∀ (H : Heap) (locs : List Loc) (ls : Array Slot) (cells slots k w : Nat) (S : Hs) (g : Hg) , Mm D cA lo S g s H locs → Ext lo S0 S → lv_has ls 4 [(0, .ref b)] → b_L_law_0 N L xs S g = some ((1 : Int32), S1, g1, k, w) → cells + k = cT → slots + w = wT → W p l e room_1 s m #[Value.ref b] below meth c H locs cells slots (lw_Z below #[Value.ref b] s) (F0 m 0 ls []) := by
  obtain ⟨hx, hb, hr, hml, hown, hts, hXs, hbl, hlk, hgv⟩ := id C0
  have hbA : ¬ (fun q : Nat => lo ≤ q) b := by show ¬ lo ≤ b; omega
  intro H locs ls cells slots k w S g M hE hl q hc hs
  unfold b_L_law_0 at q
  replace q := al_s q
  obtain ⟨S_1, g_2, k_3, w_4, eS, eg, ek, ew, q⟩ := q
  refine x_new hx hb hown hX M okX11 kw_69 kw_70 kw_53 dfX11 (hb_step hc ek hRc) (hb_step hs ew hRs) dL_law_0 (fun H M rn_5 hE1 => ?_)
  rw [← eS, ← eg] at M
  rw [← eS] at rn_5 hE1
  clear eS eg
  replace hE := hE.tr hE1
  replace hc := hc_step hc ek
  replace hs := hc_step hs ew
  clear ek ew
  refine lv_dup hx hb dL_law_3 rfl ?_
  replace q := c5_s q
  obtain ⟨u_8, S_9, g_7, k_10, w_11, k_12, w_13, qc, ek, ew, q⟩ := q
  refine x_callI hx hb hml hl.1 hown hX M (As := []) (rest := [.ref (hpN S)]) kw_72 rfl mok_X11_init (c_X11_init rn_5 qc (Nat.le_refl 3)) kw_71 rfl rfl dL_law_4 (Nat.le_of_ble_eq_true rfl) ⟨by decide, by decide⟩ (hb_step hc ek hRc) (hb_step hs ew hRs) (fun H locs M hEF => ?_)
  replace rn_5 := rn_5.ext hEF.1
  replace hE := hE.tr hEF.1
  replace hc := hc_step hc ek
  replace hs := hc_step hs ew
  clear ek ew
  refine lv_astore_n (lv' := [(1, .ref (hpN S)), (0, .ref b)]) hx hb dL_law_7 rfl hl (by decide) rfl (fun ls hl => ?_)
  replace q := al_s q
  obtain ⟨S_14, g_15, k_16, w_17, eS, eg, ek, ew, q⟩ := q
  refine x_new hx hb hown hX M okX12 kw_1005 kw_1006 kw_62 dfX12 (hb_step hc ek hRc) (hb_step hs ew hRs) dL_law_8 (fun H M rn_18 hE1 => ?_)
  rw [← eS, ← eg] at M
  rw [← eS] at rn_18 hE1
  clear eS eg
  replace rn_5 := rn_5.ext hE1
  replace hE := hE.tr hE1
  replace hc := hc_step hc ek
  replace hs := hc_step hs ew
  clear ek ew
  refine lv_dup hx hb dL_law_11 rfl ?_
  replace q := c5_s q
  obtain ⟨u_21, S_22, g_20, k_23, w_24, k_25, w_26, qc, ek, ew, q⟩ := q
  refine x_callI hx hb hml hl.1 hown hX M (As := []) (rest := [.ref (hpN S_9)]) kw_1008 rfl mok_X12_init (c_X12_init rn_18 qc (Nat.le_refl 1)) kw_1007 rfl rfl dL_law_12 (Nat.le_of_ble_eq_true rfl) ⟨by decide, by decide⟩ (hb_step hc ek hRc) (hb_step hs ew hRs) (fun H locs M hEF => ?_)
  replace rn_5 := rn_5.ext hEF.1
  replace rn_18 := rn_18.ext hEF.1
  replace hE := hE.tr hEF.1
  replace hc := hc_step hc ek
  replace hs := hc_step hs ew
  clear ek ew
  refine lv_astore_n (lv' := [(2, .ref (hpN S_9)), (1, .ref (hpN S)), (0, .ref b)]) hx hb dL_law_15 rfl hl (by decide) rfl (fun ls hl => ?_)
  refine lv_iconst (v := 0) hx hb dL_law_16 (by decide) ?_
  refine lv_istore_n (lv' := [(3, .int (0 : Int32)), (2, .ref (hpN S_9)), (1, .ref (hpN S)), (0, .ref b)]) hx hb dL_law_17 rfl hl (by decide) rfl (fun ls hl => ?_)
  exact l_L_law_18 (N := N) C0 hX hlo hRc hRs  N _ _ _ _ _ _ _ _ _ _ _ _ M hE rn_5 rn_18 (lv_sub hl [3, 2, 1, 0] rfl) q hc hs
end WL
