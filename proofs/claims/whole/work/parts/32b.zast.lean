section XZ
variable {p : Program} {l : Launch} {e : Env} {R : Room} {s : State} {m : MethodId} {args : Array Value} {below : List Frame} {meth : Method} {c : Code} {H : Heap} {locs : List Loc} {cells slots : Nat} {Q : State → Prop} {cc : ByteArray} {pc : Nat} {ls : Array Slot} {rest : List Value} {D : va_G} {cA : Nat → ClassId} {lo tS : Nat} {S : Hs} {g : Hg} {a : Nat} {own : String}
theorem x_zastN (hx : p.tables.exec = Jvm.exec) (hb : c.code = cc) (hX : Kx D cA lo tS s) (M : Mm D cA lo S g s H locs) (r : Rf lo S a 22) {i : Int32} {x : Int32} (hin : vp_in i (hpL S a)) (hdg : decode cc pc = .ok (.bastore, 1))
    (kk : ∀ (H : Heap) (locs : List Loc), Mm D cA lo S (wrI g a i.toNatClampNeg (x &&& 1)) s H locs → W p l e R s m args below meth c H locs cells slots Q (F0 m (pc + 1) ls (rest))) : W p l e R s m args below meth c H locs cells slots Q (F0 m pc ls (.int x :: .int i :: .ref a :: rest)) := by
  refine W.zast hx hb (x_arr M r (by decide)) ((hX.1.2 2 _ rfl).1 _ _) (fun q => by cases q) (by rw [arrV_size]; exact hin) rfl rfl hdg fun H1 e z oq => ?_
  refine kk H1 _ (M.one r.1 (fun q hq => by rw [List.mem_singleton.mp hq]) z oq ⟨fun h => ?_, fun _ => ?_⟩ (fun b hb k1 => ?_) (fun b hb k1 => rfl) (fun b hb k1 => rfl) (M.2.1.wrI a _ (x &&& 1)))
  · rw [r.2.2] at h
    exact absurd h (by decide)
  · rw [e, r.2.2, show narrow .boolean (.int x) = .int (x &&& 1) from rfl, arrV_store]
    congr 2
    funext j
    simp only [updV, evX, r.2.2]
    by_cases hj : j = i.toNatClampNeg
    · subst hj
      simp [rdI, wrI, up2]
    · simp [rdI, wrI, up2, hj]
  · simp [rdI, wrI, up2, hb]
end XZ
