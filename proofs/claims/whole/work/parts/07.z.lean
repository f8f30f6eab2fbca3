section ZSV
variable {p : Program} {l : Launch} {e : Env} {R : Room} {s : State} {m : MethodId} {args : Array Value} {below : List Frame} {meth : Method} {c : Code} {H : Heap} {locs : List Loc} {cells slots : Nat} {Q : State → Prop}
variable {cc : ByteArray} {nL pc : Nat} {own : String} {ret : Option FieldType} {ls : Array Slot} {rest : List Value} {G : zG} {S : Zs}
variable {y : MethodName} {bc : ByteArray} {maxL np idx b : Nat} {yret : Option FieldType} {rm : Room} {Cn : String} {As : List Value}
theorem zz_callSv {β : Type} {d : Option (Int32 × Zs)} {f : Int32 → Zs → Option β} {q : β} (C : zC p s m args meth c cc nL own ret) (hW : zW G s S H locs) (h : zcl d f = some q) (hM : ∀ r, d = some r → zMv l y bc maxL yret rm G As S r) (hL : zLS own idx y bc maxL yret np)
    (hn : As.length = np) (hls : ls.size = nL) (hr0 : rm.cells = 0 ∧ rm.slots = 0) (hR : rm.frames + 1 ≤ R.frames ∧ 8 + (maxL + 11) + rm.locals ≤ R.locals) (hcat : (rest.map fun v => v.category).sum ≤ 8) (hcs : cells ≤ R.cells ∧ slots ≤ R.slots) {st : List Value} (hst : st = As.reverse ++ rest) (hdg : decode cc pc = .ok (.invokestatic idx, 3))
    (k : ∀ (v : Int32) (S2 : Zs) (H1 : Heap) (locs1 : List Loc), f v S2 = some q → zW G s S2 H1 locs1 → W p l e R s m args below meth c H1 locs1 cells slots Q (F0 m (pc + 3) ls rest)) : W p l e R s m args below meth c H locs cells slots Q (F0 m pc ls st) := by
  cases hd : d with
  | none => rw [hd] at h; cases h
  | some r =>
    rw [hd] at h
    have h : f r.1 r.2 = some q := h
    subst hst
    refine va_callv (va_runS (n := np) C.fix (hM r hd) (va_cwS np C.fix.2.2.2.2 hL.good rfl hr0.1 hr0.2 hL.2.2.2.2 hR) ⟨zB.blind, hW.pre (y := y)⟩ rfl hn hls rfl (lv_room hcat) hdg ⟨hcs.1, hcs.2⟩) hW.2.2.2.2.2 (fun _ _ z => z) (fun _ z => z) (fun u t H1 locs1 ht hvm hp hB _ _ hS => ?_)
    subst hp
    exact k r.1 r.2 H1 locs1 h (hW.call ht hvm hB hS)
end ZSV
