section JZ
variable {p : Program} {l : Launch} {e : Env} {R : Room} {s : State} {m : MethodId} {args : Array Value} {below : List Frame} {meth : Method} {c : Code} {H : Heap} {locs : List Loc} {cells slots : Nat} {Q : State → Prop}
variable {cc : ByteArray} {pc : Nat} {ls : Array Slot} {rest : List Value}
theorem jx_idiv (hx : p.tables.exec = Jvm.exec) (hb : c.code = cc) {α : Type} {u v : Int} {X : Option α} {r : α} (h : jre u v X = some r) (hdg : decode cc pc = .ok (.idiv, 1)) (k : X = some r → W p l e R s m args below meth c H locs cells slots Q (F0 m (pc + 1) ls (.int (jI (u / v)) :: rest))) : W p l e R s m args below meth c H locs cells slots Q (F0 m pc ls (.int (jI v) :: .int (jI u) :: rest)) := by
  obtain ⟨⟨h1, h2, h3, h4⟩, hX⟩ := jre_i h
  have eu : jI u = nI u.toNat := by show Int32.ofInt u = Int32.ofInt (u.toNat : Int); rw [Int.toNat_of_nonneg h1]
  have ev : jI v = nI v.toNat := by show Int32.ofInt v = Int32.ofInt (v.toNat : Int); rw [Int.toNat_of_nonneg (by omega)]
  have er : jI (u / v) = nI (u.toNat / v.toNat) := by
    show Int32.ofInt (u / v) = Int32.ofInt ((u.toNat / v.toNat : Nat) : Int)
    rw [Int.natCast_ediv, Int.toNat_of_nonneg h1, Int.toNat_of_nonneg (by omega)]
  refine lv_idiv hx hb hdg ?_ ?_
  · rw [ev]; exact nI_ne0 (by omega) (by omega)
  · rw [eu, ev, pk_div (by omega) (by omega) (by omega), ← er]
    exact k hX
end JZ
