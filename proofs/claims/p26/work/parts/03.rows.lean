section JY
variable {p : Program} {l : Launch} {e : Env} {R : Room} {s : State} {m : MethodId} {args : Array Value} {below : List Frame} {meth : Method} {c : Code} {H : Heap} {locs : List Loc} {cells slots : Nat} {Q : State → Prop}
variable {cc : ByteArray} {pc : Nat} {ls : Array Slot} {rest : List Value} {D : va_G} {y : Nat → ClassId} {z : Nat → Nat} {A : Nat → Prop} {a : Nat} {ws : va_W}
theorem jx_icmp_eq (hx : p.tables.exec = Jvm.exec) (hb : c.code = cc) {off : Int} {tgt : Nat} {α : Type} {u v : Int} {X Y : Option α} {r : α} (h : jck u v (if u = v then X else Y) = some r) (hdg : decode cc pc = .ok (.if_icmp .eq off, 3)) (ht : (pc : Int) + off = (tgt : Int)) (kt : X = some r → W p l e R s m args below meth c H locs cells slots Q (F0 m tgt ls rest)) (kf : Y = some r → W p l e R s m args below meth c H locs cells slots Q (F0 m (pc + 3) ls rest)) : W p l e R s m args below meth c H locs cells slots Q (F0 m pc ls (.int (jI v) :: .int (jI u) :: rest)) := by
  obtain ⟨hu, hv, h⟩ := jck_i h
  refine lv_icmp_eq hx hb hdg ht (fun q => kt ?_) (fun q => kf ?_)
  · rwa [if_pos ((jI_inj hu hv).mp q)] at h
  · rwa [if_neg (fun w => q ((jI_inj hu hv).mpr w))] at h
theorem jx_icmp_ne (hx : p.tables.exec = Jvm.exec) (hb : c.code = cc) {off : Int} {tgt : Nat} {α : Type} {u v : Int} {X Y : Option α} {r : α} (h : jck u v (if u ≠ v then X else Y) = some r) (hdg : decode cc pc = .ok (.if_icmp .ne off, 3)) (ht : (pc : Int) + off = (tgt : Int)) (kt : X = some r → W p l e R s m args below meth c H locs cells slots Q (F0 m tgt ls rest)) (kf : Y = some r → W p l e R s m args below meth c H locs cells slots Q (F0 m (pc + 3) ls rest)) : W p l e R s m args below meth c H locs cells slots Q (F0 m pc ls (.int (jI v) :: .int (jI u) :: rest)) := by
  obtain ⟨hu, hv, h⟩ := jck_i h
  refine lv_icmp_ne hx hb hdg ht (fun q => kt ?_) (fun q => kf ?_)
  · rwa [if_pos ((not_congr (jI_inj hu hv)).mp q)] at h
  · rwa [if_neg (fun w => w ((jI_inj hu hv).mp q))] at h
theorem jx_icmp_lt (hx : p.tables.exec = Jvm.exec) (hb : c.code = cc) {off : Int} {tgt : Nat} {α : Type} {u v : Int} {X Y : Option α} {r : α} (h : jck u v (if u < v then X else Y) = some r) (hdg : decode cc pc = .ok (.if_icmp .lt off, 3)) (ht : (pc : Int) + off = (tgt : Int)) (kt : X = some r → W p l e R s m args below meth c H locs cells slots Q (F0 m tgt ls rest)) (kf : Y = some r → W p l e R s m args below meth c H locs cells slots Q (F0 m (pc + 3) ls rest)) : W p l e R s m args below meth c H locs cells slots Q (F0 m pc ls (.int (jI v) :: .int (jI u) :: rest)) := by
  obtain ⟨hu, hv, h⟩ := jck_i h
  refine lv_icmp_lt hx hb hdg ht (fun q => kt ?_) (fun q => kf ?_)
  · rwa [if_pos ((jI_lt hu hv).mp q)] at h
  · rwa [if_neg (fun w => q ((jI_lt hu hv).mpr w))] at h
theorem jx_icmp_ge (hx : p.tables.exec = Jvm.exec) (hb : c.code = cc) {off : Int} {tgt : Nat} {α : Type} {u v : Int} {X Y : Option α} {r : α} (h : jck u v (if v ≤ u then X else Y) = some r) (hdg : decode cc pc = .ok (.if_icmp .ge off, 3)) (ht : (pc : Int) + off = (tgt : Int)) (kt : X = some r → W p l e R s m args below meth c H locs cells slots Q (F0 m tgt ls rest)) (kf : Y = some r → W p l e R s m args below meth c H locs cells slots Q (F0 m (pc + 3) ls rest)) : W p l e R s m args below meth c H locs cells slots Q (F0 m pc ls (.int (jI v) :: .int (jI u) :: rest)) := by
  obtain ⟨hu, hv, h⟩ := jck_i h
  refine lv_icmp_ge hx hb hdg ht (fun q => kt ?_) (fun q => kf ?_)
  · rwa [if_pos ((jI_le hv hu).mp q)] at h
  · rwa [if_neg (fun w => q ((jI_le hv hu).mpr w))] at h
theorem jx_icmp_gt (hx : p.tables.exec = Jvm.exec) (hb : c.code = cc) {off : Int} {tgt : Nat} {α : Type} {u v : Int} {X Y : Option α} {r : α} (h : jck u v (if v < u then X else Y) = some r) (hdg : decode cc pc = .ok (.if_icmp .gt off, 3)) (ht : (pc : Int) + off = (tgt : Int)) (kt : X = some r → W p l e R s m args below meth c H locs cells slots Q (F0 m tgt ls rest)) (kf : Y = some r → W p l e R s m args below meth c H locs cells slots Q (F0 m (pc + 3) ls rest)) : W p l e R s m args below meth c H locs cells slots Q (F0 m pc ls (.int (jI v) :: .int (jI u) :: rest)) := by
  obtain ⟨hu, hv, h⟩ := jck_i h
  refine lv_icmp_gt hx hb hdg ht (fun q => kt ?_) (fun q => kf ?_)
  · rwa [if_pos ((jI_lt hv hu).mp q)] at h
  · rwa [if_neg (fun w => q ((jI_lt hv hu).mpr w))] at h
theorem jx_icmp_le (hx : p.tables.exec = Jvm.exec) (hb : c.code = cc) {off : Int} {tgt : Nat} {α : Type} {u v : Int} {X Y : Option α} {r : α} (h : jck u v (if u ≤ v then X else Y) = some r) (hdg : decode cc pc = .ok (.if_icmp .le off, 3)) (ht : (pc : Int) + off = (tgt : Int)) (kt : X = some r → W p l e R s m args below meth c H locs cells slots Q (F0 m tgt ls rest)) (kf : Y = some r → W p l e R s m args below meth c H locs cells slots Q (F0 m (pc + 3) ls rest)) : W p l e R s m args below meth c H locs cells slots Q (F0 m pc ls (.int (jI v) :: .int (jI u) :: rest)) := by
  obtain ⟨hu, hv, h⟩ := jck_i h
  refine lv_icmp_le hx hb hdg ht (fun q => kt ?_) (fun q => kf ?_)
  · rwa [if_pos ((jI_le hu hv).mp q)] at h
  · rwa [if_neg (fun w => q ((jI_le hu hv).mpr w))] at h
theorem jx_if_eq (hx : p.tables.exec = Jvm.exec) (hb : c.code = cc) {off : Int} {tgt : Nat} {α : Type} {u : Int} {X Y : Option α} {r : α} (h : jck u 0 (if u = 0 then X else Y) = some r) (hdg : decode cc pc = .ok (.ifCond .eq off, 3)) (ht : (pc : Int) + off = (tgt : Int)) (kt : X = some r → W p l e R s m args below meth c H locs cells slots Q (F0 m tgt ls rest)) (kf : Y = some r → W p l e R s m args below meth c H locs cells slots Q (F0 m (pc + 3) ls rest)) : W p l e R s m args below meth c H locs cells slots Q (F0 m pc ls (.int (jI u) :: rest)) := by
  obtain ⟨hu, hv, h⟩ := jck_i h
  refine lv_if_eq hx hb hdg ht (fun q => kt ?_) (fun q => kf ?_)
  · rwa [if_pos ((jI_inj hu hv).mp q)] at h
  · rwa [if_neg (fun w => q ((jI_inj hu hv).mpr w))] at h
theorem jx_if_ne (hx : p.tables.exec = Jvm.exec) (hb : c.code = cc) {off : Int} {tgt : Nat} {α : Type} {u : Int} {X Y : Option α} {r : α} (h : jck u 0 (if u ≠ 0 then X else Y) = some r) (hdg : decode cc pc = .ok (.ifCond .ne off, 3)) (ht : (pc : Int) + off = (tgt : Int)) (kt : X = some r → W p l e R s m args below meth c H locs cells slots Q (F0 m tgt ls rest)) (kf : Y = some r → W p l e R s m args below meth c H locs cells slots Q (F0 m (pc + 3) ls rest)) : W p l e R s m args below meth c H locs cells slots Q (F0 m pc ls (.int (jI u) :: rest)) := by
  obtain ⟨hu, hv, h⟩ := jck_i h
  refine lv_if_ne hx hb hdg ht (fun q => kt ?_) (fun q => kf ?_)
  · rwa [if_pos ((not_congr (jI_inj hu hv)).mp q)] at h
  · rwa [if_neg (fun w => w ((jI_inj hu hv).mp q))] at h
theorem jx_if_lt (hx : p.tables.exec = Jvm.exec) (hb : c.code = cc) {off : Int} {tgt : Nat} {α : Type} {u : Int} {X Y : Option α} {r : α} (h : jck u 0 (if u < 0 then X else Y) = some r) (hdg : decode cc pc = .ok (.ifCond .lt off, 3)) (ht : (pc : Int) + off = (tgt : Int)) (kt : X = some r → W p l e R s m args below meth c H locs cells slots Q (F0 m tgt ls rest)) (kf : Y = some r → W p l e R s m args below meth c H locs cells slots Q (F0 m (pc + 3) ls rest)) : W p l e R s m args below meth c H locs cells slots Q (F0 m pc ls (.int (jI u) :: rest)) := by
  obtain ⟨hu, hv, h⟩ := jck_i h
  refine lv_if_lt hx hb hdg ht (fun q => kt ?_) (fun q => kf ?_)
  · rwa [if_pos ((jI_lt hu hv).mp q)] at h
  · rwa [if_neg (fun w => q ((jI_lt hu hv).mpr w))] at h
theorem jx_if_ge (hx : p.tables.exec = Jvm.exec) (hb : c.code = cc) {off : Int} {tgt : Nat} {α : Type} {u : Int} {X Y : Option α} {r : α} (h : jck u 0 (if 0 ≤ u then X else Y) = some r) (hdg : decode cc pc = .ok (.ifCond .ge off, 3)) (ht : (pc : Int) + off = (tgt : Int)) (kt : X = some r → W p l e R s m args below meth c H locs cells slots Q (F0 m tgt ls rest)) (kf : Y = some r → W p l e R s m args below meth c H locs cells slots Q (F0 m (pc + 3) ls rest)) : W p l e R s m args below meth c H locs cells slots Q (F0 m pc ls (.int (jI u) :: rest)) := by
  obtain ⟨hu, hv, h⟩ := jck_i h
  refine lv_if_ge hx hb hdg ht (fun q => kt ?_) (fun q => kf ?_)
  · rwa [if_pos ((jI_le hv hu).mp q)] at h
  · rwa [if_neg (fun w => q ((jI_le hv hu).mpr w))] at h
theorem jx_if_gt (hx : p.tables.exec = Jvm.exec) (hb : c.code = cc) {off : Int} {tgt : Nat} {α : Type} {u : Int} {X Y : Option α} {r : α} (h : jck u 0 (if 0 < u then X else Y) = some r) (hdg : decode cc pc = .ok (.ifCond .gt off, 3)) (ht : (pc : Int) + off = (tgt : Int)) (kt : X = some r → W p l e R s m args below meth c H locs cells slots Q (F0 m tgt ls rest)) (kf : Y = some r → W p l e R s m args below meth c H locs cells slots Q (F0 m (pc + 3) ls rest)) : W p l e R s m args below meth c H locs cells slots Q (F0 m pc ls (.int (jI u) :: rest)) := by
  obtain ⟨hu, hv, h⟩ := jck_i h
  refine lv_if_gt hx hb hdg ht (fun q => kt ?_) (fun q => kf ?_)
  · rwa [if_pos ((jI_lt hv hu).mp q)] at h
  · rwa [if_neg (fun w => q ((jI_lt hv hu).mpr w))] at h
theorem jx_if_le (hx : p.tables.exec = Jvm.exec) (hb : c.code = cc) {off : Int} {tgt : Nat} {α : Type} {u : Int} {X Y : Option α} {r : α} (h : jck u 0 (if u ≤ 0 then X else Y) = some r) (hdg : decode cc pc = .ok (.ifCond .le off, 3)) (ht : (pc : Int) + off = (tgt : Int)) (kt : X = some r → W p l e R s m args below meth c H locs cells slots Q (F0 m tgt ls rest)) (kf : Y = some r → W p l e R s m args below meth c H locs cells slots Q (F0 m (pc + 3) ls rest)) : W p l e R s m args below meth c H locs cells slots Q (F0 m pc ls (.int (jI u) :: rest)) := by
  obtain ⟨hu, hv, h⟩ := jck_i h
  refine lv_if_le hx hb hdg ht (fun q => kt ?_) (fun q => kf ?_)
  · rwa [if_pos ((jI_le hu hv).mp q)] at h
  · rwa [if_neg (fun w => q ((jI_le hu hv).mpr w))] at h
theorem jx_iald (hx : p.tables.exec = Jvm.exec) (hb : c.code = cc) (hM : jM D y z A s) (hP : va_P D vwCl ws H) (q0 t0 : Nat) {cA : ClassId} {n : Nat} {f : Int → Int} (ha : ws[q0]? = some (a, .inl (cA, n, .inl (jA f)))) (ht : (jT y)[t0]? = some (cA, .int)) {α : Type} {i N : Int} {X : Option α} {r : α} (hN : N = (n : Int)) (hn : n ≤ 2147483648) (h : jix N i X = some r) (hdg : decode cc pc = .ok (.iaload, 1)) (kk : X = some r → W p l e R s m args below meth c H locs cells slots Q (F0 m (pc + 1) ls (.int (jI (f i)) :: rest))) : W p l e R s m args below meth c H locs cells slots Q (F0 m pc ls (.int (jI i) :: .ref a :: rest)) := by
  subst hN
  obtain ⟨h1, h2, h⟩ := jix_i h
  refine va_iald hx hb hM.1 hP q0 t0 ha ht (jI_in h1 h2 (by omega)) hdg ?_
  rw [jA_at f h1 (by omega)]
  exact kk h
theorem jx_zald (hx : p.tables.exec = Jvm.exec) (hb : c.code = cc) (hM : jM D y z A s) (hP : va_P D vwCl ws H) (q0 t0 : Nat) {cA : ClassId} {n : Nat} {f : Int → Int} (ha : ws[q0]? = some (a, .inl (cA, n, .inl (jA f)))) (ht : (jT y)[t0]? = some (cA, .boolean)) {α : Type} {i N : Int} {X : Option α} {r : α} (hN : N = (n : Int)) (hn : n ≤ 2147483648) (h : jix N i X = some r) (hdg : decode cc pc = .ok (.baload, 1)) (kk : X = some r → W p l e R s m args below meth c H locs cells slots Q (F0 m (pc + 1) ls (.int (jI (f i)) :: rest))) : W p l e R s m args below meth c H locs cells slots Q (F0 m pc ls (.int (jI i) :: .ref a :: rest)) := by
  subst hN
  obtain ⟨h1, h2, h⟩ := jix_i h
  refine va_zald hx hb hM.1 hP q0 t0 ha ht (jI_in h1 h2 (by omega)) hdg ?_
  rw [jA_at f h1 (by omega)]
  exact kk h
theorem jx_cald (hx : p.tables.exec = Jvm.exec) (hb : c.code = cc) (hM : jM D y z A s) (hP : va_P D vwCl ws H) (q0 t0 : Nat) {cA : ClassId} {n : Nat} {f : Int → Int} (ha : ws[q0]? = some (a, .inl (cA, n, .inl (jA f)))) (ht : (jT y)[t0]? = some (cA, .char)) {α : Type} {i N : Int} {X : Option α} {r : α} (hN : N = (n : Int)) (hn : n ≤ 2147483648) (h : jix N i X = some r) (hdg : decode cc pc = .ok (.caload, 1)) (kk : X = some r → W p l e R s m args below meth c H locs cells slots Q (F0 m (pc + 1) ls (.int (jI (f i)) :: rest))) : W p l e R s m args below meth c H locs cells slots Q (F0 m pc ls (.int (jI i) :: .ref a :: rest)) := by
  subst hN
  obtain ⟨h1, h2, h⟩ := jix_i h
  refine va_cald hx hb hM.1 hP q0 t0 ha ht (jI_in h1 h2 (by omega)) hdg ?_
  rw [jA_at f h1 (by omega)]
  exact kk h
theorem jx_iast (hx : p.tables.exec = Jvm.exec) (hb : c.code = cc) (hM : jM D y z A s) (hP : va_P D vwCl ws H) (hD : va_D A ws) (hS : va_S A s.heap H locs) (q0 t0 : Nat) {cA : ClassId} {n : Nat} {f : Int → Int} (ha : ws[q0]? = some (a, .inl (cA, n, .inl (jA f)))) (ht : (jT y)[t0]? = some (cA, .int)) {α : Type} {i x N : Int} {X : Option α} {r : α} (hN : N = (n : Int)) (hn : n ≤ 2147483648) (h : jix N i X = some r) (hdg : decode cc pc = .ok (.iastore, 1)) (kk : ∀ (H1 : Heap) (locs1 : List Loc), X = some r → va_P D vwCl (ws.set q0 (a, .inl (cA, n, .inl (jA (uI f i x))))) H1 → va_D A (ws.set q0 (a, .inl (cA, n, .inl (jA (uI f i x))))) → va_S A s.heap H1 locs1 → W p l e R s m args below meth c H1 locs1 cells slots Q (F0 m (pc + 1) ls rest)) : W p l e R s m args below meth c H locs cells slots Q (F0 m pc ls (.int (jI x) :: .int (jI i) :: .ref a :: rest)) := by
  subst hN
  obtain ⟨h1, h2, h⟩ := jix_i h
  refine va_iast hx hb hM.1 hP hD hS q0 t0 ha ht (jI_in h1 h2 (by omega)) hdg (fun H1 locs1 p1 p2 p3 => ?_)
  rw [jA_set f x h1 (by omega)] at p1 p2
  exact kk H1 locs1 h p1 p2 p3
theorem jx_zast (hx : p.tables.exec = Jvm.exec) (hb : c.code = cc) (hM : jM D y z A s) (hP : va_P D vwCl ws H) (hD : va_D A ws) (hS : va_S A s.heap H locs) (q0 t0 : Nat) {cA : ClassId} {n : Nat} {f : Int → Int} (ha : ws[q0]? = some (a, .inl (cA, n, .inl (jA f)))) (ht : (jT y)[t0]? = some (cA, .boolean)) {α : Type} {i x N : Int} {X : Option α} {r : α} (hN : N = (n : Int)) (hn : n ≤ 2147483648) (h : jix N i (jbo x X) = some r) (hdg : decode cc pc = .ok (.bastore, 1)) (kk : ∀ (H1 : Heap) (locs1 : List Loc), X = some r → va_P D vwCl (ws.set q0 (a, .inl (cA, n, .inl (jA (uI f i x))))) H1 → va_D A (ws.set q0 (a, .inl (cA, n, .inl (jA (uI f i x))))) → va_S A s.heap H1 locs1 → W p l e R s m args below meth c H1 locs1 cells slots Q (F0 m (pc + 1) ls rest)) : W p l e R s m args below meth c H locs cells slots Q (F0 m pc ls (.int (jI x) :: .int (jI i) :: .ref a :: rest)) := by
  subst hN
  obtain ⟨h1, h2, h⟩ := jix_i h
  obtain ⟨hz, h⟩ := jbo_i h
  refine va_zast hx hb hM.1 hP hD hS q0 t0 ha ht (jI_in h1 h2 (by omega)) hdg (fun H1 locs1 p1 p2 p3 => ?_)
  have e : vp_nar .boolean (jI x) = jI x := by rcases hz with q | q <;> subst q <;> rfl
  rw [e] at p1 p2
  rw [jA_set f x h1 (by omega)] at p1 p2
  exact kk H1 locs1 h p1 p2 p3
theorem jx_cast (hx : p.tables.exec = Jvm.exec) (hb : c.code = cc) (hM : jM D y z A s) (hP : va_P D vwCl ws H) (hD : va_D A ws) (hS : va_S A s.heap H locs) (q0 t0 : Nat) {cA : ClassId} {n : Nat} {f : Int → Int} (ha : ws[q0]? = some (a, .inl (cA, n, .inl (jA f)))) (ht : (jT y)[t0]? = some (cA, .char)) {α : Type} {i x N : Int} {X : Option α} {r : α} (hN : N = (n : Int)) (hn : n ≤ 2147483648) (h : jix N i (jch x X) = some r) (hdg : decode cc pc = .ok (.castore, 1)) (kk : ∀ (H1 : Heap) (locs1 : List Loc), X = some r → va_P D vwCl (ws.set q0 (a, .inl (cA, n, .inl (jA (uI f i x))))) H1 → va_D A (ws.set q0 (a, .inl (cA, n, .inl (jA (uI f i x))))) → va_S A s.heap H1 locs1 → W p l e R s m args below meth c H1 locs1 cells slots Q (F0 m (pc + 1) ls rest)) : W p l e R s m args below meth c H locs cells slots Q (F0 m pc ls (.int (jI x) :: .int (jI i) :: .ref a :: rest)) := by
  subst hN
  obtain ⟨h1, h2, h⟩ := jix_i h
  obtain ⟨hz, h⟩ := jch_i h
  refine va_cast hx hb hM.1 hP hD hS q0 t0 ha ht (jI_in h1 h2 (by omega)) hdg (fun H1 locs1 p1 p2 p3 => ?_)
  have e : vp_nar .char (jI x) = jI x := by obtain ⟨q, h3, h4⟩ := jchar hz; rw [h4]; unfold vp_nar; rw [(pk_charN h3).1]
  rw [e] at p1 p2
  rw [jA_set f x h1 (by omega)] at p1 p2
  exact kk H1 locs1 h p1 p2 p3
theorem jx_sald (hx : p.tables.exec = Jvm.exec) (hb : c.code = cc) {t : Nat} {g : Nat → Int} (hT : va_T .int t 4 (fun k => .int (jI (g k))) A s s.heap) (hS : va_S A s.heap H locs) {α : Type} {i N : Int} {X : Option α} {r : α} (hN : N = 4) (h : jix N i X = some r) (hdg : decode cc pc = .ok (.iaload, 1)) (kk : X = some r → W p l e R s m args below meth c H locs cells slots Q (F0 m (pc + 1) ls (.int (jI (g i.toNat)) :: rest))) : W p l e R s m args below meth c H locs cells slots Q (F0 m pc ls (.int (jI i) :: .ref t :: rest)) := by
  subst hN
  obtain ⟨h1, h2, h⟩ := jix_i h
  exact va_ti (v := .int (jI (g i.toNat))) hx hb hT hS (jI_in h1 (by omega) (by omega)) (by rw [jI_nat h1 (by omega)]) hdg (kk h)
theorem jx_mmax (hx : p.tables.exec = Jvm.exec) (hb : c.code = cc) (hml : c.maxLocals = ls.size) {own : String} {index : Nat} (hown : s.vm.findClass own = some m.cls) (hlink : (Cond.methodLink own index Lib.Math.max.name).before args s = true) (hstat : (Cond.static Lib.Math.max.name).before args s = true) (hini : (Cond.initialized "java/lang/Math").before args s = true) (hcode : (Cond.code Lib.Math.max.name Lib.Math.max.code 2 (some .int)).before args s = true) (hframes : 1 ≤ R.frames) (hlocals : (rest.map fun v => v.category).sum + 13 ≤ R.locals) (hc : cells ≤ R.cells) (hs : slots ≤ R.slots) {α : Type} {u v : Int} {X : Option α} {r : α} (h : jck u v X = some r) (hdg : decode cc pc = .ok (.invokestatic index, 3)) (kk : X = some r → W p l e R s m args below meth c H locs cells slots Q (F0 m (pc + 3) ls (.int (jI (jmax u v)) :: rest))) : W p l e R s m args below meth c H locs cells slots Q (F0 m pc ls (.int (jI v) :: .int (jI u) :: rest)) := by
  obtain ⟨hu, hv, h⟩ := jck_i h
  refine va_mmax hx hb hml hown hlink hstat hini hcode hframes hlocals hc hs hdg ?_
  have q : (if jI u < jI v then jI v else jI u) = jI (jmax u v) := by
    unfold jmax
    by_cases c9 : u < v
    · rw [if_pos c9, if_pos ((jI_lt hu hv).mpr c9)]
    · rw [if_neg c9, if_neg (fun w => c9 ((jI_lt hu hv).mp w))]
  rw [q]
  exact kk h
theorem jx_mmin (hx : p.tables.exec = Jvm.exec) (hb : c.code = cc) (hml : c.maxLocals = ls.size) {own : String} {index : Nat} (hown : s.vm.findClass own = some m.cls) (hlink : (Cond.methodLink own index Lib.Math.min.name).before args s = true) (hstat : (Cond.static Lib.Math.min.name).before args s = true) (hini : (Cond.initialized "java/lang/Math").before args s = true) (hcode : (Cond.code Lib.Math.min.name Lib.Math.min.code 2 (some .int)).before args s = true) (hframes : 1 ≤ R.frames) (hlocals : (rest.map fun v => v.category).sum + 13 ≤ R.locals) (hc : cells ≤ R.cells) (hs : slots ≤ R.slots) {α : Type} {u v : Int} {X : Option α} {r : α} (h : jck u v X = some r) (hdg : decode cc pc = .ok (.invokestatic index, 3)) (kk : X = some r → W p l e R s m args below meth c H locs cells slots Q (F0 m (pc + 3) ls (.int (jI (jmin u v)) :: rest))) : W p l e R s m args below meth c H locs cells slots Q (F0 m pc ls (.int (jI v) :: .int (jI u) :: rest)) := by
  obtain ⟨hu, hv, h⟩ := jck_i h
  refine va_mmin hx hb hml hown hlink hstat hini hcode hframes hlocals hc hs hdg ?_
  have q : (if jI v < jI u then jI v else jI u) = jI (jmin u v) := by
    unfold jmin
    by_cases c9 : v < u
    · rw [if_pos c9, if_pos ((jI_lt hv hu).mpr c9)]
    · rw [if_neg c9, if_neg (fun w => c9 ((jI_lt hv hu).mp w))]
  rw [q]
  exact kk h
theorem jx_tabO (hx : p.tables.exec = Jvm.exec) (hb : c.code = cc) {dflt lo hi : Int} {offs : Array Int} {len tgt : Nat} {u : Int} (hu : rg u) (hdg : decode cc pc = .ok (.tableswitch dflt lo hi offs, len)) (h : u < lo ∨ hi < u) (ht : (pc : Int) + dflt = (tgt : Int)) (k : W p l e R s m args below meth c H locs cells slots Q (F0 m tgt ls rest)) : W p l e R s m args below meth c H locs cells slots Q (F0 m pc ls (.int (jI u) :: rest)) := lv_tableOut hx hb hdg (by rw [jI_toInt hu]; exact h) ht k
theorem jx_tabI (hx : p.tables.exec = Jvm.exec) (hb : c.code = cc) {dflt lo hi off : Int} {offs : Array Int} {len tgt : Nat} {u : Int} (hu : rg u) (hdg : decode cc pc = .ok (.tableswitch dflt lo hi offs, len)) (v : Int) (hv : u = v) (h1 : ¬ v < lo) (h2 : ¬ hi < v) (ho : offs[(v - lo).toNat]? = some off) (ht : (pc : Int) + off = (tgt : Int)) (k : W p l e R s m args below meth c H locs cells slots Q (F0 m tgt ls rest)) : W p l e R s m args below meth c H locs cells slots Q (F0 m pc ls (.int (jI u) :: rest)) := by
  subst hv
  exact lv_tableIn hx hb hdg (by rw [jI_toInt hu]; exact h1) (by rw [jI_toInt hu]; exact h2) (by rw [jI_toInt hu]; exact ho) ht k
def jlushr (x : Int64) (k : Int) : Int64 := (x.toUInt64 >>> ((jI k).toInt64.toUInt64 &&& Int64.toUInt64 63)).toInt64
def jlshl (x : Int64) (k : Int) : Int64 := x <<< ((jI k).toInt64 &&& 63)
def jl2i (x : Int64) : Int := x.toInt32.toInt
def jlcmp (x w : Int64) : Int := (lg_cmp x w).toInt
def jcpy (f g : Int → Int) (n : Int) : Int → Int := fun q => if 0 ≤ q ∧ q < n then f q else g q
theorem jx_lcmp (hx : p.tables.exec = Jvm.exec) (hb : c.code = cc) {u v : Int64} (hdg : decode cc pc = .ok (.lcmp, 1)) (k : W p l e R s m args below meth c H locs cells slots Q (F0 m (pc + 1) ls (.int (jI (jlcmp u v)) :: rest))) : W p l e R s m args below meth c H locs cells slots Q (F0 m pc ls (.long v :: .long u :: rest)) := W.lcmp hx hb hdg (by rw [jlcmp, jI_of] at k; exact k)
theorem jx_i2c (hx : p.tables.exec = Jvm.exec) (hb : c.code = cc) {α : Type} {u : Int} {X : Option α} {r : α} (h : jch u X = some r) (hdg : decode cc pc = .ok (.i2c, 1)) (k : X = some r → W p l e R s m args below meth c H locs cells slots Q (F0 m (pc + 1) ls (.int (jI u) :: rest))) : W p l e R s m args below meth c H locs cells slots Q (F0 m pc ls (.int (jI u) :: rest)) := by
  obtain ⟨hz, h⟩ := jch_i h
  refine lv_i2c (v := jI u) hx hb hdg ?_ (k h)
  obtain ⟨q, h3, h4⟩ := jchar hz
  rw [h4, pk_char, pk_tn (by omega), Nat.mod_eq_of_lt h3]
theorem jx_aald (hx : p.tables.exec = Jvm.exec) (hb : c.code = cc) (hM : jM D y z A s) (hP : va_P D vwCl ws H) (q0 t0 : Nat) {cA : ClassId} {n : Nat} {f : Nat → Option Nat} {a2 : Nat} (k : Nat) (ha : ws[q0]? = some (a, .inl (cA, n, .inr (.inr (.inr (.inr f)))))) (ht : (jT y)[t0]? = some (cA, .object RX3)) (hf : f k = some a2) (hk : k < n) (hn : n ≤ 2147483648) {i : Int} (hi : i = (k : Int)) (hdg : decode cc pc = .ok (.aaload, 1)) (kk : W p l e R s m args below meth c H locs cells slots Q (F0 m (pc + 1) ls (.ref a2 :: rest))) : W p l e R s m args below meth c H locs cells slots Q (F0 m pc ls (.int (jI i) :: .ref a :: rest)) := by
  subst hi
  refine va_aldq hx hb hM.1 hP q0 t0 ha ht (jI_in (by omega) (by omega) (by omega)) hdg ?_
  rw [jI_nat (by omega) (by omega), Int.toNat_natCast, hf]
  exact kk
theorem jx_copy4 (hx : p.tables.exec = Jvm.exec) (hb : c.code = cc) (hml : c.maxLocals = ls.size) {own : String} {index : Nat} (hown : s.vm.findClass own = some m.cls) (hlink : (Cond.methodLink own index arraycopyName).before args s = true) (hnat : (Cond.native arraycopyName).before args s = true) (hstat : (Cond.static arraycopyName).before args s = true) (hini : (Cond.initialized "java/lang/System").before args s = true) (hM : jM D y z A s) (hP : va_P D vwCl ws H) (hD : va_D A ws) (hS : va_S A s.heap H locs) (q0 q1 : Nat) {a0 : Nat} {f g : Int → Int} (ha0 : ws[q0]? = some (a0, .inl (y 0, 4, .inl (jA f)))) (ha1 : ws[q1]? = some (a, .inl (y 0, 4, .inl (jA g)))) (hframes : 1 ≤ R.frames) (hlocals : (rest.map fun v => v.category).sum + (nativeFrameWords "java/lang/System" "arraycopy" 5 + 11) ≤ R.locals) (hdg : decode cc pc = .ok (.invokestatic index, 3)) (kk : ∀ (H1 : Heap) (locs1 : List Loc), va_P D vwCl (ws.set q1 (a, .inl (y 0, 4, .inl (jA (jcpy f g 4))))) H1 → va_D A (ws.set q1 (a, .inl (y 0, 4, .inl (jA (jcpy f g 4))))) → va_S A s.heap H1 locs1 → W p l e R s m args below meth c H1 locs1 cells slots Q (F0 m (pc + 3) ls rest)) : W p l e R s m args below meth c H locs cells slots Q (F0 m pc ls (.int (jI 4) :: .int (jI 0) :: .ref a :: .int (jI 0) :: .ref a0 :: rest)) := by
  refine va_copyi hx hb hml hown hlink hnat hstat hini hM.1 hP hD hS q0 q1 0 0 (ty := .int) ha0 ha1 rfl rfl rfl (by decide +kernel) (by decide +kernel) (by decide +kernel) (by decide +kernel) (by decide +kernel) (fun _ _ => rfl) hframes hlocals hdg (fun H1 locs1 p1 p2 p3 => ?_)
  have e : va_cpy (jA f) (jA g) (jI 0).toNatClampNeg (jI 0).toNatClampNeg (jI 4).toNatClampNeg = jA (jcpy f g 4) := by
    funext k
    rw [show (jI 0).toNatClampNeg = 0 from by decide +kernel, show (jI 4).toNatClampNeg = 4 from by decide +kernel]
    by_cases hk : k < 4
    · rw [pk_cpy_in (Nat.zero_le _) (by omega)]
      show jI (f ((0 + (k - 0) : Nat) : Int)) = jI (if 0 ≤ (k : Int) ∧ (k : Int) < 4 then f k else g k)
      rw [if_pos (by omega), show 0 + (k - 0) = k by omega]
    · rw [pk_cpy_out (Or.inr (by omega))]
      show jI (g (k : Int)) = jI (if 0 ≤ (k : Int) ∧ (k : Int) < 4 then f k else g k)
      rw [if_neg (by omega)]
  rw [e] at p1 p2
  exact kk H1 locs1 p1 p2 p3
theorem jx_cvi {cd : ByteArray} {nL index maxL : Nat} {Ts wsc ws1 : List Cond} {own C : String} {ym : MethodName} {bytes : ByteArray} {ret : Option FieldType} {rm : Room} {b : Addr} {As st0 : List Value} {cs wr cw cw1 cs1 : List va_W} {rv : Int}
    (S : CallFix p m c cd nL s args Ts own) (hM : jM D y z A s) (hP : va_P D vwCl cs.flatten H) (hD : va_D A cs.flatten) (hS : va_S A s.heap H locs) (hA : ∀ q, s.heap.size ≤ q → A q)
    (hp : cs.Perm (wr ++ cw)) (hp1 : (wr ++ cw1).Perm cs1) (hc : jCI l D y z ym wsc rm (.ref b :: As) cw cw1 rv)
    (n : Nat) (hT : GoodIn Ts (wsV own index C ym wsc)) (hw : wsc = Cond.code ym bytes maxL ret :: ws1) (hr : rm.cells = 0 ∧ rm.slots = 0) (hd : ym.cls = C ∧ ym.cls ≠ "java/lang/invoke/MethodHandle" ∧ ym.cls ≠ "java/lang/invoke/VarHandle" ∧ (parseMethodDescriptor ym.desc).map (fun d => d.parameters.length) = some n) (hR : rm.frames + 1 ≤ R.frames ∧ 8 + (maxL + 11) + rm.locals ≤ R.locals)
    (q0 ci : Nat) {fs : List Value} (he : cw.flatten[q0]? = some (b, .inr (ci, fs))) {q : vw_C} (hci : vwCl[ci]? = some q) (hC : q.1 = C) (hst : st0 = As.reverse ++ .ref b :: rest) (hn : As.length = n) (hz : ls.size = nL) (hrm : (rest.map fun v => v.category).sum ≤ 8) (hdg : decode cd pc = .ok (.invokevirtual index, 3)) (hf : cells ≤ R.cells ∧ slots ≤ R.slots)
    (k : ∀ (H1 : Heap) (locs1 : List Loc), va_P D vwCl cs1.flatten H1 → va_D A cs1.flatten → va_S A s.heap H1 locs1 → W p l e R s m args below meth c H1 locs1 cells slots Q (F0 m (pc + 3) ls (.int (jI rv) :: rest))) : W p l e R s m args below meth c H locs cells slots Q (F0 m pc ls st0) := by
  subst hst
  have hP2 := jP_perm hp hP
  have hD2 := jD_perm hp.flatten hD
  rw [List.flatten_append] at hP2 hD2
  have hPc : va_P D vwCl cw.flatten H := fun k9 q9 h9 => by
    obtain ⟨j, hj⟩ := List.getElem?_of_mem (List.mem_append_right wr.flatten (List.mem_of_getElem? h9))
    exact hP2 j q9 hj
  have hDc : va_D A cw.flatten := by
    rw [jD_iff] at hD2 ⊢
    rw [List.map_append, List.nodup_append] at hD2
    exact ⟨hD2.1.2.1, fun q9 h9 => hD2.2 q9 (List.mem_append_right _ h9)⟩
  have hFc : ∀ q9, va_A cw.flatten H.size q9 → A q9 := fun q9 h9 => by
    rcases h9 with ⟨k9, e9, h9⟩ | h9
    · exact hDc.2 k9 _ h9
    · exact hA q9 (Nat.le_trans hS.1 h9)
  refine va_calli (va_runV (As := As) (rest := rest) S (hc H.size) (cwV n S.2.2.2.2 hT hw hr.1 hr.2 hd hR) ⟨jblind _ D y z H.size cw, by subst hC; exact va_recv hM.1 hPc hci he, fun U hU hW => ⟨rfl, by rw [hU], by rw [hU]; exact hPc, hDc.weaken (fun _ _ _ _ => trivial), hM.there hS hFc hU hW⟩⟩ rfl hn hz rfl (lv_room hrm) hdg hf) hS (fun q9 _ h9 => hFc q9 h9) hFc (fun r9 u9 t9 H9 locs9 ht9 _ hw9 hB9 hz9 hk9 hS9 => ?_)
  subst hw9
  have hP9 : va_P D vwCl cw1.flatten H9 := by rw [← ht9]; exact hB9.1
  have hJ := jch_join hP2 hD2 hk9 hFc hP9 hB9.2
  rw [← List.flatten_append] at hJ
  exact k H9 locs9 (jP_perm hp1 hJ.1) (jD_perm hp1.flatten hJ.2) hS9
theorem jx_cvv {cd : ByteArray} {nL index maxL : Nat} {Ts wsc ws1 : List Cond} {own C : String} {ym : MethodName} {bytes : ByteArray} {ret : Option FieldType} {rm : Room} {b : Addr} {As st0 : List Value} {cs wr cw cw1 cs1 : List va_W} {rv : Int}
    (S : CallFix p m c cd nL s args Ts own) (hM : jM D y z A s) (hP : va_P D vwCl cs.flatten H) (hD : va_D A cs.flatten) (hS : va_S A s.heap H locs) (hA : ∀ q, s.heap.size ≤ q → A q)
    (hp : cs.Perm (wr ++ cw)) (hp1 : (wr ++ cw1).Perm cs1) (hc : jCV l D y z ym wsc rm (.ref b :: As) cw cw1)
    (n : Nat) (hT : GoodIn Ts (wsV own index C ym wsc)) (hw : wsc = Cond.code ym bytes maxL ret :: ws1) (hr : rm.cells = 0 ∧ rm.slots = 0) (hd : ym.cls = C ∧ ym.cls ≠ "java/lang/invoke/MethodHandle" ∧ ym.cls ≠ "java/lang/invoke/VarHandle" ∧ (parseMethodDescriptor ym.desc).map (fun d => d.parameters.length) = some n) (hR : rm.frames + 1 ≤ R.frames ∧ 8 + (maxL + 11) + rm.locals ≤ R.locals)
    (q0 ci : Nat) {fs : List Value} (he : cw.flatten[q0]? = some (b, .inr (ci, fs))) {q : vw_C} (hci : vwCl[ci]? = some q) (hC : q.1 = C) (hst : st0 = As.reverse ++ .ref b :: rest) (hn : As.length = n) (hz : ls.size = nL) (hrm : (rest.map fun v => v.category).sum ≤ 8) (hdg : decode cd pc = .ok (.invokevirtual index, 3)) (hf : cells ≤ R.cells ∧ slots ≤ R.slots)
    (k : ∀ (H1 : Heap) (locs1 : List Loc), va_P D vwCl cs1.flatten H1 → va_D A cs1.flatten → va_S A s.heap H1 locs1 → W p l e R s m args below meth c H1 locs1 cells slots Q (F0 m (pc + 3) ls rest)) : W p l e R s m args below meth c H locs cells slots Q (F0 m pc ls st0) := by
  subst hst
  have hP2 := jP_perm hp hP
  have hD2 := jD_perm hp.flatten hD
  rw [List.flatten_append] at hP2 hD2
  have hPc : va_P D vwCl cw.flatten H := fun k9 q9 h9 => by
    obtain ⟨j, hj⟩ := List.getElem?_of_mem (List.mem_append_right wr.flatten (List.mem_of_getElem? h9))
    exact hP2 j q9 hj
  have hDc : va_D A cw.flatten := by
    rw [jD_iff] at hD2 ⊢
    rw [List.map_append, List.nodup_append] at hD2
    exact ⟨hD2.1.2.1, fun q9 h9 => hD2.2 q9 (List.mem_append_right _ h9)⟩
  have hFc : ∀ q9, va_A cw.flatten H.size q9 → A q9 := fun q9 h9 => by
    rcases h9 with ⟨k9, e9, h9⟩ | h9
    · exact hDc.2 k9 _ h9
    · exact hA q9 (Nat.le_trans hS.1 h9)
  refine va_callv (va_runV (As := As) (rest := rest) S (hc H.size) (cwV n S.2.2.2.2 hT hw hr.1 hr.2 hd hR) ⟨jblind _ D y z H.size cw, by subst hC; exact va_recv hM.1 hPc hci he, fun U hU hW => ⟨rfl, by rw [hU], by rw [hU]; exact hPc, hDc.weaken (fun _ _ _ _ => trivial), hM.there hS hFc hU hW⟩⟩ rfl hn hz rfl (lv_room hrm) hdg hf) hS (fun q9 _ h9 => hFc q9 h9) hFc (fun u9 t9 H9 locs9 ht9 _ _ hB9 hz9 hk9 hS9 => ?_)
  have hP9 : va_P D vwCl cw1.flatten H9 := by rw [← ht9]; exact hB9.1
  have hJ := jch_join hP2 hD2 hk9 hFc hP9 hB9.2
  rw [← List.flatten_append] at hJ
  exact k H9 locs9 (jP_perm hp1 hJ.1) (jD_perm hp1.flatten hJ.2) hS9
theorem jx_csi {cd : ByteArray} {nL index maxL : Nat} {Ts wsc ws1 : List Cond} {own C : String} {ym : MethodName} {bytes : ByteArray} {ret : Option FieldType} {rm : Room} {b : Addr} {As st0 : List Value} {cs wr cw cw1 cs1 : List va_W} {rv : Int}
    (S : CallFix p m c cd nL s args Ts own) (hM : jM D y z A s) (hP : va_P D vwCl cs.flatten H) (hD : va_D A cs.flatten) (hS : va_S A s.heap H locs) (hA : ∀ q, s.heap.size ≤ q → A q)
    (hp : cs.Perm (wr ++ cw)) (hp1 : (wr ++ cw1).Perm cs1) (hc : jCI l D y z ym wsc rm As cw cw1 rv)
    (n : Nat) (hcw : CallB R s args own index ym bytes maxL ret wsc rm 0 0 n ∧ (Cond.static ym).before args s = true) (hw : wsc = Cond.code ym bytes maxL ret :: ws1) (hr : rm.cells = 0 ∧ rm.slots = 0)  (hR : rm.frames + 1 ≤ R.frames ∧ 8 + (maxL + 11) + rm.locals ≤ R.locals)
     (hst : st0 = As.reverse ++ rest) (hn : As.length = n) (hz : ls.size = nL) (hrm : (rest.map fun v => v.category).sum ≤ 8) (hdg : decode cd pc = .ok (.invokestatic index, 3)) (hf : cells ≤ R.cells ∧ slots ≤ R.slots)
    (k : ∀ (H1 : Heap) (locs1 : List Loc), va_P D vwCl cs1.flatten H1 → va_D A cs1.flatten → va_S A s.heap H1 locs1 → W p l e R s m args below meth c H1 locs1 cells slots Q (F0 m (pc + 3) ls (.int (jI rv) :: rest))) : W p l e R s m args below meth c H locs cells slots Q (F0 m pc ls st0) := by
  subst hst
  have hP2 := jP_perm hp hP
  have hD2 := jD_perm hp.flatten hD
  rw [List.flatten_append] at hP2 hD2
  have hPc : va_P D vwCl cw.flatten H := fun k9 q9 h9 => by
    obtain ⟨j, hj⟩ := List.getElem?_of_mem (List.mem_append_right wr.flatten (List.mem_of_getElem? h9))
    exact hP2 j q9 hj
  have hDc : va_D A cw.flatten := by
    rw [jD_iff] at hD2 ⊢
    rw [List.map_append, List.nodup_append] at hD2
    exact ⟨hD2.1.2.1, fun q9 h9 => hD2.2 q9 (List.mem_append_right _ h9)⟩
  have hFc : ∀ q9, va_A cw.flatten H.size q9 → A q9 := fun q9 h9 => by
    rcases h9 with ⟨k9, e9, h9⟩ | h9
    · exact hDc.2 k9 _ h9
    · exact hA q9 (Nat.le_trans hS.1 h9)
  refine va_calli (va_runS (As := As) (rest := rest) S (hc H.size) hcw ⟨jblind _ D y z H.size cw, fun U hU hW => ⟨rfl, by rw [hU], by rw [hU]; exact hPc, hDc.weaken (fun _ _ _ _ => trivial), hM.there hS hFc hU hW⟩⟩ rfl hn hz rfl (lv_room hrm) hdg hf) hS (fun q9 _ h9 => hFc q9 h9) hFc (fun r9 u9 t9 H9 locs9 ht9 _ hw9 hB9 hz9 hk9 hS9 => ?_)
  subst hw9
  have hP9 : va_P D vwCl cw1.flatten H9 := by rw [← ht9]; exact hB9.1
  have hJ := jch_join hP2 hD2 hk9 hFc hP9 hB9.2
  rw [← List.flatten_append] at hJ
  exact k H9 locs9 (jP_perm hp1 hJ.1) (jD_perm hp1.flatten hJ.2) hS9
theorem jx_csv {cd : ByteArray} {nL index maxL : Nat} {Ts wsc ws1 : List Cond} {own C : String} {ym : MethodName} {bytes : ByteArray} {ret : Option FieldType} {rm : Room} {b : Addr} {As st0 : List Value} {cs wr cw cw1 cs1 : List va_W} {rv : Int}
    (S : CallFix p m c cd nL s args Ts own) (hM : jM D y z A s) (hP : va_P D vwCl cs.flatten H) (hD : va_D A cs.flatten) (hS : va_S A s.heap H locs) (hA : ∀ q, s.heap.size ≤ q → A q)
    (hp : cs.Perm (wr ++ cw)) (hp1 : (wr ++ cw1).Perm cs1) (hc : jCV l D y z ym wsc rm As cw cw1)
    (n : Nat) (hcw : CallB R s args own index ym bytes maxL ret wsc rm 0 0 n ∧ (Cond.static ym).before args s = true) (hw : wsc = Cond.code ym bytes maxL ret :: ws1) (hr : rm.cells = 0 ∧ rm.slots = 0)  (hR : rm.frames + 1 ≤ R.frames ∧ 8 + (maxL + 11) + rm.locals ≤ R.locals)
     (hst : st0 = As.reverse ++ rest) (hn : As.length = n) (hz : ls.size = nL) (hrm : (rest.map fun v => v.category).sum ≤ 8) (hdg : decode cd pc = .ok (.invokestatic index, 3)) (hf : cells ≤ R.cells ∧ slots ≤ R.slots)
    (k : ∀ (H1 : Heap) (locs1 : List Loc), va_P D vwCl cs1.flatten H1 → va_D A cs1.flatten → va_S A s.heap H1 locs1 → W p l e R s m args below meth c H1 locs1 cells slots Q (F0 m (pc + 3) ls rest)) : W p l e R s m args below meth c H locs cells slots Q (F0 m pc ls st0) := by
  subst hst
  have hP2 := jP_perm hp hP
  have hD2 := jD_perm hp.flatten hD
  rw [List.flatten_append] at hP2 hD2
  have hPc : va_P D vwCl cw.flatten H := fun k9 q9 h9 => by
    obtain ⟨j, hj⟩ := List.getElem?_of_mem (List.mem_append_right wr.flatten (List.mem_of_getElem? h9))
    exact hP2 j q9 hj
  have hDc : va_D A cw.flatten := by
    rw [jD_iff] at hD2 ⊢
    rw [List.map_append, List.nodup_append] at hD2
    exact ⟨hD2.1.2.1, fun q9 h9 => hD2.2 q9 (List.mem_append_right _ h9)⟩
  have hFc : ∀ q9, va_A cw.flatten H.size q9 → A q9 := fun q9 h9 => by
    rcases h9 with ⟨k9, e9, h9⟩ | h9
    · exact hDc.2 k9 _ h9
    · exact hA q9 (Nat.le_trans hS.1 h9)
  refine va_callv (va_runS (As := As) (rest := rest) S (hc H.size) hcw ⟨jblind _ D y z H.size cw, fun U hU hW => ⟨rfl, by rw [hU], by rw [hU]; exact hPc, hDc.weaken (fun _ _ _ _ => trivial), hM.there hS hFc hU hW⟩⟩ rfl hn hz rfl (lv_room hrm) hdg hf) hS (fun q9 _ h9 => hFc q9 h9) hFc (fun u9 t9 H9 locs9 ht9 _ _ hB9 hz9 hk9 hS9 => ?_)
  have hP9 : va_P D vwCl cw1.flatten H9 := by rw [← ht9]; exact hB9.1
  have hJ := jch_join hP2 hD2 hk9 hFc hP9 hB9.2
  rw [← List.flatten_append] at hJ
  exact k H9 locs9 (jP_perm hp1 hJ.1) (jD_perm hp1.flatten hJ.2) hS9
theorem jx_cni {cd : ByteArray} {nL index maxL : Nat} {Ts wsc ws1 : List Cond} {own host : String} {ym : MethodName} {bytes : ByteArray} {ret : Option FieldType} {rm : Room} {As st0 : List Value} {cs : List va_W} {rv : Int}
    (S : CallFix p m c cd nL s args Ts own) (hM : jM D y z A s) (hP : va_P D vwCl cs.flatten H) (hD : va_D A cs.flatten) (hS : va_S A s.heap H locs) (hA : ∀ q, s.heap.size ≤ q → A q)
    (hc : jCI l D y z ym wsc rm As [] [] rv)
    (n : Nat) (hcw : va_CN R s args own index ym host bytes maxL ret wsc rm 0 0 n ∧ (Cond.static ym).before args s = true ∧ True)
    (hst : st0 = As.reverse ++ rest) (hn : As.length = n) (hz : ls.size = nL) (hrm : (rest.map fun v => v.category).sum ≤ 8) (hdg : decode cd pc = .ok (.invokestatic index, 3)) (hf : cells ≤ R.cells ∧ slots ≤ R.slots)
    (k : ∀ (H1 : Heap) (locs1 : List Loc), va_P D vwCl cs.flatten H1 → va_D A cs.flatten → va_S A s.heap H1 locs1 → W p l e R s m args below meth c H1 locs1 cells slots Q (F0 m (pc + 3) ls (.int (jI rv) :: rest))) : W p l e R s m args below meth c H locs cells slots Q (F0 m pc ls st0) := by
  subst hst
  have hFc : ∀ q9, va_A [] H.size q9 → A q9 := fun q9 h9 => by
    rcases h9 with ⟨k9, e9, h9⟩ | h9
    · simp at h9
    · exact hA q9 (Nat.le_trans hS.1 h9)
  refine va_calli (va_runSN (As := As) (rest := rest) S (hc H.size) hcw ⟨jblind _ D y z H.size [], fun U hU hW => ⟨rfl, by rw [hU], fun k9 q9 h9 => by simp at h9, ⟨fun i j p q h9 => by simp at h9, fun k9 q9 h9 => by simp at h9⟩, hM.there hS hFc hU hW⟩⟩ rfl hn hz rfl (lv_room hrm) hdg hf) hS (fun q9 _ h9 => hFc q9 h9) hFc (fun r9 u9 t9 H9 locs9 ht9 _ hw9 hB9 hz9 hk9 hS9 => ?_)
  subst hw9
  refine k H9 locs9 (hP.kept (fun k8 q8 h8 => hk9 q8.1 (hP k8 q8 h8).lt (fun h => ?_))) hD hS9
  rcases h with ⟨k9, e9, h9⟩ | h9
  · simp at h9
  · exact absurd (hP k8 q8 h8).lt (by omega)
end JY
